theorem bs_V_mendLists_4 {G : fx_G} {S : fx_S} {Q : fx_R → fx_S → Prop} (hS : shC S) (v1 : Int32) (v2 : Int32)  (h : (12 ≤ v2 → Q (.inl (some (.int v1))) S) ∧ (¬ 12 ≤ v2 → fx_Go G (1, 13) mm_V_isDirectory 0 [(0, fx_r G 0), (1, .int v2)] [] S (fx_qi (fun x2 S1 => shC S1 ∧ (x2 = 0 → fx_Go G (8, 109) mm_V_mendLists 4 [(0, fx_r G 0), (1, .int v1), (2, .int (v2 + Int32.ofInt 1))] [] S1 Q) ∧ (¬ x2 = 0 → fx_Go G (3, 44) mm_V_collectEntries 0 [(0, fx_r G 0), (1, .int v2)] [] S1 (fx_qi (fun x4 S3 => shC S3 ∧ vp_in v2 12 ∧ fx_Go G (0, 0) mm_H_hasList 0 [(0, fx_r G (4 + 6 * (v2.toNatClampNeg))), (1, fx_r G 84), (2, .int x4)] [] S3 (fx_qi (fun x10 S9 => shC S9 ∧ (¬ x10 = 0 → fx_Go G (8, 109) mm_V_mendLists 4 [(0, fx_r G 0), (1, .int v1), (2, .int (v2 + Int32.ofInt 1))] [] S9 Q) ∧ (x10 = 0 → vp_in v2 12 ∧ fx_Go G (1, 18) mm_H_setList 0 [(0, fx_r G (4 + 6 * (v2.toNatClampNeg))), (1, fx_r G 84), (2, .int x4)] [] S9 (fx_qv (fun S15 => shC S15 ∧ fx_Go G (7, 96) mm_V_store 0 [(0, fx_r G 0), (1, .int v2)] [] S15 (fx_qv (fun S16 => shC S16 ∧ fx_Go G (8, 109) mm_V_mendLists 4 [(0, fx_r G 0), (1, .int (v1 + Int32.ofInt 1)), (2, .int (v2 + Int32.ofInt 1))] [] S16 Q) Q)) Q))) Q)) Q))) Q))) :
    fx_Go G (8, 109) mm_V_mendLists 4 [(0, fx_r G 0), (1, .int v1), (2, .int v2)] [] S Q := by
  refine bk_V_mendLists_4 0 v1 v2 ?_
  refine ⟨fun hc => ?_, fun hc => ?_⟩
  · replace h := h.1 hc
    exact h
  · replace h := h.2 hc
    refine ⟨(hS.is (by decide) rfl), ?_⟩
    refine fx_cons h (fx_qi_m fun x2 S1 h => ?_)
    obtain ⟨hS1, h⟩ := h
    refine ⟨fun hc => ?_, fun hc => ?_⟩
    · replace h := h.1 hc
      exact h
    · replace h := h.2 hc
      refine ⟨(hS1.is (by decide) rfl), ?_⟩
      refine fx_cons h (fx_qi_m fun x4 S3 h => ?_)
      obtain ⟨hS3, h⟩ := h
      refine ⟨(hS3.is (by decide) rfl), ?_⟩
      refine ⟨_, (hS3.P (by decide) rfl), ?_⟩
      refine ⟨(hS3.is (by decide) rfl), ?_⟩
      obtain ⟨w6, h⟩ := h
      refine ⟨(hS3.vin (by decide) rfl w6), _, hS3.P (by decide) (sheet_at _ (vin_lt w6)), ?_⟩
      refine ⟨_, (hS3.P (by decide) rfl), ?_⟩
      refine ⟨(hS3.iH (isH_at _ (vin_lt w6))), ?_⟩
      refine fx_cons h (fx_qi_m fun x10 S9 h => ?_)
      obtain ⟨hS9, h⟩ := h
      refine ⟨fun hc => ?_, fun hc => ?_⟩
      · replace h := h.1 hc
        exact h
      · replace h := h.2 hc
        refine ⟨(hS9.is (by decide) rfl), ?_⟩
        refine ⟨_, (hS9.P (by decide) rfl), ?_⟩
        refine ⟨(hS9.is (by decide) rfl), ?_⟩
        obtain ⟨w12, h⟩ := h
        refine ⟨(hS9.vin (by decide) rfl w12), _, hS9.P (by decide) (sheet_at _ (vin_lt w12)), ?_⟩
        refine ⟨_, (hS9.P (by decide) rfl), ?_⟩
        refine ⟨(hS9.iH (isH_at _ (vin_lt w12))), ?_⟩
        refine fx_cons h (fx_qv_m fun S15 h => ?_)
        obtain ⟨hS15, h⟩ := h
        refine ⟨(hS15.is (by decide) rfl), ?_⟩
        refine fx_cons h (fx_qv_m fun S16 h => ?_)
        obtain ⟨hS16, h⟩ := h
        exact h
theorem bs_V_collectEntries_0 {G : fx_G} {S : fx_S} {Q : fx_R → fx_S → Prop} (hS : shC S) (v1 : Int32)  (h : fx_Go G (3, 44) mm_V_collectEntries 4 [(0, fx_r G 0), (1, .int v1), (2, .int 0), (3, .int 1)] [] S Q) :
    fx_Go G (3, 44) mm_V_collectEntries 0 [(0, fx_r G 0), (1, .int v1)] [] S Q := by
  refine bk_V_collectEntries_0 0 v1 ?_
  exact h
theorem bs_V_collectEntries_4 {G : fx_G} {S : fx_S} {Q : fx_R → fx_S → Prop} (hS : shC S) (v1 : Int32) (v2 : Int32) (v3 : Int32)  (h : (12 ≤ v3 → Q (.inl (some (.int v2))) S) ∧ (¬ 12 ≤ v3 → fx_Go G (0, 0) mm_V_isUsed 0 [(0, fx_r G 0), (1, .int v3)] [] S (fx_qi (fun x2 S1 => shC S1 ∧ (x2 = 0 → fx_Go G (3, 44) mm_V_collectEntries 4 [(0, fx_r G 0), (1, .int v1), (2, .int v2), (3, .int (v3 + Int32.ofInt 1))] [] S1 Q) ∧ (¬ x2 = 0 → vp_in v3 12 ∧ (¬ (fx_I S1 (4 + 6 * (v3.toNatClampNeg)) 1) = v1 → fx_Go G (3, 44) mm_V_collectEntries 4 [(0, fx_r G 0), (1, .int v1), (2, .int v2), (3, .int (v3 + Int32.ofInt 1))] [] S1 Q) ∧ ((fx_I S1 (4 + 6 * (v3.toNatClampNeg)) 1) = v1 → fx_Go G (2, 28) mm_V_insertByName 0 [(0, fx_r G 0), (1, fx_r G 84), (2, .int v2), (3, .int v3)] [] S1 (fx_qi (fun x8 S7 => shC S7 ∧ fx_Go G (3, 44) mm_V_collectEntries 4 [(0, fx_r G 0), (1, .int v1), (2, .int x8), (3, .int (v3 + Int32.ofInt 1))] [] S7 Q) Q)))) Q))) :
    fx_Go G (3, 44) mm_V_collectEntries 4 [(0, fx_r G 0), (1, .int v1), (2, .int v2), (3, .int v3)] [] S Q := by
  refine bk_V_collectEntries_4 0 v1 v2 v3 ?_
  refine ⟨fun hc => ?_, fun hc => ?_⟩
  · replace h := h.1 hc
    exact h
  · replace h := h.2 hc
    refine ⟨(hS.is (by decide) rfl), ?_⟩
    refine fx_cons h (fx_qi_m fun x2 S1 h => ?_)
    obtain ⟨hS1, h⟩ := h
    refine ⟨fun hc => ?_, fun hc => ?_⟩
    · replace h := h.1 hc
      exact h
    · replace h := h.2 hc
      refine ⟨(hS1.is (by decide) rfl), ?_⟩
      refine ⟨_, (hS1.P (by decide) rfl), ?_⟩
      refine ⟨(hS1.is (by decide) rfl), ?_⟩
      obtain ⟨w4, h⟩ := h
      refine ⟨(hS1.vin (by decide) rfl w4), _, hS1.P (by decide) (sheet_at _ (vin_lt w4)), ?_⟩
      refine ⟨(hS1.iH (isH_at _ (vin_lt w4))), ?_⟩
      refine ⟨fun hc => ?_, fun hc => ?_⟩
      · replace h := h.1 hc
        exact h
      · replace h := h.2 hc
        refine ⟨_, (hS1.P (by decide) rfl), ?_⟩
        refine fx_cons h (fx_qi_m fun x8 S7 h => ?_)
        obtain ⟨hS7, h⟩ := h
        exact h
theorem bs_V_noteTaken_0 {G : fx_G} {S : fx_S} {Q : fx_R → fx_S → Prop} (hS : shC S)   (h : fx_Go G (1, 12) mm_V_noteTaken 2 [(0, fx_r G 0), (1, .int 0)] [] S Q) :
    fx_Go G (1, 12) mm_V_noteTaken 0 [(0, fx_r G 0)] [] S Q := by
  refine bk_V_noteTaken_0 0 ?_
  exact h
theorem bs_V_noteTaken_2 {G : fx_G} {S : fx_S} {Q : fx_R → fx_S → Prop} (hS : shC S) (v1 : Int32)  (h : (128 ≤ v1 → fx_Go G (1, 12) mm_V_noteTaken 24 [(0, fx_r G 0), (1, .int 0)] [] S Q) ∧ (¬ 128 ≤ v1 → vp_in v1 128 ∧ ∀ S3, S3 = fx_setI S 76 (v1.toNatClampNeg) (vp_nar .boolean 0) → fx_Go G (1, 12) mm_V_noteTaken 2 [(0, fx_r G 0), (1, .int (v1 + Int32.ofInt 1))] [] S3 Q)) :
    fx_Go G (1, 12) mm_V_noteTaken 2 [(0, fx_r G 0), (1, .int v1)] [] S Q := by
  refine bk_V_noteTaken_2 0 v1 ?_
  refine ⟨fun hc => ?_, fun hc => ?_⟩
  · replace h := h.1 hc
    exact h
  · replace h := h.2 hc
    refine ⟨(hS.is (by decide) rfl), ?_⟩
    refine ⟨_, (hS.P (by decide) rfl), ?_⟩
    refine ⟨(hS.is (by decide) rfl), ?_⟩
    obtain ⟨w2, h⟩ := h
    refine ⟨(hS.vin (by decide) rfl w2), ?_⟩
    intro S3 eS3
    replace h := h S3 eS3
    have hS3 : shC S3 := by rw [eS3]; exact hS
    exact h
theorem bs_V_noteTaken_24 {G : fx_G} {S : fx_S} {Q : fx_R → fx_S → Prop} (hS : shC S) (v1 : Int32)  (h : (12 ≤ v1 → Q (.inl none) S) ∧ (¬ 12 ≤ v1 → vp_in v1 12 ∧ fx_Go G (1, 12) mm_V_noteTaken 42 [(0, fx_r G 0), (1, .int v1), (2, fx_r G ((4 + 6 * (v1.toNatClampNeg)) + 4)), (3, .int 0)] [] S Q)) :
    fx_Go G (1, 12) mm_V_noteTaken 24 [(0, fx_r G 0), (1, .int v1)] [] S Q := by
  refine bk_V_noteTaken_24 0 v1 ?_
  refine ⟨fun hc => ?_, fun hc => ?_⟩
  · replace h := h.1 hc
    exact h
  · replace h := h.2 hc
    refine ⟨(hS.is (by decide) rfl), ?_⟩
    refine ⟨_, (hS.P (by decide) rfl), ?_⟩
    refine ⟨(hS.is (by decide) rfl), ?_⟩
    obtain ⟨w2, h⟩ := h
    refine ⟨(hS.vin (by decide) rfl w2), _, hS.P (by decide) (sheet_at _ (vin_lt w2)), ?_⟩
    refine ⟨(hS.iH (isH_at _ (vin_lt w2))), ?_⟩
    refine ⟨_, (hS.pHy (isH_at _ (vin_lt w2))), ?_⟩
    exact h
theorem bs_V_noteTaken_42 {G : fx_G} {S : fx_S} {Q : fx_R → fx_S → Prop} (hS : shC S) (v1 : Int32) (v2 : Nat) (v3 : Int32) (hv2 : isY v2) (h : ((fx_I S v2 1) ≤ v3 → fx_Go G (1, 12) mm_V_noteTaken 24 [(0, fx_r G 0), (1, .int (v1 + Int32.ofInt 1))] [] S Q) ∧ (¬ (fx_I S v2 1) ≤ v3 → vp_in v3 63 ∧ fx_Go G (0, 0) mm_V_isDataCluster 0 [(0, .int (fx_I S (v2 + 1) (v3.toNatClampNeg)))] [] S (fx_qi (fun x4 S3 => shC S3 ∧ (x4 = 0 → fx_Go G (1, 12) mm_V_noteTaken 42 [(0, fx_r G 0), (1, .int v1), (2, fx_r G v2), (3, .int (v3 + Int32.ofInt 1))] [] S3 Q) ∧ (¬ x4 = 0 → vp_in v3 63 ∧ vp_in (fx_I S3 (v2 + 1) (v3.toNatClampNeg)) 128 ∧ ∀ S9, S9 = fx_setI S3 76 ((fx_I S3 (v2 + 1) (v3.toNatClampNeg)).toNatClampNeg) (vp_nar .boolean 1) → fx_Go G (1, 12) mm_V_noteTaken 42 [(0, fx_r G 0), (1, .int v1), (2, fx_r G v2), (3, .int (v3 + Int32.ofInt 1))] [] S9 Q)) Q))) :
    fx_Go G (1, 12) mm_V_noteTaken 42 [(0, fx_r G 0), (1, .int v1), (2, fx_r G v2), (3, .int v3)] [] S Q := by
  refine bk_V_noteTaken_42 0 v1 v2 v3 ?_
  refine ⟨(hS.iY hv2), ?_⟩
  refine ⟨fun hc => ?_, fun hc => ?_⟩
  · replace h := h.1 hc
    exact h
  · replace h := h.2 hc
    refine ⟨_, (hS.pY hv2), ?_⟩
    refine ⟨(hS.iYl hv2), ?_⟩
    obtain ⟨w2, h⟩ := h
    refine ⟨(hS.vYl hv2 w2), ?_⟩
    refine fx_cons h (fx_qi_m fun x4 S3 h => ?_)
    obtain ⟨hS3, h⟩ := h
    refine ⟨fun hc => ?_, fun hc => ?_⟩
    · replace h := h.1 hc
      exact h
    · replace h := h.2 hc
      refine ⟨(hS3.is (by decide) rfl), ?_⟩
      refine ⟨_, (hS3.P (by decide) rfl), ?_⟩
      refine ⟨(hS3.iY hv2), ?_⟩
      refine ⟨_, (hS3.pY hv2), ?_⟩
      refine ⟨(hS3.iYl hv2), ?_⟩
      obtain ⟨w7, h⟩ := h
      refine ⟨(hS3.vYl hv2 w7), ?_⟩
      refine ⟨(hS3.is (by decide) rfl), ?_⟩
      obtain ⟨w8, h⟩ := h
      refine ⟨(hS3.vin (by decide) rfl w8), ?_⟩
      intro S9 eS9
      replace h := h S9 eS9
      have hS9 : shC S9 := by rw [eS9]; exact hS3
      exact h
theorem bs_V_isDataCluster_0 {G : fx_G} {S : fx_S} {Q : fx_R → fx_S → Prop} (hS : shC S) (v0 : Int32)  (h : (v0 < 48 → Q (.inl (some (.int 0))) S) ∧ (¬ v0 < 48 → (128 ≤ v0 → Q (.inl (some (.int 0))) S) ∧ (¬ 128 ≤ v0 → Q (.inl (some (.int 1))) S))) :
    fx_Go G (0, 0) mm_V_isDataCluster 0 [(0, .int v0)] [] S Q := by
  refine bk_V_isDataCluster_0 v0 ?_
  refine ⟨fun hc => ?_, fun hc => ?_⟩
  · replace h := h.1 hc
    exact h
  · replace h := h.2 hc
    refine ⟨fun hc => ?_, fun hc => ?_⟩
    · replace h := h.1 hc
      exact h
    · replace h := h.2 hc
      exact h
theorem bs_V_clustersFor_0 {G : fx_G} {S : fx_S} {Q : fx_R → fx_S → Prop} (hS : shC S) (v0 : Int32)  (h : Q (.inl (some (.int (((v0 + 16) - 1) / 16)))) S) :
    fx_Go G (0, 0) mm_V_clustersFor 0 [(0, .int v0)] [] S Q := by
  refine bk_V_clustersFor_0 v0 ?_
  exact h
theorem bs_V_endOfLastCluster_0 {G : fx_G} {S : fx_S} {Q : fx_R → fx_S → Prop} (hS : shC S) (v0 : Int32)  (h : fx_Go G (0, 0) mm_V_clustersFor 0 [(0, .int v0)] [] S (fx_qi (fun x2 S1 => shC S1 ∧ Q (.inl (some (.int (x2 * 16)))) S1) Q)) :
    fx_Go G (1, 12) mm_V_endOfLastCluster 0 [(0, .int v0)] [] S Q := by
  refine bk_V_endOfLastCluster_0 v0 ?_
  refine fx_cons h (fx_qi_m fun x2 S1 h => ?_)
  obtain ⟨hS1, h⟩ := h
  exact h
theorem bs_V_wordAt_0 {G : fx_G} {S : fx_S} {Q : fx_R → fx_S → Prop} (hS : shC S) (v0 : Nat) (v1 : Int32) {nv0 : Nat} (hv0 : isA v0 nv0) (h : vp_in v1 nv0 ∧ vp_in (v1 + 1) nv0 ∧ Q (.inl (some (.int ((fx_I S v0 (v1.toNatClampNeg)) + (256 * (fx_I S v0 ((v1 + 1).toNatClampNeg))))))) S) :
    fx_Go G (0, 0) mm_V_wordAt 0 [(0, fx_r G v0), (1, .int v1)] [] S Q := by
  refine bk_V_wordAt_0 v0 v1 ?_
  refine ⟨(hS.iA hv0), ?_⟩
  obtain ⟨w1, h⟩ := h
  refine ⟨(hS.vA hv0 w1), ?_⟩
  obtain ⟨w2, h⟩ := h
  refine ⟨(hS.vA hv0 w2), ?_⟩
  exact h
theorem bs_V_putWord_0 {G : fx_G} {S : fx_S} {Q : fx_R → fx_S → Prop} (hS : shC S) (v0 : Nat) (v1 : Int32) (v2 : Int32) {nv0 : Nat} (hv0 : isA v0 nv0) (h : vp_in v1 nv0 ∧ ∀ S2, S2 = fx_setI S v0 (v1.toNatClampNeg) (v2 &&& 255) → vp_in (v1 + 1) nv0 ∧ ∀ S4, S4 = fx_setI S2 v0 ((v1 + 1).toNatClampNeg) ((v2 >>> (8 &&& 31)) &&& 255) → Q (.inl none) S4) :
    fx_Go G (0, 0) mm_V_putWord 0 [(0, fx_r G v0), (1, .int v1), (2, .int v2)] [] S Q := by
  refine bk_V_putWord_0 v0 v1 v2 ?_
  refine ⟨(hS.iA hv0), ?_⟩
  obtain ⟨w1, h⟩ := h
  refine ⟨(hS.vA hv0 w1), ?_⟩
  intro S2 eS2
  replace h := h S2 eS2
  have hS2 : shC S2 := by rw [eS2]; exact hS
  obtain ⟨w3, h⟩ := h
  refine ⟨(hS2.vA hv0 w3), ?_⟩
  intro S4 eS4
  replace h := h S4 eS4
  have hS4 : shC S4 := by rw [eS4]; exact hS2
  exact h
