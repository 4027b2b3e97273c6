theorem bs_D_isCutNow_0 {G : fx_G} {S : fx_S} {Q : fx_R → fx_S → Prop} (hS : shC S)   (h : (¬ (fx_I S 1 1) = 0 → ∀ S1, S1 = fx_setI S 1 1 ((fx_I S 1 1) - 1) → (¬ (fx_I S1 1 1) = 0 → Q (.inl (some (.int 0))) S1) ∧ ((fx_I S1 1 1) = 0 → Q (.inl (some (.int 1))) S1)) ∧ ((fx_I S 1 1) = 0 → Q (.inl (some (.int 0))) S)) :
    fx_Go G (0, 0) mm_D_isCutNow 0 [(0, fx_r G 1)] [] S Q := by
  refine bk_D_isCutNow_0 1 ?_
  refine ⟨(hS.is (by decide) rfl), ?_⟩
  refine ⟨fun hc => ?_, fun hc => ?_⟩
  · replace h := h.1 hc
    intro S1 eS1
    replace h := h S1 eS1
    have hS1 : shC S1 := by rw [eS1]; exact hS
    refine ⟨fun hc => ?_, fun hc => ?_⟩
    · replace h := h.1 hc
      exact h
    · replace h := h.2 hc
      exact h
  · replace h := h.2 hc
    exact h
theorem bs_D_laySector_0 {G : fx_G} {S : fx_S} {Q : fx_R → fx_S → Prop} (hS : shC S) (v1 : Int32) (v2 : Int32) (v3 : Nat) {nv3 : Nat} (hv3 : isA v3 nv3) (h : fx_cp2 nv3 2048 (v2 * 32) ((v1 * 64) + (v2 * 32)) 32 ∧ ∀ S2, S2 = fx_setR S 2 (va_cpy (fx_I S v3) (fx_I S 2) ((v2 * 32).toNatClampNeg) (((v1 * 64) + (v2 * 32)).toNatClampNeg) ((32 : Int32).toNatClampNeg)) → Q (.inl none) S2) :
    fx_Go G (1, 18) mm_D_laySector 0 [(0, fx_r G 1), (1, .int v1), (2, .int v2), (3, fx_r G v3)] [] S Q := by
  refine bk_D_laySector_0 1 v1 v2 v3 ?_
  refine ⟨(hS.is (by decide) rfl), ?_⟩
  refine ⟨_, (hS.P (by decide) rfl), ?_⟩
  refine ⟨(hS.iA hv3), ?_⟩
  refine ⟨(hS.is (by decide) rfl), ?_⟩
  obtain ⟨w3, h⟩ := h
  refine ⟨fx_cp2.to (hS.lA hv3) (hS.ln (by decide) rfl) w3, ?_⟩
  intro S2 eS2
  replace h := h S2 eS2
  have hS2 : shC S2 := by rw [eS2]; exact hS
  exact h
theorem bs_D_liftRecord_0 {G : fx_G} {S : fx_S} {Q : fx_R → fx_S → Prop} (hS : shC S) (v1 : Int32) (v2 : Nat) {nv2 : Nat} (hv2 : isA v2 nv2) (h : fx_cp2 2048 nv2 (v1 * 64) 0 64 ∧ ∀ S2, S2 = fx_setR S v2 (va_cpy (fx_I S 2) (fx_I S v2) ((v1 * 64).toNatClampNeg) ((0 : Int32).toNatClampNeg) ((64 : Int32).toNatClampNeg)) → Q (.inl none) S2) :
    fx_Go G (1, 18) mm_D_liftRecord 0 [(0, fx_r G 1), (1, .int v1), (2, fx_r G v2)] [] S Q := by
  refine bk_D_liftRecord_0 1 v1 v2 ?_
  refine ⟨(hS.is (by decide) rfl), ?_⟩
  refine ⟨_, (hS.P (by decide) rfl), ?_⟩
  refine ⟨(hS.is (by decide) rfl), ?_⟩
  refine ⟨(hS.iA hv2), ?_⟩
  obtain ⟨w3, h⟩ := h
  refine ⟨fx_cp2.to (hS.ln (by decide) rfl) (hS.lA hv2) w3, ?_⟩
  intro S2 eS2
  replace h := h S2 eS2
  have hS2 : shC S2 := by rw [eS2]; exact hS
  exact h
theorem bs_D_fileByte_0 {G : fx_G} {S : fx_S} {Q : fx_R → fx_S → Prop} (hS : shC S) (v1 : Nat) (v2 : Int32) (hv1 : isY v1) (h : fx_Go G (0, 0) mm_Y_placeOf 0 [(0, fx_r G v1), (1, .int (v2 / 16))] [] S (fx_qi (fun x2 S1 => shC S1 ∧ fx_Go G (0, 0) mm_V_isDataCluster 0 [(0, .int x2)] [] S1 (fx_qi (fun x4 S3 => shC S3 ∧ (x4 = 0 → Q (.inl (some (.int 0))) S3) ∧ (¬ x4 = 0 → vp_in ((x2 * 16) + (v2 - v2 / 16 * 16)) 2048 ∧ Q (.inl (some (.int (fx_I S3 2 (((x2 * 16) + (v2 - v2 / 16 * 16)).toNatClampNeg))))) S3)) Q)) Q)) :
    fx_Go G (1, 13) mm_D_fileByte 0 [(0, fx_r G 1), (1, fx_r G v1), (2, .int v2)] [] S Q := by
  refine bk_D_fileByte_0 1 v1 v2 ?_
  refine ⟨(hS.iY hv1), ?_⟩
  refine fx_cons h (fx_qi_m fun x2 S1 h => ?_)
  obtain ⟨hS1, h⟩ := h
  refine fx_cons h (fx_qi_m fun x4 S3 h => ?_)
  obtain ⟨hS3, h⟩ := h
  refine ⟨fun hc => ?_, fun hc => ?_⟩
  · replace h := h.1 hc
    exact h
  · replace h := h.2 hc
    refine ⟨(hS3.is (by decide) rfl), ?_⟩
    refine ⟨_, (hS3.P (by decide) rfl), ?_⟩
    refine ⟨(hS3.is (by decide) rfl), ?_⟩
    obtain ⟨w6, h⟩ := h
    refine ⟨(hS3.vin (by decide) rfl w6), ?_⟩
    exact h
theorem bs_D_putFileByte_0 {G : fx_G} {S : fx_S} {Q : fx_R → fx_S → Prop} (hS : shC S) (v1 : Nat) (v2 : Int32) (v3 : Int32) (hv1 : isY v1) (h : fx_Go G (0, 0) mm_Y_placeOf 0 [(0, fx_r G v1), (1, .int (v2 / 16))] [] S (fx_qi (fun x2 S1 => shC S1 ∧ fx_Go G (0, 0) mm_V_isDataCluster 0 [(0, .int x2)] [] S1 (fx_qi (fun x4 S3 => shC S3 ∧ (x4 = 0 → Q (.inl none) S3) ∧ (¬ x4 = 0 → vp_in ((x2 * 16) + (v2 - v2 / 16 * 16)) 2048 ∧ ∀ S7, S7 = fx_setI S3 2 (((x2 * 16) + (v2 - v2 / 16 * 16)).toNatClampNeg) v3 → Q (.inl none) S7)) Q)) Q)) :
    fx_Go G (1, 13) mm_D_putFileByte 0 [(0, fx_r G 1), (1, fx_r G v1), (2, .int v2), (3, .int v3)] [] S Q := by
  refine bk_D_putFileByte_0 1 v1 v2 v3 ?_
  refine ⟨(hS.iY hv1), ?_⟩
  refine fx_cons h (fx_qi_m fun x2 S1 h => ?_)
  obtain ⟨hS1, h⟩ := h
  refine fx_cons h (fx_qi_m fun x4 S3 h => ?_)
  obtain ⟨hS3, h⟩ := h
  refine ⟨fun hc => ?_, fun hc => ?_⟩
  · replace h := h.1 hc
    exact h
  · replace h := h.2 hc
    refine ⟨(hS3.is (by decide) rfl), ?_⟩
    refine ⟨_, (hS3.P (by decide) rfl), ?_⟩
    refine ⟨(hS3.is (by decide) rfl), ?_⟩
    obtain ⟨w6, h⟩ := h
    refine ⟨(hS3.vin (by decide) rfl w6), ?_⟩
    intro S7 eS7
    replace h := h S7 eS7
    have hS7 : shC S7 := by rw [eS7]; exact hS3
    exact h
theorem bs_D_clearFile_0 {G : fx_G} {S : fx_S} {Q : fx_R → fx_S → Prop} (hS : shC S) (v1 : Nat) (v2 : Int32) (v3 : Int32) (hv1 : isY v1) (h : fx_Go G (2, 29) mm_D_clearFile 3 [(0, fx_r G 1), (1, fx_r G v1), (3, .int v3), (4, .int v2)] [] S Q) :
    fx_Go G (2, 29) mm_D_clearFile 0 [(0, fx_r G 1), (1, fx_r G v1), (2, .int v2), (3, .int v3)] [] S Q := by
  refine bk_D_clearFile_0 1 v1 v2 v3 ?_
  exact h
theorem bs_D_clearFile_3 {G : fx_G} {S : fx_S} {Q : fx_R → fx_S → Prop} (hS : shC S) (v1 : Nat) (v3 : Int32) (v4 : Int32) (hv1 : isY v1) (h : (v3 ≤ v4 → Q (.inl none) S) ∧ (¬ v3 ≤ v4 → fx_Go G (1, 13) mm_D_putFileByte 0 [(0, fx_r G 1), (1, fx_r G v1), (2, .int v4), (3, .int 0)] [] S (fx_qv (fun S1 => shC S1 ∧ fx_Go G (2, 29) mm_D_clearFile 3 [(0, fx_r G 1), (1, fx_r G v1), (3, .int v3), (4, .int (v4 + Int32.ofInt 1))] [] S1 Q) Q))) :
    fx_Go G (2, 29) mm_D_clearFile 3 [(0, fx_r G 1), (1, fx_r G v1), (3, .int v3), (4, .int v4)] [] S Q := by
  refine bk_D_clearFile_3 1 v1 v3 v4 ?_
  refine ⟨fun hc => ?_, fun hc => ?_⟩
  · replace h := h.1 hc
    exact h
  · replace h := h.2 hc
    refine ⟨(hS.is (by decide) rfl), ?_⟩
    refine fx_cons h (fx_qv_m fun S1 h => ?_)
    obtain ⟨hS1, h⟩ := h
    exact h
theorem bs_N_append_0 {G : fx_G} {S : fx_S} {Q : fx_R → fx_S → Prop} (hS : shC S) (v0 : Nat) (v1 : Int32) (hv0 : isN v0) (h : (v1 < 97 → (v1 < 48 → fx_Go G (0, 0) mm_N_append 29 [(0, fx_r G v0), (1, .int v1)] [.int 0] S Q) ∧ (¬ v1 < 48 → (57 < v1 → fx_Go G (0, 0) mm_N_append 29 [(0, fx_r G v0), (1, .int v1)] [.int 0] S Q) ∧ (¬ 57 < v1 → fx_Go G (0, 0) mm_N_append 29 [(0, fx_r G v0), (1, .int v1)] [.int 1] S Q))) ∧ (¬ v1 < 97 → (v1 ≤ 122 → fx_Go G (0, 0) mm_N_append 29 [(0, fx_r G v0), (1, .int v1)] [.int 1] S Q) ∧ (¬ v1 ≤ 122 → (v1 < 48 → fx_Go G (0, 0) mm_N_append 29 [(0, fx_r G v0), (1, .int v1)] [.int 0] S Q) ∧ (¬ v1 < 48 → (57 < v1 → fx_Go G (0, 0) mm_N_append 29 [(0, fx_r G v0), (1, .int v1)] [.int 0] S Q) ∧ (¬ 57 < v1 → fx_Go G (0, 0) mm_N_append 29 [(0, fx_r G v0), (1, .int v1)] [.int 1] S Q))))) :
    fx_Go G (0, 0) mm_N_append 0 [(0, fx_r G v0), (1, .int v1)] [] S Q := by
  refine bk_N_append_0 v0 v1 ?_
  refine ⟨fun hc => ?_, fun hc => ?_⟩
  · replace h := h.1 hc
    refine ⟨fun hc => ?_, fun hc => ?_⟩
    · replace h := h.1 hc
      exact h
    · replace h := h.2 hc
      refine ⟨fun hc => ?_, fun hc => ?_⟩
      · replace h := h.1 hc
        exact h
      · replace h := h.2 hc
        exact h
  · replace h := h.2 hc
    refine ⟨fun hc => ?_, fun hc => ?_⟩
    · replace h := h.1 hc
      exact h
    · replace h := h.2 hc
      refine ⟨fun hc => ?_, fun hc => ?_⟩
      · replace h := h.1 hc
        exact h
      · replace h := h.2 hc
        refine ⟨fun hc => ?_, fun hc => ?_⟩
        · replace h := h.1 hc
          exact h
        · replace h := h.2 hc
          exact h
theorem bs_N_append_29 {G : fx_G} {S : fx_S} {Q : fx_R → fx_S → Prop} (hS : shC S) (v0 : Nat) (v1 : Int32) (z0 : Int32) (hv0 : isN v0) (h : (z0 = 0 → Q (.inl (some (.int 0))) S) ∧ (¬ z0 = 0 → ((fx_I S v0 1) < 8 → vp_in (fx_I S v0 1) 8 ∧ ∀ S3, S3 = fx_setI S (v0 + 1) ((fx_I S v0 1).toNatClampNeg) v1 → ∀ S4, S4 = fx_setI S3 v0 1 ((fx_I S3 v0 1) + 1) → Q (.inl (some (.int 1))) S4) ∧ (¬ (fx_I S v0 1) < 8 → Q (.inl (some (.int 0))) S))) :
    fx_Go G (0, 0) mm_N_append 29 [(0, fx_r G v0), (1, .int v1)] [.int z0] S Q := by
  refine bk_N_append_29 v0 v1 z0 ?_
  refine ⟨fun hc => ?_, fun hc => ?_⟩
  · replace h := h.1 hc
    exact h
  · replace h := h.2 hc
    refine ⟨(hS.iN hv0), ?_⟩
    refine ⟨fun hc => ?_, fun hc => ?_⟩
    · replace h := h.1 hc
      refine ⟨_, (hS.pN hv0), ?_⟩
      refine ⟨(hS.iNl hv0), ?_⟩
      obtain ⟨w2, h⟩ := h
      refine ⟨(hS.vNl hv0 w2), ?_⟩
      intro S3 eS3
      replace h := h S3 eS3
      have hS3 : shC S3 := by rw [eS3]; exact hS
      intro S4 eS4
      replace h := h S4 eS4
      have hS4 : shC S4 := by rw [eS4]; exact hS3
      exact h
    · replace h := h.2 hc
      exact h
theorem bs_N_clear_0 {G : fx_G} {S : fx_S} {Q : fx_R → fx_S → Prop} (hS : shC S) (v0 : Nat) (hv0 : isN v0) (h : ∀ S1, S1 = fx_setI S v0 1 0 → Q (.inl none) S1) :
    fx_Go G (0, 0) mm_N_clear 0 [(0, fx_r G v0)] [] S Q := by
  refine bk_N_clear_0 v0 ?_
  refine ⟨(hS.iN hv0), ?_⟩
  intro S1 eS1
  replace h := h S1 eS1
  have hS1 : shC S1 := by rw [eS1]; exact hS
  exact h
theorem bs_N_copyFrom_0 {G : fx_G} {S : fx_S} {Q : fx_R → fx_S → Prop} (hS : shC S) (v0 : Nat) (v1 : Nat) (hv0 : isN v0) (hv1 : isN v1) (h : fx_cp2 8 8 0 0 8 ∧ ∀ S3, S3 = fx_setR S (v0 + 1) (va_cpy (fx_I S (v1 + 1)) (fx_I S (v0 + 1)) ((0 : Int32).toNatClampNeg) ((0 : Int32).toNatClampNeg) ((8 : Int32).toNatClampNeg)) → ∀ S5, S5 = fx_setI S3 v0 1 (fx_I S3 v1 1) → Q (.inl none) S5) :
    fx_Go G (1, 18) mm_N_copyFrom 0 [(0, fx_r G v0), (1, fx_r G v1)] [] S Q := by
  refine bk_N_copyFrom_0 v0 v1 ?_
  refine ⟨(hS.iN hv1), ?_⟩
  refine ⟨_, (hS.pN hv1), ?_⟩
  refine ⟨(hS.iN hv0), ?_⟩
  refine ⟨_, (hS.pN hv0), ?_⟩
  refine ⟨(hS.iNl hv1), ?_⟩
  refine ⟨(hS.iNl hv0), ?_⟩
  obtain ⟨w4, h⟩ := h
  refine ⟨fx_cp2.to (hS.lNl hv1) (hS.lNl hv0) w4, ?_⟩
  intro S3 eS3
  replace h := h S3 eS3
  have hS3 : shC S3 := by rw [eS3]; exact hS
  intro S5 eS5
  replace h := h S5 eS5
  have hS5 : shC S5 := by rw [eS5]; exact hS3
  exact h
theorem bs_N_compare_0 {G : fx_G} {S : fx_S} {Q : fx_R → fx_S → Prop} (hS : shC S) (v0 : Nat) (v1 : Nat) (hv0 : isN v0) (hv1 : isN v1) (h : fx_Go G (1, 13) mm_N_compare 14 [(0, fx_r G v0), (1, fx_r G v1), (2, .int (if (fx_I S v1 1) < (fx_I S v0 1) then (fx_I S v1 1) else (fx_I S v0 1))), (3, .int 0)] [] S Q) :
    fx_Go G (1, 13) mm_N_compare 0 [(0, fx_r G v0), (1, fx_r G v1)] [] S Q := by
  refine bk_N_compare_0 v0 v1 ?_
  refine ⟨(hS.iN hv0), ?_⟩
  refine ⟨(hS.iN hv1), ?_⟩
  exact h
theorem bs_N_compare_14 {G : fx_G} {S : fx_S} {Q : fx_R → fx_S → Prop} (hS : shC S) (v0 : Nat) (v1 : Nat) (v2 : Int32) (v3 : Int32) (hv0 : isN v0) (hv1 : isN v1) (h : (v2 ≤ v3 → Q (.inl (some (.int ((fx_I S v0 1) - (fx_I S v1 1))))) S) ∧ (¬ v2 ≤ v3 → vp_in v3 8 ∧ vp_in v3 8 ∧ ((fx_I S (v0 + 1) (v3.toNatClampNeg)) = (fx_I S (v1 + 1) (v3.toNatClampNeg)) → fx_Go G (1, 13) mm_N_compare 14 [(0, fx_r G v0), (1, fx_r G v1), (2, .int v2), (3, .int (v3 + Int32.ofInt 1))] [] S Q) ∧ (¬ (fx_I S (v0 + 1) (v3.toNatClampNeg)) = (fx_I S (v1 + 1) (v3.toNatClampNeg)) → vp_in v3 8 ∧ vp_in v3 8 ∧ Q (.inl (some (.int ((fx_I S (v0 + 1) (v3.toNatClampNeg)) - (fx_I S (v1 + 1) (v3.toNatClampNeg)))))) S))) :
    fx_Go G (1, 13) mm_N_compare 14 [(0, fx_r G v0), (1, fx_r G v1), (2, .int v2), (3, .int v3)] [] S Q := by
  refine bk_N_compare_14 v0 v1 v2 v3 ?_
  refine ⟨fun hc => ?_, fun hc => ?_⟩
  · replace h := h.1 hc
    refine ⟨(hS.iN hv0), ?_⟩
    refine ⟨(hS.iN hv1), ?_⟩
    exact h
  · replace h := h.2 hc
    refine ⟨(hS.iN hv0), ?_⟩
    refine ⟨_, (hS.pN hv0), ?_⟩
    refine ⟨(hS.iNl hv0), ?_⟩
    obtain ⟨w2, h⟩ := h
    refine ⟨(hS.vNl hv0 w2), ?_⟩
    refine ⟨(hS.iN hv1), ?_⟩
    refine ⟨_, (hS.pN hv1), ?_⟩
    refine ⟨(hS.iNl hv1), ?_⟩
    obtain ⟨w4, h⟩ := h
    refine ⟨(hS.vNl hv1 w4), ?_⟩
    refine ⟨fun hc => ?_, fun hc => ?_⟩
    · replace h := h.1 hc
      exact h
    · replace h := h.2 hc
      refine ⟨_, (hS.pN hv0), ?_⟩
      refine ⟨(hS.iNl hv0), ?_⟩
      obtain ⟨w6, h⟩ := h
      refine ⟨(hS.vNl hv0 w6), ?_⟩
      refine ⟨_, (hS.pN hv1), ?_⟩
      refine ⟨(hS.iNl hv1), ?_⟩
      obtain ⟨w8, h⟩ := h
      refine ⟨(hS.vNl hv1 w8), ?_⟩
      exact h
theorem bs_Y_placeOf_0 {G : fx_G} {S : fx_S} {Q : fx_R → fx_S → Prop} (hS : shC S) (v0 : Nat) (v1 : Int32) (hv0 : isY v0) (h : (v1 < 0 → Q (.inl (some (.int (-1)))) S) ∧ (¬ v1 < 0 → ((fx_I S v0 1) ≤ v1 → Q (.inl (some (.int (-1)))) S) ∧ (¬ (fx_I S v0 1) ≤ v1 → vp_in v1 63 ∧ Q (.inl (some (.int (fx_I S (v0 + 1) (v1.toNatClampNeg))))) S))) :
    fx_Go G (0, 0) mm_Y_placeOf 0 [(0, fx_r G v0), (1, .int v1)] [] S Q := by
  refine bk_Y_placeOf_0 v0 v1 ?_
  refine ⟨fun hc => ?_, fun hc => ?_⟩
  · replace h := h.1 hc
    exact h
  · replace h := h.2 hc
    refine ⟨(hS.iY hv0), ?_⟩
    refine ⟨fun hc => ?_, fun hc => ?_⟩
    · replace h := h.1 hc
      exact h
    · replace h := h.2 hc
      refine ⟨_, (hS.pY hv0), ?_⟩
      refine ⟨(hS.iYl hv0), ?_⟩
      obtain ⟨w2, h⟩ := h
      refine ⟨(hS.vYl hv0 w2), ?_⟩
      exact h
theorem bs_Y_append_0 {G : fx_G} {S : fx_S} {Q : fx_R → fx_S → Prop} (hS : shC S) (v0 : Nat) (v1 : Int32) (v2 : Int32) (hv0 : isY v0) (h : fx_Go G (0, 0) mm_Y_append 2 [(0, fx_r G v0), (1, .int v1), (2, .int v2), (3, .int 0)] [] S Q) :
    fx_Go G (0, 0) mm_Y_append 0 [(0, fx_r G v0), (1, .int v1), (2, .int v2)] [] S Q := by
  refine bk_Y_append_0 v0 v1 v2 ?_
  exact h
theorem bs_Y_append_2 {G : fx_G} {S : fx_S} {Q : fx_R → fx_S → Prop} (hS : shC S) (v0 : Nat) (v1 : Int32) (v2 : Int32) (v3 : Int32) (hv0 : isY v0) (h : (v2 ≤ v3 → Q (.inl none) S) ∧ (¬ v2 ≤ v3 → ((Int32.ofNat (fx_ln S (v0 + 1))) ≤ (fx_I S v0 1) → Q (.inl none) S) ∧ (¬ (Int32.ofNat (fx_ln S (v0 + 1))) ≤ (fx_I S v0 1) → (¬ v1 = (-1) → vp_in (fx_I S v0 1) 63 ∧ ∀ S4, S4 = fx_setI S (v0 + 1) ((fx_I S v0 1).toNatClampNeg) (v1 + v3) → ∀ S5, S5 = fx_setI S4 v0 1 ((fx_I S4 v0 1) + 1) → fx_Go G (0, 0) mm_Y_append 2 [(0, fx_r G v0), (1, .int v1), (2, .int v2), (3, .int (v3 + Int32.ofInt 1))] [] S5 Q) ∧ (v1 = (-1) → vp_in (fx_I S v0 1) 63 ∧ ∀ S7, S7 = fx_setI S (v0 + 1) ((fx_I S v0 1).toNatClampNeg) (-1) → ∀ S8, S8 = fx_setI S7 v0 1 ((fx_I S7 v0 1) + 1) → fx_Go G (0, 0) mm_Y_append 2 [(0, fx_r G v0), (1, .int v1), (2, .int v2), (3, .int (v3 + Int32.ofInt 1))] [] S8 Q)))) :
    fx_Go G (0, 0) mm_Y_append 2 [(0, fx_r G v0), (1, .int v1), (2, .int v2), (3, .int v3)] [] S Q := by
  refine bk_Y_append_2 v0 v1 v2 v3 ?_
  refine ⟨fun hc => ?_, fun hc => ?_⟩
  · replace h := h.1 hc
    exact h
  · replace h := h.2 hc
    refine ⟨(hS.iY hv0), ?_⟩
    refine ⟨_, (hS.pY hv0), ?_⟩
    refine ⟨(hS.iYl hv0), ?_⟩
    refine ⟨fun hc => ?_, fun hc => ?_⟩
    · replace h := h.1 hc
      exact h
    · replace h := h.2 hc
      refine ⟨_, (hS.pY hv0), ?_⟩
      refine ⟨fun hc => ?_, fun hc => ?_⟩
      · replace h := h.1 hc
        refine ⟨(hS.iYl hv0), ?_⟩
        obtain ⟨w3, h⟩ := h
        refine ⟨(hS.vYl hv0 w3), ?_⟩
        intro S4 eS4
        replace h := h S4 eS4
        have hS4 : shC S4 := by rw [eS4]; exact hS
        intro S5 eS5
        replace h := h S5 eS5
        have hS5 : shC S5 := by rw [eS5]; exact hS4
        exact h
      · replace h := h.2 hc
        refine ⟨(hS.iYl hv0), ?_⟩
        obtain ⟨w6, h⟩ := h
        refine ⟨(hS.vYl hv0 w6), ?_⟩
        intro S7 eS7
        replace h := h S7 eS7
        have hS7 : shC S7 := by rw [eS7]; exact hS
        intro S8 eS8
        replace h := h S8 eS8
        have hS8 : shC S8 := by rw [eS8]; exact hS7
        exact h
theorem bs_Y_copyFrom_0 {G : fx_G} {S : fx_S} {Q : fx_R → fx_S → Prop} (hS : shC S) (v0 : Nat) (v1 : Nat) (hv0 : isY v0) (hv1 : isY v1) (h : fx_cp2 63 63 0 0 (fx_I S v1 1) ∧ ∀ S3, S3 = fx_setR S (v0 + 1) (va_cpy (fx_I S (v1 + 1)) (fx_I S (v0 + 1)) ((0 : Int32).toNatClampNeg) ((0 : Int32).toNatClampNeg) ((fx_I S v1 1).toNatClampNeg)) → ∀ S5, S5 = fx_setI S3 v0 1 (fx_I S3 v1 1) → Q (.inl none) S5) :
    fx_Go G (1, 18) mm_Y_copyFrom 0 [(0, fx_r G v0), (1, fx_r G v1)] [] S Q := by
  refine bk_Y_copyFrom_0 v0 v1 ?_
  refine ⟨(hS.iY hv1), ?_⟩
  refine ⟨_, (hS.pY hv1), ?_⟩
  refine ⟨(hS.iY hv0), ?_⟩
  refine ⟨_, (hS.pY hv0), ?_⟩
  refine ⟨(hS.iYl hv1), ?_⟩
  refine ⟨(hS.iYl hv0), ?_⟩
  obtain ⟨w4, h⟩ := h
  refine ⟨fx_cp2.to (hS.lYl hv1) (hS.lYl hv0) w4, ?_⟩
  intro S3 eS3
  replace h := h S3 eS3
  have hS3 : shC S3 := by rw [eS3]; exact hS
  intro S5 eS5
  replace h := h S5 eS5
  have hS5 : shC S5 := by rw [eS5]; exact hS3
  exact h
theorem bs_Y_startsRun_0 {G : fx_G} {S : fx_S} {Q : fx_R → fx_S → Prop} (hS : shC S) (v0 : Nat) (v1 : Int32) (hv0 : isY v0) (h : (¬ v1 = 0 → vp_in v1 63 ∧ ((fx_I S (v0 + 1) (v1.toNatClampNeg)) = (-1) → fx_Go G (0, 0) mm_Y_startsRun 28 [(0, fx_r G v0), (1, .int v1)] [] S Q) ∧ (¬ (fx_I S (v0 + 1) (v1.toNatClampNeg)) = (-1) → vp_in (v1 - 1) 63 ∧ (¬ (fx_I S (v0 + 1) ((v1 - 1).toNatClampNeg)) = (-1) → vp_in v1 63 ∧ vp_in (v1 - 1) 63 ∧ ((fx_I S (v0 + 1) (v1.toNatClampNeg)) = ((fx_I S (v0 + 1) ((v1 - 1).toNatClampNeg)) + 1) → Q (.inl (some (.int 0))) S) ∧ (¬ (fx_I S (v0 + 1) (v1.toNatClampNeg)) = ((fx_I S (v0 + 1) ((v1 - 1).toNatClampNeg)) + 1) → Q (.inl (some (.int 1))) S)) ∧ ((fx_I S (v0 + 1) ((v1 - 1).toNatClampNeg)) = (-1) → fx_Go G (0, 0) mm_Y_startsRun 28 [(0, fx_r G v0), (1, .int v1)] [] S Q))) ∧ (v1 = 0 → Q (.inl (some (.int 1))) S)) :
    fx_Go G (0, 0) mm_Y_startsRun 0 [(0, fx_r G v0), (1, .int v1)] [] S Q := by
  refine bk_Y_startsRun_0 v0 v1 ?_
  refine ⟨fun hc => ?_, fun hc => ?_⟩
  · replace h := h.1 hc
    refine ⟨(hS.iY hv0), ?_⟩
    refine ⟨_, (hS.pY hv0), ?_⟩
    refine ⟨(hS.iYl hv0), ?_⟩
    obtain ⟨w2, h⟩ := h
    refine ⟨(hS.vYl hv0 w2), ?_⟩
    refine ⟨fun hc => ?_, fun hc => ?_⟩
    · replace h := h.1 hc
      exact h
    · replace h := h.2 hc
      refine ⟨_, (hS.pY hv0), ?_⟩
      refine ⟨(hS.iYl hv0), ?_⟩
      obtain ⟨w4, h⟩ := h
      refine ⟨(hS.vYl hv0 w4), ?_⟩
      refine ⟨fun hc => ?_, fun hc => ?_⟩
      · replace h := h.1 hc
        refine ⟨_, (hS.pY hv0), ?_⟩
        refine ⟨(hS.iYl hv0), ?_⟩
        obtain ⟨w6, h⟩ := h
        refine ⟨(hS.vYl hv0 w6), ?_⟩
        refine ⟨_, (hS.pY hv0), ?_⟩
        refine ⟨(hS.iYl hv0), ?_⟩
        obtain ⟨w8, h⟩ := h
        refine ⟨(hS.vYl hv0 w8), ?_⟩
        refine ⟨fun hc => ?_, fun hc => ?_⟩
        · replace h := h.1 hc
          exact h
        · replace h := h.2 hc
          exact h
      · replace h := h.2 hc
        exact h
  · replace h := h.2 hc
    exact h
theorem bs_Y_startsRun_28 {G : fx_G} {S : fx_S} {Q : fx_R → fx_S → Prop} (hS : shC S) (v0 : Nat) (v1 : Int32) (hv0 : isY v0) (h : vp_in v1 63 ∧ vp_in (v1 - 1) 63 ∧ ((fx_I S (v0 + 1) (v1.toNatClampNeg)) = (fx_I S (v0 + 1) ((v1 - 1).toNatClampNeg)) → Q (.inl (some (.int 0))) S) ∧ (¬ (fx_I S (v0 + 1) (v1.toNatClampNeg)) = (fx_I S (v0 + 1) ((v1 - 1).toNatClampNeg)) → Q (.inl (some (.int 1))) S)) :
    fx_Go G (0, 0) mm_Y_startsRun 28 [(0, fx_r G v0), (1, .int v1)] [] S Q := by
  refine bk_Y_startsRun_28 v0 v1 ?_
  refine ⟨(hS.iY hv0), ?_⟩
  refine ⟨_, (hS.pY hv0), ?_⟩
  refine ⟨(hS.iYl hv0), ?_⟩
  obtain ⟨w2, h⟩ := h
  refine ⟨(hS.vYl hv0 w2), ?_⟩
  refine ⟨_, (hS.pY hv0), ?_⟩
  refine ⟨(hS.iYl hv0), ?_⟩
  obtain ⟨w4, h⟩ := h
  refine ⟨(hS.vYl hv0 w4), ?_⟩
  refine ⟨fun hc => ?_, fun hc => ?_⟩
  · replace h := h.1 hc
    exact h
  · replace h := h.2 hc
    exact h
theorem bs_Y_runCount_0 {G : fx_G} {S : fx_S} {Q : fx_R → fx_S → Prop} (hS : shC S) (v0 : Nat) (hv0 : isY v0) (h : fx_Go G (1, 13) mm_Y_runCount 4 [(0, fx_r G v0), (1, .int 0), (2, .int 0)] [] S Q) :
    fx_Go G (1, 13) mm_Y_runCount 0 [(0, fx_r G v0)] [] S Q := by
  refine bk_Y_runCount_0 v0 ?_
  exact h
theorem bs_Y_runCount_4 {G : fx_G} {S : fx_S} {Q : fx_R → fx_S → Prop} (hS : shC S) (v0 : Nat) (v1 : Int32) (v2 : Int32) (hv0 : isY v0) (h : ((fx_I S v0 1) ≤ v2 → Q (.inl (some (.int v1))) S) ∧ (¬ (fx_I S v0 1) ≤ v2 → fx_Go G (0, 0) mm_Y_startsRun 0 [(0, fx_r G v0), (1, .int v2)] [] S (fx_qi (fun x2 S1 => shC S1 ∧ (x2 = 0 → fx_Go G (1, 13) mm_Y_runCount 4 [(0, fx_r G v0), (1, .int v1), (2, .int (v2 + Int32.ofInt 1))] [] S1 Q) ∧ (¬ x2 = 0 → fx_Go G (1, 13) mm_Y_runCount 4 [(0, fx_r G v0), (1, .int (v1 + Int32.ofInt 1)), (2, .int (v2 + Int32.ofInt 1))] [] S1 Q)) Q))) :
    fx_Go G (1, 13) mm_Y_runCount 4 [(0, fx_r G v0), (1, .int v1), (2, .int v2)] [] S Q := by
  refine bk_Y_runCount_4 v0 v1 v2 ?_
  refine ⟨(hS.iY hv0), ?_⟩
  refine ⟨fun hc => ?_, fun hc => ?_⟩
  · replace h := h.1 hc
    exact h
  · replace h := h.2 hc
    refine fx_cons h (fx_qi_m fun x2 S1 h => ?_)
    obtain ⟨hS1, h⟩ := h
    refine ⟨fun hc => ?_, fun hc => ?_⟩
    · replace h := h.1 hc
      exact h
    · replace h := h.2 hc
      exact h
theorem bs_Y_startOfRun_0 {G : fx_G} {S : fx_S} {Q : fx_R → fx_S → Prop} (hS : shC S) (v0 : Nat) (v1 : Int32) (hv0 : isY v0) (h : fx_Go G (1, 13) mm_Y_startOfRun 4 [(0, fx_r G v0), (1, .int v1), (2, .int 0), (3, .int 0)] [] S Q) :
    fx_Go G (1, 13) mm_Y_startOfRun 0 [(0, fx_r G v0), (1, .int v1)] [] S Q := by
  refine bk_Y_startOfRun_0 v0 v1 ?_
  exact h
theorem bs_Y_startOfRun_4 {G : fx_G} {S : fx_S} {Q : fx_R → fx_S → Prop} (hS : shC S) (v0 : Nat) (v1 : Int32) (v2 : Int32) (v3 : Int32) (hv0 : isY v0) (h : ((fx_I S v0 1) ≤ v3 → Q (.inl (some (.int (-1)))) S) ∧ (¬ (fx_I S v0 1) ≤ v3 → fx_Go G (0, 0) mm_Y_startsRun 0 [(0, fx_r G v0), (1, .int v3)] [] S (fx_qi (fun x2 S1 => shC S1 ∧ (x2 = 0 → fx_Go G (1, 13) mm_Y_startOfRun 4 [(0, fx_r G v0), (1, .int v1), (2, .int v2), (3, .int (v3 + Int32.ofInt 1))] [] S1 Q) ∧ (¬ x2 = 0 → (¬ v2 = v1 → fx_Go G (1, 13) mm_Y_startOfRun 4 [(0, fx_r G v0), (1, .int v1), (2, .int (v2 + Int32.ofInt 1)), (3, .int (v3 + Int32.ofInt 1))] [] S1 Q) ∧ (v2 = v1 → Q (.inl (some (.int v3))) S1))) Q))) :
    fx_Go G (1, 13) mm_Y_startOfRun 4 [(0, fx_r G v0), (1, .int v1), (2, .int v2), (3, .int v3)] [] S Q := by
  refine bk_Y_startOfRun_4 v0 v1 v2 v3 ?_
  refine ⟨(hS.iY hv0), ?_⟩
  refine ⟨fun hc => ?_, fun hc => ?_⟩
  · replace h := h.1 hc
    exact h
  · replace h := h.2 hc
    refine fx_cons h (fx_qi_m fun x2 S1 h => ?_)
    obtain ⟨hS1, h⟩ := h
    refine ⟨fun hc => ?_, fun hc => ?_⟩
    · replace h := h.1 hc
      exact h
    · replace h := h.2 hc
      refine ⟨fun hc => ?_, fun hc => ?_⟩
      · replace h := h.1 hc
        exact h
      · replace h := h.2 hc
        exact h
theorem bs_Y_lengthOfRun_0 {G : fx_G} {S : fx_S} {Q : fx_R → fx_S → Prop} (hS : shC S) (v0 : Nat) (v1 : Int32) (hv0 : isY v0) (h : fx_Go G (1, 13) mm_Y_lengthOfRun 4 [(0, fx_r G v0), (1, .int v1), (2, .int (v1 + 1))] [] S Q) :
    fx_Go G (1, 13) mm_Y_lengthOfRun 0 [(0, fx_r G v0), (1, .int v1)] [] S Q := by
  refine bk_Y_lengthOfRun_0 v0 v1 ?_
  exact h
theorem bs_Y_lengthOfRun_4 {G : fx_G} {S : fx_S} {Q : fx_R → fx_S → Prop} (hS : shC S) (v0 : Nat) (v1 : Int32) (v2 : Int32) (hv0 : isY v0) (h : ((fx_I S v0 1) ≤ v2 → Q (.inl (some (.int (v2 - v1)))) S) ∧ (¬ (fx_I S v0 1) ≤ v2 → fx_Go G (0, 0) mm_Y_startsRun 0 [(0, fx_r G v0), (1, .int v2)] [] S (fx_qi (fun x2 S1 => shC S1 ∧ (¬ x2 = 0 → Q (.inl (some (.int (v2 - v1)))) S1) ∧ (x2 = 0 → fx_Go G (1, 13) mm_Y_lengthOfRun 4 [(0, fx_r G v0), (1, .int v1), (2, .int (v2 + Int32.ofInt 1))] [] S1 Q)) Q))) :
    fx_Go G (1, 13) mm_Y_lengthOfRun 4 [(0, fx_r G v0), (1, .int v1), (2, .int v2)] [] S Q := by
  refine bk_Y_lengthOfRun_4 v0 v1 v2 ?_
  refine ⟨(hS.iY hv0), ?_⟩
  refine ⟨fun hc => ?_, fun hc => ?_⟩
  · replace h := h.1 hc
    exact h
  · replace h := h.2 hc
    refine fx_cons h (fx_qi_m fun x2 S1 h => ?_)
    obtain ⟨hS1, h⟩ := h
    refine ⟨fun hc => ?_, fun hc => ?_⟩
    · replace h := h.1 hc
      exact h
    · replace h := h.2 hc
      exact h
theorem bs_Y_attributeBytes_0 {G : fx_G} {S : fx_S} {Q : fx_R → fx_S → Prop} (hS : shC S) (v0 : Nat) (hv0 : isY v0) (h : fx_Go G (1, 13) mm_Y_attributeBytes 4 [(0, fx_r G v0), (1, .int 5), (2, .int 0)] [] S Q) :
    fx_Go G (1, 13) mm_Y_attributeBytes 0 [(0, fx_r G v0)] [] S Q := by
  refine bk_Y_attributeBytes_0 v0 ?_
  exact h
theorem bs_Y_attributeBytes_4 {G : fx_G} {S : fx_S} {Q : fx_R → fx_S → Prop} (hS : shC S) (v0 : Nat) (v1 : Int32) (v2 : Int32) (hv0 : isY v0) (h : ((fx_I S v0 1) ≤ v2 → Q (.inl (some (.int v1))) S) ∧ (¬ (fx_I S v0 1) ≤ v2 → fx_Go G (0, 0) mm_Y_startsRun 0 [(0, fx_r G v0), (1, .int v2)] [] S (fx_qi (fun x2 S1 => shC S1 ∧ (x2 = 0 → fx_Go G (1, 13) mm_Y_attributeBytes 4 [(0, fx_r G v0), (1, .int v1), (2, .int (v2 + Int32.ofInt 1))] [] S1 Q) ∧ (¬ x2 = 0 → vp_in v2 63 ∧ (¬ (fx_I S1 (v0 + 1) (v2.toNatClampNeg)) = (-1) → fx_Go G (1, 13) mm_Y_attributeBytes 4 [(0, fx_r G v0), (1, .int (v1 + 3)), (2, .int (v2 + Int32.ofInt 1))] [] S1 Q) ∧ ((fx_I S1 (v0 + 1) (v2.toNatClampNeg)) = (-1) → fx_Go G (1, 13) mm_Y_attributeBytes 4 [(0, fx_r G v0), (1, .int (v1 + 2)), (2, .int (v2 + Int32.ofInt 1))] [] S1 Q))) Q))) :
    fx_Go G (1, 13) mm_Y_attributeBytes 4 [(0, fx_r G v0), (1, .int v1), (2, .int v2)] [] S Q := by
  refine bk_Y_attributeBytes_4 v0 v1 v2 ?_
  refine ⟨(hS.iY hv0), ?_⟩
  refine ⟨fun hc => ?_, fun hc => ?_⟩
  · replace h := h.1 hc
    exact h
  · replace h := h.2 hc
    refine fx_cons h (fx_qi_m fun x2 S1 h => ?_)
    obtain ⟨hS1, h⟩ := h
    refine ⟨fun hc => ?_, fun hc => ?_⟩
    · replace h := h.1 hc
      exact h
    · replace h := h.2 hc
      refine ⟨(hS1.iY hv0), ?_⟩
      refine ⟨_, (hS1.pY hv0), ?_⟩
      refine ⟨(hS1.iYl hv0), ?_⟩
      obtain ⟨w4, h⟩ := h
      refine ⟨(hS1.vYl hv0 w4), ?_⟩
      refine ⟨fun hc => ?_, fun hc => ?_⟩
      · replace h := h.1 hc
        exact h
      · replace h := h.2 hc
        exact h
theorem bs_Y_encode_0 {G : fx_G} {S : fx_S} {Q : fx_R → fx_S → Prop} (hS : shC S) (v0 : Nat) (v1 : Nat) (v2 : Int32) (hv0 : isY v0) {nv1 : Nat} (hv1 : isA v1 nv1) (h : fx_Go G (1, 13) mm_Y_encode 12 [(0, fx_r G v0), (1, fx_r G v1), (3, .int v2), (4, .int v2), (5, .int 48), (6, .int 0)] [] S Q) :
    fx_Go G (1, 13) mm_Y_encode 0 [(0, fx_r G v0), (1, fx_r G v1), (2, .int v2)] [] S Q := by
  refine bk_Y_encode_0 v0 v1 v2 ?_
  exact h
theorem bs_Y_encode_12 {G : fx_G} {S : fx_S} {Q : fx_R → fx_S → Prop} (hS : shC S) (v0 : Nat) (v1 : Nat) (v3 : Int32) (v4 : Int32) (v5 : Int32) (v6 : Int32) (hv0 : isY v0) {nv1 : Nat} (hv1 : isA v1 nv1) (h : ((fx_I S v0 1) ≤ v6 → Q (.inl (some (.int v3))) S) ∧ (¬ (fx_I S v0 1) ≤ v6 → fx_Go G (0, 0) mm_Y_startsRun 0 [(0, fx_r G v0), (1, .int v6)] [] S (fx_qi (fun x2 S1 => shC S1 ∧ (x2 = 0 → fx_Go G (1, 13) mm_Y_encode 92 [(0, fx_r G v0), (1, fx_r G v1), (3, .int v3), (4, .int v4), (5, .int v5), (6, .int v6)] [] S1 Q) ∧ (¬ x2 = 0 → vp_in v6 63 ∧ (¬ (fx_I S1 (v0 + 1) (v6.toNatClampNeg)) = (-1) → vp_in v3 nv1 ∧ ∀ S6, S6 = fx_setI S1 v1 (v3.toNatClampNeg) 17 → vp_in v6 63 ∧ vp_in (v3 + 2) nv1 ∧ ∀ S10, S10 = fx_setI S6 v1 ((v3 + 2).toNatClampNeg) (((fx_I S6 (v0 + 1) (v6.toNatClampNeg)) - v5) &&& 255) → vp_in v6 63 ∧ fx_Go G (1, 13) mm_Y_encode 92 [(0, fx_r G v0), (1, fx_r G v1), (3, .int (v3 + Int32.ofInt 3)), (4, .int (v3 + 1)), (5, .int (fx_I S10 (v0 + 1) (v6.toNatClampNeg))), (6, .int v6)] [] S10 Q) ∧ ((fx_I S1 (v0 + 1) (v6.toNatClampNeg)) = (-1) → vp_in v3 nv1 ∧ ∀ S14, S14 = fx_setI S1 v1 (v3.toNatClampNeg) 1 → fx_Go G (1, 13) mm_Y_encode 92 [(0, fx_r G v0), (1, fx_r G v1), (3, .int (v3 + Int32.ofInt 2)), (4, .int (v3 + 1)), (5, .int v5), (6, .int v6)] [] S14 Q))) Q))) :
    fx_Go G (1, 13) mm_Y_encode 12 [(0, fx_r G v0), (1, fx_r G v1), (3, .int v3), (4, .int v4), (5, .int v5), (6, .int v6)] [] S Q := by
  refine bk_Y_encode_12 v0 v1 v3 v4 v5 v6 ?_
  refine ⟨(hS.iY hv0), ?_⟩
  refine ⟨fun hc => ?_, fun hc => ?_⟩
  · replace h := h.1 hc
    exact h
  · replace h := h.2 hc
    refine fx_cons h (fx_qi_m fun x2 S1 h => ?_)
    obtain ⟨hS1, h⟩ := h
    refine ⟨fun hc => ?_, fun hc => ?_⟩
    · replace h := h.1 hc
      exact h
    · replace h := h.2 hc
      refine ⟨(hS1.iY hv0), ?_⟩
      refine ⟨_, (hS1.pY hv0), ?_⟩
      refine ⟨(hS1.iYl hv0), ?_⟩
      obtain ⟨w4, h⟩ := h
      refine ⟨(hS1.vYl hv0 w4), ?_⟩
      refine ⟨fun hc => ?_, fun hc => ?_⟩
      · replace h := h.1 hc
        refine ⟨(hS1.iA hv1), ?_⟩
        obtain ⟨w5, h⟩ := h
        refine ⟨(hS1.vA hv1 w5), ?_⟩
        intro S6 eS6
        replace h := h S6 eS6
        have hS6 : shC S6 := by rw [eS6]; exact hS1
        refine ⟨_, (hS6.pY hv0), ?_⟩
        refine ⟨(hS6.iYl hv0), ?_⟩
        obtain ⟨w8, h⟩ := h
        refine ⟨(hS6.vYl hv0 w8), ?_⟩
        obtain ⟨w9, h⟩ := h
        refine ⟨(hS6.vA hv1 w9), ?_⟩
        intro S10 eS10
        replace h := h S10 eS10
        have hS10 : shC S10 := by rw [eS10]; exact hS6
        refine ⟨_, (hS10.pY hv0), ?_⟩
        refine ⟨(hS10.iYl hv0), ?_⟩
        obtain ⟨w12, h⟩ := h
        refine ⟨(hS10.vYl hv0 w12), ?_⟩
        exact h
      · replace h := h.2 hc
        refine ⟨(hS1.iA hv1), ?_⟩
        obtain ⟨w13, h⟩ := h
        refine ⟨(hS1.vA hv1 w13), ?_⟩
        intro S14 eS14
        replace h := h S14 eS14
        have hS14 : shC S14 := by rw [eS14]; exact hS1
        exact h
theorem bs_Y_encode_92 {G : fx_G} {S : fx_S} {Q : fx_R → fx_S → Prop} (hS : shC S) (v0 : Nat) (v1 : Nat) (v3 : Int32) (v4 : Int32) (v5 : Int32) (v6 : Int32) (hv0 : isY v0) {nv1 : Nat} (hv1 : isA v1 nv1) (h : vp_in v4 nv1 ∧ vp_in v4 nv1 ∧ ∀ S3, S3 = fx_setI S v1 (v4.toNatClampNeg) ((fx_I S v1 (v4.toNatClampNeg)) + 1) → fx_Go G (1, 13) mm_Y_encode 12 [(0, fx_r G v0), (1, fx_r G v1), (3, .int v3), (4, .int v4), (5, .int v5), (6, .int (v6 + Int32.ofInt 1))] [] S3 Q) :
    fx_Go G (1, 13) mm_Y_encode 92 [(0, fx_r G v0), (1, fx_r G v1), (3, .int v3), (4, .int v4), (5, .int v5), (6, .int v6)] [] S Q := by
  refine bk_Y_encode_92 v0 v1 v3 v4 v5 v6 ?_
  refine ⟨(hS.iA hv1), ?_⟩
  obtain ⟨w1, h⟩ := h
  refine ⟨(hS.vA hv1 w1), ?_⟩
  obtain ⟨w2, h⟩ := h
  refine ⟨(hS.vA hv1 w2), ?_⟩
  intro S3 eS3
  replace h := h S3 eS3
  have hS3 : shC S3 := by rw [eS3]; exact hS
  exact h
theorem bs_Y_decode_0 {G : fx_G} {S : fx_S} {Q : fx_R → fx_S → Prop} (hS : shC S) (v0 : Nat) (v1 : Nat) (v2 : Int32) (v3 : Int32) (hv0 : isY v0) {nv1 : Nat} (hv1 : isA v1 nv1) (h : ∀ S1, S1 = fx_setI S v0 1 0 → fx_Go G (1, 15) mm_Y_decode 12 [(0, fx_r G v0), (1, fx_r G v1), (3, .int v3), (4, .int v2), (5, .int 48)] [] S1 Q) :
    fx_Go G (1, 15) mm_Y_decode 0 [(0, fx_r G v0), (1, fx_r G v1), (2, .int v2), (3, .int v3)] [] S Q := by
  refine bk_Y_decode_0 v0 v1 v2 v3 ?_
  refine ⟨(hS.iY hv0), ?_⟩
  intro S1 eS1
  replace h := h S1 eS1
  have hS1 : shC S1 := by rw [eS1]; exact hS
  exact h
theorem bs_Y_decode_12 {G : fx_G} {S : fx_S} {Q : fx_R → fx_S → Prop} (hS : shC S) (v0 : Nat) (v1 : Nat) (v3 : Int32) (v4 : Int32) (v5 : Int32) (hv0 : isY v0) {nv1 : Nat} (hv1 : isA v1 nv1) (h : (v3 ≤ (v4 + 2) → Q (.inl none) S) ∧ (¬ v3 ≤ (v4 + 2) → vp_in v4 nv1 ∧ ((fx_I S v1 (v4.toNatClampNeg)) = 0 → Q (.inl none) S) ∧ (¬ (fx_I S v1 (v4.toNatClampNeg)) = 0 → vp_in v4 nv1 ∧ (¬ (fx_I S v1 (v4.toNatClampNeg)) = 17 → vp_in (v4 + 1) nv1 ∧ fx_Go G (0, 0) mm_Y_append 0 [(0, fx_r G v0), (1, .int (-1)), (2, .int (fx_I S v1 ((v4 + 1).toNatClampNeg)))] [] S (fx_qv (fun S4 => shC S4 ∧ fx_Go G (1, 15) mm_Y_decode 12 [(0, fx_r G v0), (1, fx_r G v1), (3, .int v3), (4, .int (v4 + Int32.ofInt 2)), (5, .int v5)] [] S4 Q) Q)) ∧ ((fx_I S v1 (v4.toNatClampNeg)) = 17 → vp_in (v4 + 2) nv1 ∧ vp_in (v4 + 1) nv1 ∧ fx_Go G (0, 0) mm_Y_append 0 [(0, fx_r G v0), (1, .int ((v5 + (fx_I S v1 ((v4 + 2).toNatClampNeg))) &&& 255)), (2, .int (fx_I S v1 ((v4 + 1).toNatClampNeg)))] [] S (fx_qv (fun S7 => shC S7 ∧ fx_Go G (1, 15) mm_Y_decode 12 [(0, fx_r G v0), (1, fx_r G v1), (3, .int v3), (4, .int (v4 + Int32.ofInt 3)), (5, .int ((v5 + (fx_I S v1 ((v4 + 2).toNatClampNeg))) &&& 255))] [] S7 Q) Q))))) :
    fx_Go G (1, 15) mm_Y_decode 12 [(0, fx_r G v0), (1, fx_r G v1), (3, .int v3), (4, .int v4), (5, .int v5)] [] S Q := by
  refine bk_Y_decode_12 v0 v1 v3 v4 v5 ?_
  refine ⟨fun hc => ?_, fun hc => ?_⟩
  · replace h := h.1 hc
    exact h
  · replace h := h.2 hc
    refine ⟨(hS.iA hv1), ?_⟩
    obtain ⟨w1, h⟩ := h
    refine ⟨(hS.vA hv1 w1), ?_⟩
    refine ⟨fun hc => ?_, fun hc => ?_⟩
    · replace h := h.1 hc
      exact h
    · replace h := h.2 hc
      obtain ⟨w2, h⟩ := h
      refine ⟨(hS.vA hv1 w2), ?_⟩
      refine ⟨fun hc => ?_, fun hc => ?_⟩
      · replace h := h.1 hc
        obtain ⟨w3, h⟩ := h
        refine ⟨(hS.vA hv1 w3), ?_⟩
        refine ⟨(hS.iY hv0), ?_⟩
        refine fx_cons h (fx_qv_m fun S4 h => ?_)
        obtain ⟨hS4, h⟩ := h
        exact h
      · replace h := h.2 hc
        obtain ⟨w5, h⟩ := h
        refine ⟨(hS.vA hv1 w5), ?_⟩
        obtain ⟨w6, h⟩ := h
        refine ⟨(hS.vA hv1 w6), ?_⟩
        refine ⟨(hS.iY hv0), ?_⟩
        refine fx_cons h (fx_qv_m fun S7 h => ?_)
        obtain ⟨hS7, h⟩ := h
        exact h
