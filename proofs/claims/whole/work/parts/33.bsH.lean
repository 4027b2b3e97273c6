theorem bs_H_become_0 {G : fx_G} {S : fx_S} {Q : fx_R → fx_S → Prop} (hS : shC S) (v0 : Nat) (v1 : Int32) (v2 : Int32) (hv0 : isH v0) (h : ∀ S1, S1 = fx_setI S v0 0 v1 → ∀ S2, S2 = fx_setI S1 v0 1 v2 → (¬ v1 = 1 → (¬ v1 = 2 → fx_Go G (1, 12) mm_H_become 30 [(0, fx_r G v0)] [.int 0, fx_r G v0] S2 Q) ∧ (v1 = 2 → fx_Go G (1, 12) mm_H_become 30 [(0, fx_r G v0)] [.int 4, fx_r G v0] S2 Q)) ∧ (v1 = 1 → fx_Go G (1, 12) mm_H_become 30 [(0, fx_r G v0)] [.int 2, fx_r G v0] S2 Q)) :
    fx_Go G (1, 12) mm_H_become 0 [(0, fx_r G v0), (1, .int v1), (2, .int v2)] [] S Q := by
  refine bk_H_become_0 v0 v1 v2 ?_
  refine ⟨(hS.iH hv0), ?_⟩
  intro S1 eS1
  replace h := h S1 eS1
  have hS1 : shC S1 := by rw [eS1]; exact hS
  intro S2 eS2
  replace h := h S2 eS2
  have hS2 : shC S2 := by rw [eS2]; exact hS1
  refine ⟨fun hc => ?_, fun hc => ?_⟩
  · replace h := h.1 hc
    refine ⟨fun hc => ?_, fun hc => ?_⟩
    · replace h := h.1 hc
      exact h
    · replace h := h.2 hc
      exact h
  · replace h := h.2 hc
    exact h
theorem bs_H_become_30 {G : fx_G} {S : fx_S} {Q : fx_R → fx_S → Prop} (hS : shC S) (v0 : Nat) (z0 : Int32) (z1 : Nat) (hv0 : isH v0) (hz1 : isH z1) (h : ∀ S1, S1 = fx_setI S z1 3 z0 → ∀ S2, S2 = fx_setI S1 v0 4 0 → fx_Go G (0, 0) mm_N_clear 0 [(0, fx_r G (v0 + 1))] [] S2 (fx_qv (fun S4 => shC S4 ∧ ∀ S6, S6 = fx_setI S4 (v0 + 4) 1 0 → Q (.inl none) S6) Q)) :
    fx_Go G (1, 12) mm_H_become 30 [(0, fx_r G v0)] [.int z0, fx_r G z1] S Q := by
  refine bk_H_become_30 v0 z0 z1 ?_
  refine ⟨(hS.iH hz1), ?_⟩
  intro S1 eS1
  replace h := h S1 eS1
  have hS1 : shC S1 := by rw [eS1]; exact hS
  refine ⟨(hS1.iH hv0), ?_⟩
  intro S2 eS2
  replace h := h S2 eS2
  have hS2 : shC S2 := by rw [eS2]; exact hS1
  refine ⟨_, (hS2.pHn hv0), ?_⟩
  refine ⟨(hS2.iN (isH.n hv0)), ?_⟩
  refine fx_cons h (fx_qv_m fun S4 h => ?_)
  obtain ⟨hS4, h⟩ := h
  refine ⟨(hS4.iH hv0), ?_⟩
  refine ⟨_, (hS4.pHy hv0), ?_⟩
  refine ⟨(hS4.iY (isH.y hv0)), ?_⟩
  intro S6 eS6
  replace h := h S6 eS6
  have hS6 : shC S6 := by rw [eS6]; exact hS4
  exact h
theorem bs_H_takeNextNumber_0 {G : fx_G} {S : fx_S} {Q : fx_R → fx_S → Prop} (hS : shC S) (v0 : Nat) (hv0 : isH v0) (h : ((fx_I S v0 2) < 65535 → ∀ S1, S1 = fx_setI S v0 2 ((fx_I S v0 2) + 1) → Q (.inl none) S1) ∧ (¬ (fx_I S v0 2) < 65535 → ∀ S2, S2 = fx_setI S v0 2 1 → Q (.inl none) S2)) :
    fx_Go G (0, 0) mm_H_takeNextNumber 0 [(0, fx_r G v0)] [] S Q := by
  refine bk_H_takeNextNumber_0 v0 ?_
  refine ⟨(hS.iH hv0), ?_⟩
  refine ⟨fun hc => ?_, fun hc => ?_⟩
  · replace h := h.1 hc
    intro S1 eS1
    replace h := h S1 eS1
    have hS1 : shC S1 := by rw [eS1]; exact hS
    exact h
  · replace h := h.2 hc
    intro S2 eS2
    replace h := h S2 eS2
    have hS2 : shC S2 := by rw [eS2]; exact hS
    exact h
theorem bs_H_nameBytes_0 {G : fx_G} {S : fx_S} {Q : fx_R → fx_S → Prop} (hS : shC S) (v0 : Nat) (hv0 : isH v0) (h : (¬ (fx_I S (v0 + 1) 1) = 0 → Q (.inl (some (.int (2 + (fx_I S (v0 + 1) 1))))) S) ∧ ((fx_I S (v0 + 1) 1) = 0 → Q (.inl (some (.int 0))) S)) :
    fx_Go G (0, 0) mm_H_nameBytes 0 [(0, fx_r G v0)] [] S Q := by
  refine bk_H_nameBytes_0 v0 ?_
  refine ⟨(hS.iH hv0), ?_⟩
  refine ⟨_, (hS.pHn hv0), ?_⟩
  refine ⟨(hS.iN (isH.n hv0)), ?_⟩
  refine ⟨fun hc => ?_, fun hc => ?_⟩
  · replace h := h.1 hc
    refine ⟨_, (hS.pHn hv0), ?_⟩
    refine ⟨(hS.iN (isH.n hv0)), ?_⟩
    exact h
  · replace h := h.2 hc
    exact h
theorem bs_H_dataBytes_0 {G : fx_G} {S : fx_S} {Q : fx_R → fx_S → Prop} (hS : shC S) (v0 : Nat) (hv0 : isH v0) (h : (¬ (fx_I S v0 3) = 0 → (¬ (fx_I S v0 3) = 3 → Q (.inl (some (.int (2 + (fx_I S v0 4))))) S) ∧ ((fx_I S v0 3) = 3 → fx_Go G (1, 13) mm_Y_attributeBytes 0 [(0, fx_r G (v0 + 4))] [] S (fx_qi (fun x3 S2 => shC S2 ∧ Q (.inl (some (.int x3))) S2) Q))) ∧ ((fx_I S v0 3) = 0 → Q (.inl (some (.int 0))) S)) :
    fx_Go G (2, 27) mm_H_dataBytes 0 [(0, fx_r G v0)] [] S Q := by
  refine bk_H_dataBytes_0 v0 ?_
  refine ⟨(hS.iH hv0), ?_⟩
  refine ⟨fun hc => ?_, fun hc => ?_⟩
  · replace h := h.1 hc
    refine ⟨fun hc => ?_, fun hc => ?_⟩
    · replace h := h.1 hc
      exact h
    · replace h := h.2 hc
      refine ⟨_, (hS.pHy hv0), ?_⟩
      refine ⟨(hS.iY (isH.y hv0)), ?_⟩
      refine fx_cons h (fx_qi_m fun x3 S2 h => ?_)
      obtain ⟨hS2, h⟩ := h
      exact h
  · replace h := h.2 hc
    exact h
theorem bs_H_attributeBytes_0 {G : fx_G} {S : fx_S} {Q : fx_R → fx_S → Prop} (hS : shC S) (v0 : Nat) (hv0 : isH v0) (h : fx_Go G (0, 0) mm_H_nameBytes 0 [(0, fx_r G v0)] [] S (fx_qi (fun x2 S1 => shC S1 ∧ fx_Go G (2, 27) mm_H_dataBytes 0 [(0, fx_r G v0)] [] S1 (fx_qi (fun x4 S3 => shC S3 ∧ Q (.inl (some (.int (x2 + x4)))) S3) Q)) Q)) :
    fx_Go G (3, 40) mm_H_attributeBytes 0 [(0, fx_r G v0)] [] S Q := by
  refine bk_H_attributeBytes_0 v0 ?_
  refine ⟨(hS.iH hv0), ?_⟩
  refine fx_cons h (fx_qi_m fun x2 S1 h => ?_)
  obtain ⟨hS1, h⟩ := h
  refine ⟨(hS1.iH hv0), ?_⟩
  refine fx_cons h (fx_qi_m fun x4 S3 h => ?_)
  obtain ⟨hS3, h⟩ := h
  exact h
theorem bs_H_mostInside_0 {G : fx_G} {S : fx_S} {Q : fx_R → fx_S → Prop} (hS : shC S) (v0 : Nat) (hv0 : isH v0) (h : fx_Go G (0, 0) mm_H_nameBytes 0 [(0, fx_r G v0)] [] S (fx_qi (fun x2 S1 => shC S1 ∧ Q (.inl (some (.int ((54 - x2) - 2)))) S1) Q)) :
    fx_Go G (1, 13) mm_H_mostInside 0 [(0, fx_r G v0)] [] S Q := by
  refine bk_H_mostInside_0 v0 ?_
  refine ⟨(hS.iH hv0), ?_⟩
  refine fx_cons h (fx_qi_m fun x2 S1 h => ?_)
  obtain ⟨hS1, h⟩ := h
  exact h
theorem bs_H_putInside_0 {G : fx_G} {S : fx_S} {Q : fx_R → fx_S → Prop} (hS : shC S) (v0 : Nat) (v1 : Int32) (v2 : Int32) (v3 : Int32) (v4 : Int32) (hv0 : isH v0) (h : fx_Go G (0, 0) mm_H_putInside 6 [(0, fx_r G v0), (1, .int v1), (2, .int v2), (3, .int v3), (4, .int v4), (5, .int (fx_I S v0 4))] [] S Q) :
    fx_Go G (0, 0) mm_H_putInside 0 [(0, fx_r G v0), (1, .int v1), (2, .int v2), (3, .int v3), (4, .int v4)] [] S Q := by
  refine bk_H_putInside_0 v0 v1 v2 v3 v4 ?_
  refine ⟨(hS.iH hv0), ?_⟩
  exact h
theorem bs_H_putInside_6 {G : fx_G} {S : fx_S} {Q : fx_R → fx_S → Prop} (hS : shC S) (v0 : Nat) (v1 : Int32) (v2 : Int32) (v3 : Int32) (v4 : Int32) (v5 : Int32) (hv0 : isH v0) (h : (v1 ≤ v5 → fx_Go G (0, 0) mm_H_putInside 29 [(0, fx_r G v0), (1, .int v1), (2, .int v2), (3, .int v3), (4, .int v4), (5, .int 0)] [] S Q) ∧ (¬ v1 ≤ v5 → vp_in v5 54 ∧ ∀ S3, S3 = fx_setI S (v0 + 3) (v5.toNatClampNeg) 0 → fx_Go G (0, 0) mm_H_putInside 6 [(0, fx_r G v0), (1, .int v1), (2, .int v2), (3, .int v3), (4, .int v4), (5, .int (v5 + Int32.ofInt 1))] [] S3 Q)) :
    fx_Go G (0, 0) mm_H_putInside 6 [(0, fx_r G v0), (1, .int v1), (2, .int v2), (3, .int v3), (4, .int v4), (5, .int v5)] [] S Q := by
  refine bk_H_putInside_6 v0 v1 v2 v3 v4 v5 ?_
  refine ⟨fun hc => ?_, fun hc => ?_⟩
  · replace h := h.1 hc
    exact h
  · replace h := h.2 hc
    refine ⟨(hS.iH hv0), ?_⟩
    refine ⟨_, (hS.pHh hv0), ?_⟩
    refine ⟨(hS.iHh hv0), ?_⟩
    obtain ⟨w2, h⟩ := h
    refine ⟨(hS.vHh hv0 w2), ?_⟩
    intro S3 eS3
    replace h := h S3 eS3
    have hS3 : shC S3 := by rw [eS3]; exact hS
    exact h
theorem bs_H_putInside_29 {G : fx_G} {S : fx_S} {Q : fx_R → fx_S → Prop} (hS : shC S) (v0 : Nat) (v1 : Int32) (v2 : Int32) (v3 : Int32) (v4 : Int32) (v5 : Int32) (hv0 : isH v0) (h : (v2 ≤ v5 → ∀ S1, S1 = fx_setI S v0 4 v4 → Q (.inl none) S1) ∧ (¬ v2 ≤ v5 → vp_in (v1 + v5) 54 ∧ ∀ S4, S4 = fx_setI S (v0 + 3) ((v1 + v5).toNatClampNeg) ((v3 + v5) &&& 255) → fx_Go G (0, 0) mm_H_putInside 29 [(0, fx_r G v0), (1, .int v1), (2, .int v2), (3, .int v3), (4, .int v4), (5, .int (v5 + Int32.ofInt 1))] [] S4 Q)) :
    fx_Go G (0, 0) mm_H_putInside 29 [(0, fx_r G v0), (1, .int v1), (2, .int v2), (3, .int v3), (4, .int v4), (5, .int v5)] [] S Q := by
  refine bk_H_putInside_29 v0 v1 v2 v3 v4 v5 ?_
  refine ⟨fun hc => ?_, fun hc => ?_⟩
  · replace h := h.1 hc
    refine ⟨(hS.iH hv0), ?_⟩
    intro S1 eS1
    replace h := h S1 eS1
    have hS1 : shC S1 := by rw [eS1]; exact hS
    exact h
  · replace h := h.2 hc
    refine ⟨(hS.iH hv0), ?_⟩
    refine ⟨_, (hS.pHh hv0), ?_⟩
    refine ⟨(hS.iHh hv0), ?_⟩
    obtain ⟨w3, h⟩ := h
    refine ⟨(hS.vHh hv0 w3), ?_⟩
    intro S4 eS4
    replace h := h S4 eS4
    have hS4 : shC S4 := by rw [eS4]; exact hS
    exact h
theorem bs_H_hasList_0 {G : fx_G} {S : fx_S} {Q : fx_R → fx_S → Prop} (hS : shC S) (v0 : Nat) (v1 : Nat) (v2 : Int32) (hv0 : isH v0) {nv1 : Nat} (hv1 : isA v1 nv1) (h : ((fx_I S v0 4) = v2 → fx_Go G (0, 0) mm_H_hasList 12 [(0, fx_r G v0), (1, fx_r G v1), (2, .int v2), (3, .int 0)] [] S Q) ∧ (¬ (fx_I S v0 4) = v2 → Q (.inl (some (.int 0))) S)) :
    fx_Go G (0, 0) mm_H_hasList 0 [(0, fx_r G v0), (1, fx_r G v1), (2, .int v2)] [] S Q := by
  refine bk_H_hasList_0 v0 v1 v2 ?_
  refine ⟨(hS.iH hv0), ?_⟩
  refine ⟨fun hc => ?_, fun hc => ?_⟩
  · replace h := h.1 hc
    exact h
  · replace h := h.2 hc
    exact h
theorem bs_H_hasList_12 {G : fx_G} {S : fx_S} {Q : fx_R → fx_S → Prop} (hS : shC S) (v0 : Nat) (v1 : Nat) (v2 : Int32) (v3 : Int32) (hv0 : isH v0) {nv1 : Nat} (hv1 : isA v1 nv1) (h : (v2 ≤ v3 → Q (.inl (some (.int 1))) S) ∧ (¬ v2 ≤ v3 → vp_in v3 54 ∧ vp_in v3 nv1 ∧ ((fx_I S (v0 + 3) (v3.toNatClampNeg)) = (fx_I S v1 (v3.toNatClampNeg)) → fx_Go G (0, 0) mm_H_hasList 12 [(0, fx_r G v0), (1, fx_r G v1), (2, .int v2), (3, .int (v3 + Int32.ofInt 1))] [] S Q) ∧ (¬ (fx_I S (v0 + 3) (v3.toNatClampNeg)) = (fx_I S v1 (v3.toNatClampNeg)) → Q (.inl (some (.int 0))) S))) :
    fx_Go G (0, 0) mm_H_hasList 12 [(0, fx_r G v0), (1, fx_r G v1), (2, .int v2), (3, .int v3)] [] S Q := by
  refine bk_H_hasList_12 v0 v1 v2 v3 ?_
  refine ⟨fun hc => ?_, fun hc => ?_⟩
  · replace h := h.1 hc
    exact h
  · replace h := h.2 hc
    refine ⟨(hS.iH hv0), ?_⟩
    refine ⟨_, (hS.pHh hv0), ?_⟩
    refine ⟨(hS.iHh hv0), ?_⟩
    obtain ⟨w2, h⟩ := h
    refine ⟨(hS.vHh hv0 w2), ?_⟩
    refine ⟨(hS.iA hv1), ?_⟩
    obtain ⟨w3, h⟩ := h
    refine ⟨(hS.vA hv1 w3), ?_⟩
    refine ⟨fun hc => ?_, fun hc => ?_⟩
    · replace h := h.1 hc
      exact h
    · replace h := h.2 hc
      exact h
theorem bs_H_setList_0 {G : fx_G} {S : fx_S} {Q : fx_R → fx_S → Prop} (hS : shC S) (v0 : Nat) (v1 : Nat) (v2 : Int32) (hv0 : isH v0) {nv1 : Nat} (hv1 : isA v1 nv1) (h : fx_cp2 nv1 54 0 0 v2 ∧ ∀ S2, S2 = fx_setR S (v0 + 3) (va_cpy (fx_I S v1) (fx_I S (v0 + 3)) ((0 : Int32).toNatClampNeg) ((0 : Int32).toNatClampNeg) (v2.toNatClampNeg)) → ∀ S4, S4 = fx_setI S2 v0 4 v2 → Q (.inl none) S4) :
    fx_Go G (1, 18) mm_H_setList 0 [(0, fx_r G v0), (1, fx_r G v1), (2, .int v2)] [] S Q := by
  refine bk_H_setList_0 v0 v1 v2 ?_
  refine ⟨(hS.iH hv0), ?_⟩
  refine ⟨_, (hS.pHh hv0), ?_⟩
  refine ⟨(hS.iA hv1), ?_⟩
  refine ⟨(hS.iHh hv0), ?_⟩
  obtain ⟨w3, h⟩ := h
  refine ⟨fx_cp2.to (hS.lA hv1) (hS.lHh hv0) w3, ?_⟩
  intro S2 eS2
  replace h := h S2 eS2
  have hS2 : shC S2 := by rw [eS2]; exact hS
  intro S4 eS4
  replace h := h S4 eS4
  have hS4 : shC S4 := by rw [eS4]; exact hS2
  exact h
theorem bs_H_encode_0 {G : fx_G} {S : fx_S} {Q : fx_R → fx_S → Prop} (hS : shC S) (v0 : Nat) (v1 : Nat) (hv0 : isH v0) {nv1 : Nat} (hv1 : isA v1 nv1) (h : fx_Go G (0, 0) mm_A_fill 0 [(0, fx_r G v1), (1, .int 0)] [] S (fx_qv (fun S1 => shC S1 ∧ vp_in 0 nv1 ∧ ∀ S3, S3 = fx_setI S1 v1 ((0 : Int32).toNatClampNeg) (fx_I S1 v0 0) → vp_in 1 nv1 ∧ ∀ S5, S5 = fx_setI S3 v1 ((1 : Int32).toNatClampNeg) (fx_I S3 v0 1) → fx_Go G (0, 0) mm_V_putWord 0 [(0, fx_r G v1), (1, .int 2), (2, .int (fx_I S5 v0 2))] [] S5 (fx_qv (fun S6 => shC S6 ∧ fx_Go G (1, 18) mm_H_encodeName 0 [(0, fx_r G v0), (1, fx_r G v1)] [] S6 (fx_qi (fun x8 S7 => shC S7 ∧ fx_Go G (2, 31) mm_H_encodeData 0 [(0, fx_r G v0), (1, fx_r G v1), (2, .int x8)] [] S7 (fx_qi (fun x10 S9 => shC S9 ∧ vp_in 8 nv1 ∧ ∀ S12, S12 = fx_setI S9 v1 ((8 : Int32).toNatClampNeg) (x10 - 10) → fx_Go G (1, 15) mm_H_setAside 0 [(0, fx_r G v0), (1, fx_r G v1), (2, .int 4), (3, .int 30)] [] S12 (fx_qv (fun S13 => shC S13 ∧ fx_Go G (1, 15) mm_H_setAside 0 [(0, fx_r G v0), (1, fx_r G v1), (2, .int 6), (3, .int 62)] [] S13 (fx_qv (fun S14 => shC S14 ∧ Q (.inl none) S14) Q)) Q)) Q)) Q)) Q)) Q)) :
    fx_Go G (3, 46) mm_H_encode 0 [(0, fx_r G v0), (1, fx_r G v1)] [] S Q := by
  refine bk_H_encode_0 v0 v1 ?_
  refine fx_cons h (fx_qv_m fun S1 h => ?_)
  obtain ⟨hS1, h⟩ := h
  refine ⟨(hS1.iH hv0), ?_⟩
  refine ⟨(hS1.iA hv1), ?_⟩
  obtain ⟨w2, h⟩ := h
  refine ⟨(hS1.vA hv1 w2), ?_⟩
  intro S3 eS3
  replace h := h S3 eS3
  have hS3 : shC S3 := by rw [eS3]; exact hS1
  obtain ⟨w4, h⟩ := h
  refine ⟨(hS3.vA hv1 w4), ?_⟩
  intro S5 eS5
  replace h := h S5 eS5
  have hS5 : shC S5 := by rw [eS5]; exact hS3
  refine fx_cons h (fx_qv_m fun S6 h => ?_)
  obtain ⟨hS6, h⟩ := h
  refine ⟨(hS6.iH hv0), ?_⟩
  refine fx_cons h (fx_qi_m fun x8 S7 h => ?_)
  obtain ⟨hS7, h⟩ := h
  refine ⟨(hS7.iH hv0), ?_⟩
  refine fx_cons h (fx_qi_m fun x10 S9 h => ?_)
  obtain ⟨hS9, h⟩ := h
  refine ⟨(hS9.iA hv1), ?_⟩
  obtain ⟨w11, h⟩ := h
  refine ⟨(hS9.vA hv1 w11), ?_⟩
  intro S12 eS12
  replace h := h S12 eS12
  have hS12 : shC S12 := by rw [eS12]; exact hS9
  refine ⟨(hS12.iH hv0), ?_⟩
  refine fx_cons h (fx_qv_m fun S13 h => ?_)
  obtain ⟨hS13, h⟩ := h
  refine ⟨(hS13.iH hv0), ?_⟩
  refine fx_cons h (fx_qv_m fun S14 h => ?_)
  obtain ⟨hS14, h⟩ := h
  exact h
theorem bs_H_encodeName_0 {G : fx_G} {S : fx_S} {Q : fx_R → fx_S → Prop} (hS : shC S) (v0 : Nat) (v1 : Nat) (hv0 : isH v0) {nv1 : Nat} (hv1 : isA v1 nv1) (h : (¬ (fx_I S (v0 + 1) 1) = 0 → vp_in 10 nv1 ∧ ∀ S3, S3 = fx_setI S v1 ((10 : Int32).toNatClampNeg) 1 → vp_in 11 nv1 ∧ ∀ S6, S6 = fx_setI S3 v1 ((11 : Int32).toNatClampNeg) (2 + (fx_I S3 (v0 + 1) 1)) → fx_cp2 8 nv1 0 12 (fx_I S6 (v0 + 1) 1) ∧ ∀ S10, S10 = fx_setR S6 v1 (va_cpy (fx_I S6 ((v0 + 1) + 1)) (fx_I S6 v1) ((0 : Int32).toNatClampNeg) ((12 : Int32).toNatClampNeg) ((fx_I S6 (v0 + 1) 1).toNatClampNeg)) → Q (.inl (some (.int (12 + (fx_I S10 (v0 + 1) 1))))) S10) ∧ ((fx_I S (v0 + 1) 1) = 0 → Q (.inl (some (.int 10))) S)) :
    fx_Go G (1, 18) mm_H_encodeName 0 [(0, fx_r G v0), (1, fx_r G v1)] [] S Q := by
  refine bk_H_encodeName_0 v0 v1 ?_
  refine ⟨(hS.iH hv0), ?_⟩
  refine ⟨_, (hS.pHn hv0), ?_⟩
  refine ⟨(hS.iN (isH.n hv0)), ?_⟩
  refine ⟨fun hc => ?_, fun hc => ?_⟩
  · replace h := h.1 hc
    refine ⟨(hS.iA hv1), ?_⟩
    obtain ⟨w2, h⟩ := h
    refine ⟨(hS.vA hv1 w2), ?_⟩
    intro S3 eS3
    replace h := h S3 eS3
    have hS3 : shC S3 := by rw [eS3]; exact hS
    refine ⟨_, (hS3.pHn hv0), ?_⟩
    refine ⟨(hS3.iN (isH.n hv0)), ?_⟩
    obtain ⟨w5, h⟩ := h
    refine ⟨(hS3.vA hv1 w5), ?_⟩
    intro S6 eS6
    replace h := h S6 eS6
    have hS6 : shC S6 := by rw [eS6]; exact hS3
    refine ⟨_, (hS6.pHn hv0), ?_⟩
    refine ⟨(hS6.iN (isH.n hv0)), ?_⟩
    refine ⟨_, (hS6.pN (isH.n hv0)), ?_⟩
    refine ⟨_, (hS6.pHn hv0), ?_⟩
    refine ⟨(hS6.iN (isH.n hv0)), ?_⟩
    refine ⟨(hS6.iNl (isH.n hv0)), ?_⟩
    obtain ⟨w11, h⟩ := h
    refine ⟨fx_cp2.to (hS6.lNl (isH.n hv0)) (hS6.lA hv1) w11, ?_⟩
    intro S10 eS10
    replace h := h S10 eS10
    have hS10 : shC S10 := by rw [eS10]; exact hS6
    refine ⟨_, (hS10.pHn hv0), ?_⟩
    refine ⟨(hS10.iN (isH.n hv0)), ?_⟩
    exact h
  · replace h := h.2 hc
    exact h
theorem bs_H_encodeData_0 {G : fx_G} {S : fx_S} {Q : fx_R → fx_S → Prop} (hS : shC S) (v0 : Nat) (v1 : Nat) (v2 : Int32) (hv0 : isH v0) {nv1 : Nat} (hv1 : isA v1 nv1) (h : (¬ (fx_I S v0 3) = 0 → (¬ (fx_I S v0 3) = 3 → fx_cp2 54 nv1 0 (v2 + 2) (fx_I S v0 4) ∧ ∀ S2, S2 = fx_setR S v1 (va_cpy (fx_I S (v0 + 3)) (fx_I S v1) ((0 : Int32).toNatClampNeg) ((v2 + 2).toNatClampNeg) ((fx_I S v0 4).toNatClampNeg)) → fx_Go G (2, 31) mm_H_encodeData 68 [(0, fx_r G v0), (1, fx_r G v1), (2, .int v2), (3, .int ((v2 + 2) + (fx_I S2 v0 4)))] [] S2 Q) ∧ ((fx_I S v0 3) = 3 → fx_Go G (0, 0) mm_V_putWord 0 [(0, fx_r G v1), (1, .int (v2 + 2)), (2, .int (fx_I S v0 4))] [] S (fx_qv (fun S4 => shC S4 ∧ fx_Go G (1, 13) mm_Y_encode 0 [(0, fx_r G (v0 + 4)), (1, fx_r G v1), (2, .int ((v2 + 2) + 2))] [] S4 (fx_qi (fun x7 S6 => shC S6 ∧ fx_Go G (2, 31) mm_H_encodeData 68 [(0, fx_r G v0), (1, fx_r G v1), (2, .int v2), (3, .int (x7 + 1))] [] S6 Q) Q)) Q))) ∧ ((fx_I S v0 3) = 0 → Q (.inl (some (.int v2))) S)) :
    fx_Go G (2, 31) mm_H_encodeData 0 [(0, fx_r G v0), (1, fx_r G v1), (2, .int v2)] [] S Q := by
  refine bk_H_encodeData_0 v0 v1 v2 ?_
  refine ⟨(hS.iH hv0), ?_⟩
  refine ⟨fun hc => ?_, fun hc => ?_⟩
  · replace h := h.1 hc
    refine ⟨fun hc => ?_, fun hc => ?_⟩
    · replace h := h.1 hc
      refine ⟨_, (hS.pHh hv0), ?_⟩
      refine ⟨(hS.iHh hv0), ?_⟩
      refine ⟨(hS.iA hv1), ?_⟩
      obtain ⟨w3, h⟩ := h
      refine ⟨fx_cp2.to (hS.lHh hv0) (hS.lA hv1) w3, ?_⟩
      intro S2 eS2
      replace h := h S2 eS2
      have hS2 : shC S2 := by rw [eS2]; exact hS
      exact h
    · replace h := h.2 hc
      refine fx_cons h (fx_qv_m fun S4 h => ?_)
      obtain ⟨hS4, h⟩ := h
      refine ⟨(hS4.iH hv0), ?_⟩
      refine ⟨_, (hS4.pHy hv0), ?_⟩
      refine ⟨(hS4.iY (isH.y hv0)), ?_⟩
      refine fx_cons h (fx_qi_m fun x7 S6 h => ?_)
      obtain ⟨hS6, h⟩ := h
      exact h
  · replace h := h.2 hc
    exact h
theorem bs_H_encodeData_68 {G : fx_G} {S : fx_S} {Q : fx_R → fx_S → Prop} (hS : shC S) (v0 : Nat) (v1 : Nat) (v2 : Int32) (v3 : Int32) (hv0 : isH v0) {nv1 : Nat} (hv1 : isA v1 nv1) (h : vp_in v2 nv1 ∧ ∀ S2, S2 = fx_setI S v1 (v2.toNatClampNeg) (fx_I S v0 3) → vp_in (v2 + 1) nv1 ∧ ∀ S4, S4 = fx_setI S2 v1 ((v2 + 1).toNatClampNeg) (v3 - v2) → Q (.inl (some (.int v3))) S4) :
    fx_Go G (2, 31) mm_H_encodeData 68 [(0, fx_r G v0), (1, fx_r G v1), (2, .int v2), (3, .int v3)] [] S Q := by
  refine bk_H_encodeData_68 v0 v1 v2 v3 ?_
  refine ⟨(hS.iH hv0), ?_⟩
  refine ⟨(hS.iA hv1), ?_⟩
  obtain ⟨w1, h⟩ := h
  refine ⟨(hS.vA hv1 w1), ?_⟩
  intro S2 eS2
  replace h := h S2 eS2
  have hS2 : shC S2 := by rw [eS2]; exact hS
  obtain ⟨w3, h⟩ := h
  refine ⟨(hS2.vA hv1 w3), ?_⟩
  intro S4 eS4
  replace h := h S4 eS4
  have hS4 : shC S4 := by rw [eS4]; exact hS2
  exact h
theorem bs_H_setAside_0 {G : fx_G} {S : fx_S} {Q : fx_R → fx_S → Prop} (hS : shC S) (v0 : Nat) (v1 : Nat) (v2 : Int32) (v3 : Int32) (hv0 : isH v0) {nv1 : Nat} (hv1 : isA v1 nv1) (h : fx_Go G (0, 0) mm_V_wordAt 0 [(0, fx_r G v1), (1, .int v3)] [] S (fx_qi (fun x2 S1 => shC S1 ∧ fx_Go G (0, 0) mm_V_putWord 0 [(0, fx_r G v1), (1, .int v2), (2, .int x2)] [] S1 (fx_qv (fun S3 => shC S3 ∧ fx_Go G (0, 0) mm_V_putWord 0 [(0, fx_r G v1), (1, .int v3), (2, .int (fx_I S3 v0 2))] [] S3 (fx_qv (fun S4 => shC S4 ∧ Q (.inl none) S4) Q)) Q)) Q)) :
    fx_Go G (1, 15) mm_H_setAside 0 [(0, fx_r G v0), (1, fx_r G v1), (2, .int v2), (3, .int v3)] [] S Q := by
  refine bk_H_setAside_0 v0 v1 v2 v3 ?_
  refine fx_cons h (fx_qi_m fun x2 S1 h => ?_)
  obtain ⟨hS1, h⟩ := h
  refine fx_cons h (fx_qv_m fun S3 h => ?_)
  obtain ⟨hS3, h⟩ := h
  refine ⟨(hS3.iH hv0), ?_⟩
  refine fx_cons h (fx_qv_m fun S4 h => ?_)
  obtain ⟨hS4, h⟩ := h
  exact h
theorem bs_H_decode_0 {G : fx_G} {S : fx_S} {Q : fx_R → fx_S → Prop} (hS : shC S) (v0 : Nat) (v1 : Nat) (hv0 : isH v0) {nv1 : Nat} (hv1 : isA v1 nv1) (h : vp_in 0 nv1 ∧ fx_Go G (0, 0) mm_V_wordAt 0 [(0, fx_r G v1), (1, .int 2)] [] S (fx_qi (fun x3 S2 => shC S2 ∧ ∀ S4, S4 = fx_setI S2 v0 2 x3 → fx_Go G (1, 13) mm_H_isTorn 0 [(0, fx_r G v0), (1, fx_r G v1)] [] S4 (fx_qi (fun x6 S5 => shC S5 ∧ (¬ x6 = 0 → fx_Go G (1, 12) mm_H_become 0 [(0, fx_r G v0), (1, .int 0), (2, .int 0)] [] S5 (fx_qv (fun S7 => shC S7 ∧ Q (.inl none) S7) Q)) ∧ (x6 = 0 → ((fx_I S v1 ((0 : Int32).toNatClampNeg)) = 1 → fx_Go G (4, 65) mm_H_decode 38 [(0, fx_r G v0), (1, fx_r G v1), (2, .int (fx_I S v1 ((0 : Int32).toNatClampNeg)))] [] S5 Q) ∧ (¬ (fx_I S v1 ((0 : Int32).toNatClampNeg)) = 1 → ((fx_I S v1 ((0 : Int32).toNatClampNeg)) = 2 → fx_Go G (4, 65) mm_H_decode 38 [(0, fx_r G v0), (1, fx_r G v1), (2, .int (fx_I S v1 ((0 : Int32).toNatClampNeg)))] [] S5 Q) ∧ (¬ (fx_I S v1 ((0 : Int32).toNatClampNeg)) = 2 → fx_Go G (1, 12) mm_H_become 0 [(0, fx_r G v0), (1, .int 0), (2, .int 0)] [] S5 (fx_qv (fun S8 => shC S8 ∧ Q (.inl none) S8) Q))))) Q)) Q)) :
    fx_Go G (4, 65) mm_H_decode 0 [(0, fx_r G v0), (1, fx_r G v1)] [] S Q := by
  refine bk_H_decode_0 v0 v1 ?_
  refine ⟨(hS.iA hv1), ?_⟩
  obtain ⟨w1, h⟩ := h
  refine ⟨(hS.vA hv1 w1), ?_⟩
  refine fx_cons h (fx_qi_m fun x3 S2 h => ?_)
  obtain ⟨hS2, h⟩ := h
  refine ⟨(hS2.iH hv0), ?_⟩
  intro S4 eS4
  replace h := h S4 eS4
  have hS4 : shC S4 := by rw [eS4]; exact hS2
  refine fx_cons h (fx_qi_m fun x6 S5 h => ?_)
  obtain ⟨hS5, h⟩ := h
  refine ⟨fun hc => ?_, fun hc => ?_⟩
  · replace h := h.1 hc
    refine ⟨(hS5.iH hv0), ?_⟩
    refine fx_cons h (fx_qv_m fun S7 h => ?_)
    obtain ⟨hS7, h⟩ := h
    exact h
  · replace h := h.2 hc
    refine ⟨fun hc => ?_, fun hc => ?_⟩
    · replace h := h.1 hc
      exact h
    · replace h := h.2 hc
      refine ⟨fun hc => ?_, fun hc => ?_⟩
      · replace h := h.1 hc
        exact h
      · replace h := h.2 hc
        refine ⟨(hS5.iH hv0), ?_⟩
        refine fx_cons h (fx_qv_m fun S8 h => ?_)
        obtain ⟨hS8, h⟩ := h
        exact h
theorem bs_H_decode_38 {G : fx_G} {S : fx_S} {Q : fx_R → fx_S → Prop} (hS : shC S) (v0 : Nat) (v1 : Nat) (v2 : Int32) (hv0 : isH v0) {nv1 : Nat} (hv1 : isA v1 nv1) (h : fx_Go G (0, 0) mm_V_wordAt 0 [(0, fx_r G v1), (1, .int 4)] [] S (fx_qi (fun x2 S1 => shC S1 ∧ fx_Go G (0, 0) mm_V_putWord 0 [(0, fx_r G v1), (1, .int 30), (2, .int x2)] [] S1 (fx_qv (fun S3 => shC S3 ∧ fx_Go G (0, 0) mm_V_wordAt 0 [(0, fx_r G v1), (1, .int 6)] [] S3 (fx_qi (fun x5 S4 => shC S4 ∧ fx_Go G (0, 0) mm_V_putWord 0 [(0, fx_r G v1), (1, .int 62), (2, .int x5)] [] S4 (fx_qv (fun S6 => shC S6 ∧ vp_in 1 nv1 ∧ fx_Go G (1, 12) mm_H_become 0 [(0, fx_r G v0), (1, .int v2), (2, .int (fx_I S6 v1 ((1 : Int32).toNatClampNeg)))] [] S6 (fx_qv (fun S8 => shC S8 ∧ fx_Go G (3, 49) mm_H_decodeAttributes 0 [(0, fx_r G v0), (1, fx_r G v1)] [] S8 (fx_qv (fun S9 => shC S9 ∧ Q (.inl none) S9) Q)) Q)) Q)) Q)) Q)) Q)) :
    fx_Go G (4, 65) mm_H_decode 38 [(0, fx_r G v0), (1, fx_r G v1), (2, .int v2)] [] S Q := by
  refine bk_H_decode_38 v0 v1 v2 ?_
  refine fx_cons h (fx_qi_m fun x2 S1 h => ?_)
  obtain ⟨hS1, h⟩ := h
  refine fx_cons h (fx_qv_m fun S3 h => ?_)
  obtain ⟨hS3, h⟩ := h
  refine fx_cons h (fx_qi_m fun x5 S4 h => ?_)
  obtain ⟨hS4, h⟩ := h
  refine fx_cons h (fx_qv_m fun S6 h => ?_)
  obtain ⟨hS6, h⟩ := h
  refine ⟨(hS6.iA hv1), ?_⟩
  obtain ⟨w7, h⟩ := h
  refine ⟨(hS6.vA hv1 w7), ?_⟩
  refine ⟨(hS6.iH hv0), ?_⟩
  refine fx_cons h (fx_qv_m fun S8 h => ?_)
  obtain ⟨hS8, h⟩ := h
  refine ⟨(hS8.iH hv0), ?_⟩
  refine fx_cons h (fx_qv_m fun S9 h => ?_)
  obtain ⟨hS9, h⟩ := h
  exact h
theorem bs_H_isTorn_0 {G : fx_G} {S : fx_S} {Q : fx_R → fx_S → Prop} (hS : shC S) (v0 : Nat) (v1 : Nat) (hv0 : isH v0) {nv1 : Nat} (hv1 : isA v1 nv1) (h : fx_Go G (0, 0) mm_V_wordAt 0 [(0, fx_r G v1), (1, .int 30)] [] S (fx_qi (fun x2 S1 => shC S1 ∧ (¬ x2 = (fx_I S1 v0 2) → Q (.inl (some (.int 1))) S1) ∧ (x2 = (fx_I S1 v0 2) → fx_Go G (0, 0) mm_V_wordAt 0 [(0, fx_r G v1), (1, .int 62)] [] S1 (fx_qi (fun x4 S3 => shC S3 ∧ (x4 = (fx_I S3 v0 2) → Q (.inl (some (.int 0))) S3) ∧ (¬ x4 = (fx_I S3 v0 2) → Q (.inl (some (.int 1))) S3)) Q))) Q)) :
    fx_Go G (1, 13) mm_H_isTorn 0 [(0, fx_r G v0), (1, fx_r G v1)] [] S Q := by
  refine bk_H_isTorn_0 v0 v1 ?_
  refine fx_cons h (fx_qi_m fun x2 S1 h => ?_)
  obtain ⟨hS1, h⟩ := h
  refine ⟨(hS1.iH hv0), ?_⟩
  refine ⟨fun hc => ?_, fun hc => ?_⟩
  · replace h := h.1 hc
    exact h
  · replace h := h.2 hc
    refine fx_cons h (fx_qi_m fun x4 S3 h => ?_)
    obtain ⟨hS3, h⟩ := h
    refine ⟨(hS3.iH hv0), ?_⟩
    refine ⟨fun hc => ?_, fun hc => ?_⟩
    · replace h := h.1 hc
      exact h
    · replace h := h.2 hc
      exact h
theorem bs_H_decodeAttributes_0 {G : fx_G} {S : fx_S} {Q : fx_R → fx_S → Prop} (hS : shC S) (v0 : Nat) (v1 : Nat) (hv0 : isH v0) {nv1 : Nat} (hv1 : isA v1 nv1) (h : vp_in 8 nv1 ∧ fx_Go G (3, 49) mm_H_decodeAttributes 16 [(0, fx_r G v0), (1, fx_r G v1), (2, .int (if 64 < (10 + (fx_I S v1 ((8 : Int32).toNatClampNeg))) then 64 else (10 + (fx_I S v1 ((8 : Int32).toNatClampNeg))))), (3, .int 10)] [] S Q) :
    fx_Go G (3, 49) mm_H_decodeAttributes 0 [(0, fx_r G v0), (1, fx_r G v1)] [] S Q := by
  refine bk_H_decodeAttributes_0 v0 v1 ?_
  refine ⟨(hS.iA hv1), ?_⟩
  obtain ⟨w1, h⟩ := h
  refine ⟨(hS.vA hv1 w1), ?_⟩
  exact h
theorem bs_H_decodeAttributes_16 {G : fx_G} {S : fx_S} {Q : fx_R → fx_S → Prop} (hS : shC S) (v0 : Nat) (v1 : Nat) (v2 : Int32) (v3 : Int32) (hv0 : isH v0) {nv1 : Nat} (hv1 : isA v1 nv1) (h : (v2 < (v3 + 2) → Q (.inl none) S) ∧ (¬ v2 < (v3 + 2) → vp_in (v3 + 1) nv1 ∧ fx_Go G (2, 32) mm_H_decodeAttribute 0 [(0, fx_r G v0), (1, fx_r G v1), (2, .int v3), (3, .int (if v2 < (v3 + (if (fx_I S v1 ((v3 + 1).toNatClampNeg)) < 2 then 2 else (fx_I S v1 ((v3 + 1).toNatClampNeg)))) then v2 else (v3 + (if (fx_I S v1 ((v3 + 1).toNatClampNeg)) < 2 then 2 else (fx_I S v1 ((v3 + 1).toNatClampNeg))))))] [] S (fx_qv (fun S2 => shC S2 ∧ fx_Go G (3, 49) mm_H_decodeAttributes 16 [(0, fx_r G v0), (1, fx_r G v1), (2, .int v2), (3, .int (v3 + (if (fx_I S v1 ((v3 + 1).toNatClampNeg)) < 2 then 2 else (fx_I S v1 ((v3 + 1).toNatClampNeg)))))] [] S2 Q) Q))) :
    fx_Go G (3, 49) mm_H_decodeAttributes 16 [(0, fx_r G v0), (1, fx_r G v1), (2, .int v2), (3, .int v3)] [] S Q := by
  refine bk_H_decodeAttributes_16 v0 v1 v2 v3 ?_
  refine ⟨fun hc => ?_, fun hc => ?_⟩
  · replace h := h.1 hc
    exact h
  · replace h := h.2 hc
    refine ⟨(hS.iA hv1), ?_⟩
    obtain ⟨w1, h⟩ := h
    refine ⟨(hS.vA hv1 w1), ?_⟩
    refine ⟨(hS.iH hv0), ?_⟩
    refine fx_cons h (fx_qv_m fun S2 h => ?_)
    obtain ⟨hS2, h⟩ := h
    exact h
theorem bs_H_decodeAttribute_0 {G : fx_G} {S : fx_S} {Q : fx_R → fx_S → Prop} (hS : shC S) (v0 : Nat) (v1 : Nat) (v2 : Int32) (v3 : Int32) (hv0 : isH v0) {nv1 : Nat} (hv1 : isA v1 nv1) (h : vp_in v2 nv1 ∧ (¬ (fx_I S v1 (v2.toNatClampNeg)) = 1 → vp_in v2 nv1 ∧ ((fx_I S v1 (v2.toNatClampNeg)) = 3 → (v3 < ((v2 + 2) + 2) → Q (.inl none) S) ∧ (¬ v3 < ((v2 + 2) + 2) → ∀ S3, S3 = fx_setI S v0 3 3 → fx_Go G (0, 0) mm_V_wordAt 0 [(0, fx_r G v1), (1, .int (v2 + 2))] [] S3 (fx_qi (fun x5 S4 => shC S4 ∧ ∀ S6, S6 = fx_setI S4 v0 4 x5 → fx_Go G (1, 15) mm_Y_decode 0 [(0, fx_r G (v0 + 4)), (1, fx_r G v1), (2, .int ((v2 + 2) + 2)), (3, .int v3)] [] S6 (fx_qv (fun S8 => shC S8 ∧ Q (.inl none) S8) Q)) Q))) ∧ (¬ (fx_I S v1 (v2.toNatClampNeg)) = 3 → vp_in v2 nv1 ∧ ∀ S10, S10 = fx_setI S v0 3 (fx_I S v1 (v2.toNatClampNeg)) → ∀ S11, S11 = fx_setI S10 v0 4 (v3 - (v2 + 2)) → fx_cp2 nv1 54 (v2 + 2) 0 (fx_I S11 v0 4) ∧ ∀ S13, S13 = fx_setR S11 (v0 + 3) (va_cpy (fx_I S11 v1) (fx_I S11 (v0 + 3)) ((v2 + 2).toNatClampNeg) ((0 : Int32).toNatClampNeg) ((fx_I S11 v0 4).toNatClampNeg)) → Q (.inl none) S13)) ∧ ((fx_I S v1 (v2.toNatClampNeg)) = 1 → fx_Go G (2, 32) mm_H_decodeAttribute 16 [(0, fx_r G v0), (1, fx_r G v1), (3, .int v3), (5, .int (v2 + 2))] [] S Q)) :
    fx_Go G (2, 32) mm_H_decodeAttribute 0 [(0, fx_r G v0), (1, fx_r G v1), (2, .int v2), (3, .int v3)] [] S Q := by
  refine bk_H_decodeAttribute_0 v0 v1 v2 v3 ?_
  refine ⟨(hS.iA hv1), ?_⟩
  obtain ⟨w1, h⟩ := h
  refine ⟨(hS.vA hv1 w1), ?_⟩
  refine ⟨fun hc => ?_, fun hc => ?_⟩
  · replace h := h.1 hc
    obtain ⟨w2, h⟩ := h
    refine ⟨(hS.vA hv1 w2), ?_⟩
    refine ⟨fun hc => ?_, fun hc => ?_⟩
    · replace h := h.1 hc
      refine ⟨fun hc => ?_, fun hc => ?_⟩
      · replace h := h.1 hc
        exact h
      · replace h := h.2 hc
        refine ⟨(hS.iH hv0), ?_⟩
        intro S3 eS3
        replace h := h S3 eS3
        have hS3 : shC S3 := by rw [eS3]; exact hS
        refine fx_cons h (fx_qi_m fun x5 S4 h => ?_)
        obtain ⟨hS4, h⟩ := h
        refine ⟨(hS4.iH hv0), ?_⟩
        intro S6 eS6
        replace h := h S6 eS6
        have hS6 : shC S6 := by rw [eS6]; exact hS4
        refine ⟨_, (hS6.pHy hv0), ?_⟩
        refine ⟨(hS6.iY (isH.y hv0)), ?_⟩
        refine fx_cons h (fx_qv_m fun S8 h => ?_)
        obtain ⟨hS8, h⟩ := h
        exact h
    · replace h := h.2 hc
      obtain ⟨w9, h⟩ := h
      refine ⟨(hS.vA hv1 w9), ?_⟩
      refine ⟨(hS.iH hv0), ?_⟩
      intro S10 eS10
      replace h := h S10 eS10
      have hS10 : shC S10 := by rw [eS10]; exact hS
      intro S11 eS11
      replace h := h S11 eS11
      have hS11 : shC S11 := by rw [eS11]; exact hS10
      refine ⟨_, (hS11.pHh hv0), ?_⟩
      refine ⟨(hS11.iHh hv0), ?_⟩
      obtain ⟨w14, h⟩ := h
      refine ⟨fx_cp2.to (hS11.lA hv1) (hS11.lHh hv0) w14, ?_⟩
      intro S13 eS13
      replace h := h S13 eS13
      have hS13 : shC S13 := by rw [eS13]; exact hS11
      exact h
  · replace h := h.2 hc
    exact h
theorem bs_H_decodeAttribute_16 {G : fx_G} {S : fx_S} {Q : fx_R → fx_S → Prop} (hS : shC S) (v0 : Nat) (v1 : Nat) (v3 : Int32) (v5 : Int32) (hv0 : isH v0) {nv1 : Nat} (hv1 : isA v1 nv1) (h : (v3 ≤ v5 → Q (.inl none) S) ∧ (¬ v3 ≤ v5 → vp_in v5 nv1 ∧ fx_Go G (0, 0) mm_N_append 0 [(0, fx_r G (v0 + 1)), (1, .int (fx_I S v1 (v5.toNatClampNeg)))] [] S (fx_qi (fun x4 S3 => shC S3 ∧ fx_Go G (2, 32) mm_H_decodeAttribute 16 [(0, fx_r G v0), (1, fx_r G v1), (3, .int v3), (5, .int (v5 + Int32.ofInt 1))] [] S3 Q) Q))) :
    fx_Go G (2, 32) mm_H_decodeAttribute 16 [(0, fx_r G v0), (1, fx_r G v1), (3, .int v3), (5, .int v5)] [] S Q := by
  refine bk_H_decodeAttribute_16 v0 v1 v3 v5 ?_
  refine ⟨fun hc => ?_, fun hc => ?_⟩
  · replace h := h.1 hc
    exact h
  · replace h := h.2 hc
    refine ⟨(hS.iH hv0), ?_⟩
    refine ⟨_, (hS.pHn hv0), ?_⟩
    refine ⟨(hS.iA hv1), ?_⟩
    obtain ⟨w2, h⟩ := h
    refine ⟨(hS.vA hv1 w2), ?_⟩
    refine ⟨(hS.iN (isH.n hv0)), ?_⟩
    refine fx_cons h (fx_qi_m fun x4 S3 h => ?_)
    obtain ⟨hS3, h⟩ := h
    exact h
