theorem bs_M_thrown_0 {G : fx_G} {S : fx_S} {Q : fx_R → fx_S → Prop} (hS : shM S)   (h : Q (.inl (some (.int (fx_I S 85 0)))) S) :
    fx_Go G (0, 0) mm_M_thrown 0 [(0, fx_r G 85)] [] S Q := by
  refine bk_M_thrown_0 85 ?_
  refine ⟨(hS.is ⟨by decide, by decide⟩ rfl), ?_⟩
  exact h
theorem bs_M_refuse_0 {G : fx_G} {S : fx_S} {Q : fx_R → fx_S → Prop} (hS : shM S) (v1 : Int32)  (h : ∀ S1, S1 = fx_setI S 85 0 v1 → Q (.inl (some (.int 0))) S1) :
    fx_Go G (0, 0) mm_M_refuse 0 [(0, fx_r G 85), (1, .int v1)] [] S Q := by
  refine bk_M_refuse_0 85 v1 ?_
  refine ⟨(hS.is ⟨by decide, by decide⟩ rfl), ?_⟩
  intro S1 eS1
  replace h := h S1 eS1
  have hS1 : shM S1 := by rw [eS1]; exact hS
  exact h
theorem bs_M_byteOf_0 {G : fx_G} {S : fx_S} {Q : fx_R → fx_S → Prop} (hS : shM S) (v1 : Int32) (v2 : Int32)  (h : (v2 = 30 → vp_in (((64 * v1) + v2) - 26) 2048 ∧ Q (.inl (some (.int (fx_I S 86 ((((64 * v1) + v2) - 26).toNatClampNeg))))) S) ∧ (¬ v2 = 30 → (¬ v2 = 31 → (v2 = 62 → vp_in (((64 * v1) + v2) - 56) 2048 ∧ Q (.inl (some (.int (fx_I S 86 ((((64 * v1) + v2) - 56).toNatClampNeg))))) S) ∧ (¬ v2 = 62 → (¬ v2 = 63 → (v2 ≤ 3 → vp_in ((64 * v1) + v2) 2048 ∧ Q (.inl (some (.int (fx_I S 86 (((64 * v1) + v2).toNatClampNeg))))) S) ∧ (¬ v2 ≤ 3 → (8 ≤ v2 → vp_in ((64 * v1) + v2) 2048 ∧ Q (.inl (some (.int (fx_I S 86 (((64 * v1) + v2).toNatClampNeg))))) S) ∧ (¬ 8 ≤ v2 → Q (.inl (some (.int 0))) S))) ∧ (v2 = 63 → vp_in (((64 * v1) + v2) - 56) 2048 ∧ Q (.inl (some (.int (fx_I S 86 ((((64 * v1) + v2) - 56).toNatClampNeg))))) S))) ∧ (v2 = 31 → vp_in (((64 * v1) + v2) - 26) 2048 ∧ Q (.inl (some (.int (fx_I S 86 ((((64 * v1) + v2) - 26).toNatClampNeg))))) S))) :
    fx_Go G (0, 0) mm_M_byteOf 0 [(0, fx_r G 85), (1, .int v1), (2, .int v2)] [] S Q := by
  refine bk_M_byteOf_0 85 v1 v2 ?_
  refine ⟨fun hc => ?_, fun hc => ?_⟩
  · replace h := h.1 hc
    refine ⟨(hS.is ⟨by decide, by decide⟩ rfl), ?_⟩
    refine ⟨_, (hS.P ⟨by decide, by decide⟩ rfl), ?_⟩
    refine ⟨(hS.is ⟨by decide, by decide⟩ rfl), ?_⟩
    obtain ⟨w2, h⟩ := h
    refine ⟨(hS.vin ⟨by decide, by decide⟩ rfl w2), ?_⟩
    exact h
  · replace h := h.2 hc
    refine ⟨fun hc => ?_, fun hc => ?_⟩
    · replace h := h.1 hc
      refine ⟨fun hc => ?_, fun hc => ?_⟩
      · replace h := h.1 hc
        refine ⟨(hS.is ⟨by decide, by decide⟩ rfl), ?_⟩
        refine ⟨_, (hS.P ⟨by decide, by decide⟩ rfl), ?_⟩
        refine ⟨(hS.is ⟨by decide, by decide⟩ rfl), ?_⟩
        obtain ⟨w4, h⟩ := h
        refine ⟨(hS.vin ⟨by decide, by decide⟩ rfl w4), ?_⟩
        exact h
      · replace h := h.2 hc
        refine ⟨fun hc => ?_, fun hc => ?_⟩
        · replace h := h.1 hc
          refine ⟨fun hc => ?_, fun hc => ?_⟩
          · replace h := h.1 hc
            refine ⟨(hS.is ⟨by decide, by decide⟩ rfl), ?_⟩
            refine ⟨_, (hS.P ⟨by decide, by decide⟩ rfl), ?_⟩
            refine ⟨(hS.is ⟨by decide, by decide⟩ rfl), ?_⟩
            obtain ⟨w6, h⟩ := h
            refine ⟨(hS.vin ⟨by decide, by decide⟩ rfl w6), ?_⟩
            exact h
          · replace h := h.2 hc
            refine ⟨fun hc => ?_, fun hc => ?_⟩
            · replace h := h.1 hc
              refine ⟨(hS.is ⟨by decide, by decide⟩ rfl), ?_⟩
              refine ⟨_, (hS.P ⟨by decide, by decide⟩ rfl), ?_⟩
              refine ⟨(hS.is ⟨by decide, by decide⟩ rfl), ?_⟩
              obtain ⟨w8, h⟩ := h
              refine ⟨(hS.vin ⟨by decide, by decide⟩ rfl w8), ?_⟩
              exact h
            · replace h := h.2 hc
              exact h
        · replace h := h.2 hc
          refine ⟨(hS.is ⟨by decide, by decide⟩ rfl), ?_⟩
          refine ⟨_, (hS.P ⟨by decide, by decide⟩ rfl), ?_⟩
          refine ⟨(hS.is ⟨by decide, by decide⟩ rfl), ?_⟩
          obtain ⟨w10, h⟩ := h
          refine ⟨(hS.vin ⟨by decide, by decide⟩ rfl w10), ?_⟩
          exact h
    · replace h := h.2 hc
      refine ⟨(hS.is ⟨by decide, by decide⟩ rfl), ?_⟩
      refine ⟨_, (hS.P ⟨by decide, by decide⟩ rfl), ?_⟩
      refine ⟨(hS.is ⟨by decide, by decide⟩ rfl), ?_⟩
      obtain ⟨w12, h⟩ := h
      refine ⟨(hS.vin ⟨by decide, by decide⟩ rfl w12), ?_⟩
      exact h
theorem bs_M_wordAt_0 {G : fx_G} {S : fx_S} {Q : fx_R → fx_S → Prop} (hS : shM S) (v1 : Int32)  (h : vp_in v1 2048 ∧ vp_in (v1 + 1) 2048 ∧ Q (.inl (some (.int ((fx_I S 86 (v1.toNatClampNeg)) + (256 * (fx_I S 86 ((v1 + 1).toNatClampNeg))))))) S) :
    fx_Go G (0, 0) mm_M_wordAt 0 [(0, fx_r G 85), (1, .int v1)] [] S Q := by
  refine bk_M_wordAt_0 85 v1 ?_
  refine ⟨(hS.is ⟨by decide, by decide⟩ rfl), ?_⟩
  refine ⟨_, (hS.P ⟨by decide, by decide⟩ rfl), ?_⟩
  refine ⟨(hS.is ⟨by decide, by decide⟩ rfl), ?_⟩
  obtain ⟨w2, h⟩ := h
  refine ⟨(hS.vin ⟨by decide, by decide⟩ rfl w2), ?_⟩
  refine ⟨_, (hS.P ⟨by decide, by decide⟩ rfl), ?_⟩
  refine ⟨(hS.is ⟨by decide, by decide⟩ rfl), ?_⟩
  obtain ⟨w4, h⟩ := h
  refine ⟨(hS.vin ⟨by decide, by decide⟩ rfl w4), ?_⟩
  exact h
theorem bs_M_isTorn_0 {G : fx_G} {S : fx_S} {Q : fx_R → fx_S → Prop} (hS : shM S) (v1 : Int32)  (h : fx_Go G (0, 0) mm_M_wordAt 0 [(0, fx_r G 85), (1, .int ((64 * v1) + 2))] [] S (fx_qi (fun x2 S1 => shM S1 ∧ fx_Go G (0, 0) mm_M_wordAt 0 [(0, fx_r G 85), (1, .int ((64 * v1) + 30))] [] S1 (fx_qi (fun x4 S3 => shM S3 ∧ (¬ x4 = x2 → Q (.inl (some (.int 1))) S3) ∧ (x4 = x2 → fx_Go G (0, 0) mm_M_wordAt 0 [(0, fx_r G 85), (1, .int ((64 * v1) + 62))] [] S3 (fx_qi (fun x6 S5 => shM S5 ∧ (x6 = x2 → Q (.inl (some (.int 0))) S5) ∧ (¬ x6 = x2 → Q (.inl (some (.int 1))) S5)) Q))) Q)) Q)) :
    fx_Go G (1, 13) mm_M_isTorn 0 [(0, fx_r G 85), (1, .int v1)] [] S Q := by
  refine bk_M_isTorn_0 85 v1 ?_
  refine ⟨(hS.is ⟨by decide, by decide⟩ rfl), ?_⟩
  refine fx_cons h (fx_qi_m fun x2 S1 h => ?_)
  obtain ⟨hS1, h⟩ := h
  refine ⟨(hS1.is ⟨by decide, by decide⟩ rfl), ?_⟩
  refine fx_cons h (fx_qi_m fun x4 S3 h => ?_)
  obtain ⟨hS3, h⟩ := h
  refine ⟨fun hc => ?_, fun hc => ?_⟩
  · replace h := h.1 hc
    exact h
  · replace h := h.2 hc
    refine ⟨(hS3.is ⟨by decide, by decide⟩ rfl), ?_⟩
    refine fx_cons h (fx_qi_m fun x6 S5 h => ?_)
    obtain ⟨hS5, h⟩ := h
    refine ⟨fun hc => ?_, fun hc => ?_⟩
    · replace h := h.1 hc
      exact h
    · replace h := h.2 hc
      exact h
theorem bs_M_isRecord_0 {G : fx_G} {S : fx_S} {Q : fx_R → fx_S → Prop} (hS : shM S) (v1 : Int32)  (h : ((fx_I S 85 4) = 0 → Q (.inl (some (.int 0))) S) ∧ (¬ (fx_I S 85 4) = 0 → (v1 < 0 → Q (.inl (some (.int 0))) S) ∧ (¬ v1 < 0 → (12 ≤ v1 → Q (.inl (some (.int 0))) S) ∧ (¬ 12 ≤ v1 → vp_in v1 12 ∧ ((fx_I S 87 (v1.toNatClampNeg)) = 0 → Q (.inl (some (.int 0))) S) ∧ (¬ (fx_I S 87 (v1.toNatClampNeg)) = 0 → Q (.inl (some (.int 1))) S))))) :
    fx_Go G (0, 0) mm_M_isRecord 0 [(0, fx_r G 85), (1, .int v1)] [] S Q := by
  refine bk_M_isRecord_0 85 v1 ?_
  refine ⟨(hS.is ⟨by decide, by decide⟩ rfl), ?_⟩
  refine ⟨fun hc => ?_, fun hc => ?_⟩
  · replace h := h.1 hc
    exact h
  · replace h := h.2 hc
    refine ⟨fun hc => ?_, fun hc => ?_⟩
    · replace h := h.1 hc
      exact h
    · replace h := h.2 hc
      refine ⟨fun hc => ?_, fun hc => ?_⟩
      · replace h := h.1 hc
        exact h
      · replace h := h.2 hc
        refine ⟨_, (hS.P ⟨by decide, by decide⟩ rfl), ?_⟩
        refine ⟨(hS.is ⟨by decide, by decide⟩ rfl), ?_⟩
        obtain ⟨w2, h⟩ := h
        refine ⟨(hS.vin ⟨by decide, by decide⟩ rfl w2), ?_⟩
        refine ⟨fun hc => ?_, fun hc => ?_⟩
        · replace h := h.1 hc
          exact h
        · replace h := h.2 hc
          exact h
theorem bs_M_isKind_0 {G : fx_G} {S : fx_S} {Q : fx_R → fx_S → Prop} (hS : shM S) (v1 : Int32) (v2 : Int32)  (h : fx_Go G (0, 0) mm_M_isRecord 0 [(0, fx_r G 85), (1, .int v1)] [] S (fx_qi (fun x2 S1 => shM S1 ∧ (x2 = 0 → Q (.inl (some (.int 0))) S1) ∧ (¬ x2 = 0 → fx_Go G (0, 0) mm_M_byteOf 0 [(0, fx_r G 85), (1, .int v1), (2, .int 0)] [] S1 (fx_qi (fun x4 S3 => shM S3 ∧ (¬ x4 = v2 → Q (.inl (some (.int 0))) S3) ∧ (x4 = v2 → Q (.inl (some (.int 1))) S3)) Q))) Q)) :
    fx_Go G (1, 15) mm_M_isKind 0 [(0, fx_r G 85), (1, .int v1), (2, .int v2)] [] S Q := by
  refine bk_M_isKind_0 85 v1 v2 ?_
  refine ⟨(hS.is ⟨by decide, by decide⟩ rfl), ?_⟩
  refine fx_cons h (fx_qi_m fun x2 S1 h => ?_)
  obtain ⟨hS1, h⟩ := h
  refine ⟨fun hc => ?_, fun hc => ?_⟩
  · replace h := h.1 hc
    exact h
  · replace h := h.2 hc
    refine ⟨(hS1.is ⟨by decide, by decide⟩ rfl), ?_⟩
    refine fx_cons h (fx_qi_m fun x4 S3 h => ?_)
    obtain ⟨hS3, h⟩ := h
    refine ⟨fun hc => ?_, fun hc => ?_⟩
    · replace h := h.1 hc
      exact h
    · replace h := h.2 hc
      exact h
theorem bs_M_attribute_0 {G : fx_G} {S : fx_S} {Q : fx_R → fx_S → Prop} (hS : shM S) (v1 : Int32) (v2 : Int32)  (h : fx_Go G (0, 0) mm_M_byteOf 0 [(0, fx_r G 85), (1, .int v1), (2, .int 8)] [] S (fx_qi (fun x2 S1 => shM S1 ∧ fx_Go G (1, 16) mm_M_attribute 15 [(0, fx_r G 85), (1, .int v1), (2, .int v2), (3, .int 10), (4, .int (10 + x2))] [] S1 Q) Q)) :
    fx_Go G (1, 16) mm_M_attribute 0 [(0, fx_r G 85), (1, .int v1), (2, .int v2)] [] S Q := by
  refine bk_M_attribute_0 85 v1 v2 ?_
  refine ⟨(hS.is ⟨by decide, by decide⟩ rfl), ?_⟩
  refine fx_cons h (fx_qi_m fun x2 S1 h => ?_)
  obtain ⟨hS1, h⟩ := h
  exact h
theorem bs_M_attribute_15 {G : fx_G} {S : fx_S} {Q : fx_R → fx_S → Prop} (hS : shM S) (v1 : Int32) (v2 : Int32) (v3 : Int32) (v4 : Int32)  (h : (v4 ≤ v3 → Q (.inl (some (.int (-1)))) S) ∧ (¬ v4 ≤ v3 → fx_Go G (0, 0) mm_M_byteOf 0 [(0, fx_r G 85), (1, .int v1), (2, .int v3)] [] S (fx_qi (fun x2 S1 => shM S1 ∧ (¬ x2 = v2 → fx_Go G (0, 0) mm_M_byteOf 0 [(0, fx_r G 85), (1, .int v1), (2, .int (v3 + 1))] [] S1 (fx_qi (fun x4 S3 => shM S3 ∧ fx_Go G (1, 16) mm_M_attribute 15 [(0, fx_r G 85), (1, .int v1), (2, .int v2), (3, .int (v3 + x4)), (4, .int v4)] [] S3 Q) Q)) ∧ (x2 = v2 → Q (.inl (some (.int v3))) S1)) Q))) :
    fx_Go G (1, 16) mm_M_attribute 15 [(0, fx_r G 85), (1, .int v1), (2, .int v2), (3, .int v3), (4, .int v4)] [] S Q := by
  refine bk_M_attribute_15 85 v1 v2 v3 v4 ?_
  refine ⟨fun hc => ?_, fun hc => ?_⟩
  · replace h := h.1 hc
    exact h
  · replace h := h.2 hc
    refine ⟨(hS.is ⟨by decide, by decide⟩ rfl), ?_⟩
    refine fx_cons h (fx_qi_m fun x2 S1 h => ?_)
    obtain ⟨hS1, h⟩ := h
    refine ⟨fun hc => ?_, fun hc => ?_⟩
    · replace h := h.1 hc
      refine ⟨(hS1.is ⟨by decide, by decide⟩ rfl), ?_⟩
      refine fx_cons h (fx_qi_m fun x4 S3 h => ?_)
      obtain ⟨hS3, h⟩ := h
      exact h
    · replace h := h.2 hc
      exact h
theorem bs_M_nameLength_0 {G : fx_G} {S : fx_S} {Q : fx_R → fx_S → Prop} (hS : shM S) (v1 : Int32)  (h : fx_Go G (1, 16) mm_M_attribute 0 [(0, fx_r G 85), (1, .int v1), (2, .int 1)] [] S (fx_qi (fun x2 S1 => shM S1 ∧ (0 ≤ x2 → fx_Go G (0, 0) mm_M_byteOf 0 [(0, fx_r G 85), (1, .int v1), (2, .int 11)] [] S1 (fx_qi (fun x4 S3 => shM S3 ∧ Q (.inl (some (.int (x4 - 2)))) S3) Q)) ∧ (¬ 0 ≤ x2 → Q (.inl (some (.int 0))) S1)) Q)) :
    fx_Go G (2, 32) mm_M_nameLength 0 [(0, fx_r G 85), (1, .int v1)] [] S Q := by
  refine bk_M_nameLength_0 85 v1 ?_
  refine ⟨(hS.is ⟨by decide, by decide⟩ rfl), ?_⟩
  refine fx_cons h (fx_qi_m fun x2 S1 h => ?_)
  obtain ⟨hS1, h⟩ := h
  refine ⟨fun hc => ?_, fun hc => ?_⟩
  · replace h := h.1 hc
    refine ⟨(hS1.is ⟨by decide, by decide⟩ rfl), ?_⟩
    refine fx_cons h (fx_qi_m fun x4 S3 h => ?_)
    obtain ⟨hS3, h⟩ := h
    exact h
  · replace h := h.2 hc
    exact h
theorem bs_M_nameAt_0 {G : fx_G} {S : fx_S} {Q : fx_R → fx_S → Prop} (hS : shM S) (v1 : Int32) (v2 : Int32)  (h : fx_Go G (2, 32) mm_M_nameLength 0 [(0, fx_r G 85), (1, .int v1)] [] S (fx_qi (fun x2 S1 => shM S1 ∧ (x2 ≤ v2 → Q (.inl (some (.int 0))) S1) ∧ (¬ x2 ≤ v2 → fx_Go G (0, 0) mm_M_byteOf 0 [(0, fx_r G 85), (1, .int v1), (2, .int (12 + v2))] [] S1 (fx_qi (fun x4 S3 => shM S3 ∧ Q (.inl (some (.int x4))) S3) Q))) Q)) :
    fx_Go G (3, 46) mm_M_nameAt 0 [(0, fx_r G 85), (1, .int v1), (2, .int v2)] [] S Q := by
  refine bk_M_nameAt_0 85 v1 v2 ?_
  refine ⟨(hS.is ⟨by decide, by decide⟩ rfl), ?_⟩
  refine fx_cons h (fx_qi_m fun x2 S1 h => ?_)
  obtain ⟨hS1, h⟩ := h
  refine ⟨fun hc => ?_, fun hc => ?_⟩
  · replace h := h.1 hc
    exact h
  · replace h := h.2 hc
    refine ⟨(hS1.is ⟨by decide, by decide⟩ rfl), ?_⟩
    refine fx_cons h (fx_qi_m fun x4 S3 h => ?_)
    obtain ⟨hS3, h⟩ := h
    exact h
theorem bs_M_compareNames_0 {G : fx_G} {S : fx_S} {Q : fx_R → fx_S → Prop} (hS : shM S) (v1 : Int32) (v2 : Int32)  (h : fx_Go G (4, 61) mm_M_compareNames 2 [(0, fx_r G 85), (1, .int v1), (2, .int v2), (3, .int 0)] [] S Q) :
    fx_Go G (4, 61) mm_M_compareNames 0 [(0, fx_r G 85), (1, .int v1), (2, .int v2)] [] S Q := by
  refine bk_M_compareNames_0 85 v1 v2 ?_
  exact h
theorem bs_M_compareNames_2 {G : fx_G} {S : fx_S} {Q : fx_R → fx_S → Prop} (hS : shM S) (v1 : Int32) (v2 : Int32) (v3 : Int32)  (h : (8 ≤ v3 → Q (.inl (some (.int 0))) S) ∧ (¬ 8 ≤ v3 → fx_Go G (3, 46) mm_M_nameAt 0 [(0, fx_r G 85), (1, .int v1), (2, .int v3)] [] S (fx_qi (fun x2 S1 => shM S1 ∧ fx_Go G (3, 46) mm_M_nameAt 0 [(0, fx_r G 85), (1, .int v2), (2, .int v3)] [] S1 (fx_qi (fun x4 S3 => shM S3 ∧ (x2 = x4 → fx_Go G (4, 61) mm_M_compareNames 2 [(0, fx_r G 85), (1, .int v1), (2, .int v2), (3, .int (v3 + Int32.ofInt 1))] [] S3 Q) ∧ (¬ x2 = x4 → fx_Go G (3, 46) mm_M_nameAt 0 [(0, fx_r G 85), (1, .int v1), (2, .int v3)] [] S3 (fx_qi (fun x6 S5 => shM S5 ∧ fx_Go G (3, 46) mm_M_nameAt 0 [(0, fx_r G 85), (1, .int v2), (2, .int v3)] [] S5 (fx_qi (fun x8 S7 => shM S7 ∧ (x8 ≤ x6 → Q (.inl (some (.int 1))) S7) ∧ (¬ x8 ≤ x6 → Q (.inl (some (.int (-1)))) S7)) Q)) Q))) Q)) Q))) :
    fx_Go G (4, 61) mm_M_compareNames 2 [(0, fx_r G 85), (1, .int v1), (2, .int v2), (3, .int v3)] [] S Q := by
  refine bk_M_compareNames_2 85 v1 v2 v3 ?_
  refine ⟨fun hc => ?_, fun hc => ?_⟩
  · replace h := h.1 hc
    exact h
  · replace h := h.2 hc
    refine ⟨(hS.is ⟨by decide, by decide⟩ rfl), ?_⟩
    refine fx_cons h (fx_qi_m fun x2 S1 h => ?_)
    obtain ⟨hS1, h⟩ := h
    refine ⟨(hS1.is ⟨by decide, by decide⟩ rfl), ?_⟩
    refine fx_cons h (fx_qi_m fun x4 S3 h => ?_)
    obtain ⟨hS3, h⟩ := h
    refine ⟨fun hc => ?_, fun hc => ?_⟩
    · replace h := h.1 hc
      exact h
    · replace h := h.2 hc
      refine ⟨(hS3.is ⟨by decide, by decide⟩ rfl), ?_⟩
      refine fx_cons h (fx_qi_m fun x6 S5 h => ?_)
      obtain ⟨hS5, h⟩ := h
      refine ⟨(hS5.is ⟨by decide, by decide⟩ rfl), ?_⟩
      refine fx_cons h (fx_qi_m fun x8 S7 h => ?_)
      obtain ⟨hS7, h⟩ := h
      refine ⟨fun hc => ?_, fun hc => ?_⟩
      · replace h := h.1 hc
        exact h
      · replace h := h.2 hc
        exact h
theorem bs_M_isDraft_0 {G : fx_G} {S : fx_S} {Q : fx_R → fx_S → Prop} (hS : shM S) (v1 : Int32)  (h : fx_Go G (2, 32) mm_M_nameLength 0 [(0, fx_r G 85), (1, .int v1)] [] S (fx_qi (fun x2 S1 => shM S1 ∧ (¬ x2 = (fx_I S1 85 6) → fx_Go G (4, 60) mm_M_isDraft 20 [(0, fx_r G 85), (1, .int v1), (2, .int 0), (3, .int 0)] [] S1 Q) ∧ (x2 = (fx_I S1 85 6) → fx_Go G (4, 60) mm_M_isDraft 20 [(0, fx_r G 85), (1, .int v1), (2, .int 1), (3, .int 0)] [] S1 Q)) Q)) :
    fx_Go G (4, 60) mm_M_isDraft 0 [(0, fx_r G 85), (1, .int v1)] [] S Q := by
  refine bk_M_isDraft_0 85 v1 ?_
  refine ⟨(hS.is ⟨by decide, by decide⟩ rfl), ?_⟩
  refine fx_cons h (fx_qi_m fun x2 S1 h => ?_)
  obtain ⟨hS1, h⟩ := h
  refine ⟨(hS1.is ⟨by decide, by decide⟩ rfl), ?_⟩
  refine ⟨fun hc => ?_, fun hc => ?_⟩
  · replace h := h.1 hc
    exact h
  · replace h := h.2 hc
    exact h
theorem bs_M_isDraft_20 {G : fx_G} {S : fx_S} {Q : fx_R → fx_S → Prop} (hS : shM S) (v1 : Int32) (v2 : Int32) (v3 : Int32)  (h : ((fx_I S 85 6) ≤ v3 → narrow .boolean (.int v2) = .int v2 ∧ Q (.inl (some (.int v2))) S) ∧ (¬ (fx_I S 85 6) ≤ v3 → (v2 = 0 → narrow .boolean (.int v2) = .int v2 ∧ Q (.inl (some (.int v2))) S) ∧ (¬ v2 = 0 → fx_Go G (3, 46) mm_M_nameAt 0 [(0, fx_r G 85), (1, .int v1), (2, .int v3)] [] S (fx_qi (fun x2 S1 => shM S1 ∧ vp_in v3 8 ∧ (¬ x2 = (fx_I S1 89 (v3.toNatClampNeg)) → fx_Go G (4, 60) mm_M_isDraft 20 [(0, fx_r G 85), (1, .int v1), (2, .int 0), (3, .int (v3 + Int32.ofInt 1))] [] S1 Q) ∧ (x2 = (fx_I S1 89 (v3.toNatClampNeg)) → fx_Go G (4, 60) mm_M_isDraft 20 [(0, fx_r G 85), (1, .int v1), (2, .int 1), (3, .int (v3 + Int32.ofInt 1))] [] S1 Q)) Q)))) :
    fx_Go G (4, 60) mm_M_isDraft 20 [(0, fx_r G 85), (1, .int v1), (2, .int v2), (3, .int v3)] [] S Q := by
  refine bk_M_isDraft_20 85 v1 v2 v3 ?_
  refine ⟨(hS.is ⟨by decide, by decide⟩ rfl), ?_⟩
  refine ⟨fun hc => ?_, fun hc => ?_⟩
  · replace h := h.1 hc
    exact h
  · replace h := h.2 hc
    refine ⟨fun hc => ?_, fun hc => ?_⟩
    · replace h := h.1 hc
      exact h
    · replace h := h.2 hc
      refine fx_cons h (fx_qi_m fun x2 S1 h => ?_)
      obtain ⟨hS1, h⟩ := h
      refine ⟨(hS1.is ⟨by decide, by decide⟩ rfl), ?_⟩
      refine ⟨_, (hS1.P ⟨by decide, by decide⟩ rfl), ?_⟩
      refine ⟨(hS1.is ⟨by decide, by decide⟩ rfl), ?_⟩
      obtain ⟨w4, h⟩ := h
      refine ⟨(hS1.vin ⟨by decide, by decide⟩ rfl w4), ?_⟩
      refine ⟨fun hc => ?_, fun hc => ?_⟩
      · replace h := h.1 hc
        exact h
      · replace h := h.2 hc
        exact h
theorem bs_M_listLength_0 {G : fx_G} {S : fx_S} {Q : fx_R → fx_S → Prop} (hS : shM S) (v1 : Int32)  (h : fx_Go G (1, 16) mm_M_attribute 0 [(0, fx_r G 85), (1, .int v1), (2, .int 4)] [] S (fx_qi (fun x2 S1 => shM S1 ∧ fx_Go G (0, 0) mm_M_byteOf 0 [(0, fx_r G 85), (1, .int v1), (2, .int (x2 + 1))] [] S1 (fx_qi (fun x4 S3 => shM S3 ∧ Q (.inl (some (.int (x4 - 2)))) S3) Q)) Q)) :
    fx_Go G (2, 34) mm_M_listLength 0 [(0, fx_r G 85), (1, .int v1)] [] S Q := by
  refine bk_M_listLength_0 85 v1 ?_
  refine ⟨(hS.is ⟨by decide, by decide⟩ rfl), ?_⟩
  refine fx_cons h (fx_qi_m fun x2 S1 h => ?_)
  obtain ⟨hS1, h⟩ := h
  refine ⟨(hS1.is ⟨by decide, by decide⟩ rfl), ?_⟩
  refine fx_cons h (fx_qi_m fun x4 S3 h => ?_)
  obtain ⟨hS3, h⟩ := h
  exact h
theorem bs_M_entry_0 {G : fx_G} {S : fx_S} {Q : fx_R → fx_S → Prop} (hS : shM S) (v1 : Int32) (v2 : Int32)  (h : fx_Go G (1, 16) mm_M_attribute 0 [(0, fx_r G 85), (1, .int v1), (2, .int 4)] [] S (fx_qi (fun x2 S1 => shM S1 ∧ fx_Go G (0, 0) mm_M_byteOf 0 [(0, fx_r G 85), (1, .int v1), (2, .int ((x2 + 2) + v2))] [] S1 (fx_qi (fun x4 S3 => shM S3 ∧ Q (.inl (some (.int x4))) S3) Q)) Q)) :
    fx_Go G (2, 34) mm_M_entry 0 [(0, fx_r G 85), (1, .int v1), (2, .int v2)] [] S Q := by
  refine bk_M_entry_0 85 v1 v2 ?_
  refine ⟨(hS.is ⟨by decide, by decide⟩ rfl), ?_⟩
  refine fx_cons h (fx_qi_m fun x2 S1 h => ?_)
  obtain ⟨hS1, h⟩ := h
  refine ⟨(hS1.is ⟨by decide, by decide⟩ rfl), ?_⟩
  refine fx_cons h (fx_qi_m fun x4 S3 h => ?_)
  obtain ⟨hS3, h⟩ := h
  exact h
theorem bs_M_isInside_0 {G : fx_G} {S : fx_S} {Q : fx_R → fx_S → Prop} (hS : shM S) (v1 : Int32)  (h : fx_Go G (1, 16) mm_M_attribute 0 [(0, fx_r G 85), (1, .int v1), (2, .int 2)] [] S (fx_qi (fun x2 S1 => shM S1 ∧ (x2 < 0 → Q (.inl (some (.int 0))) S1) ∧ (¬ x2 < 0 → Q (.inl (some (.int 1))) S1)) Q)) :
    fx_Go G (2, 32) mm_M_isInside 0 [(0, fx_r G 85), (1, .int v1)] [] S Q := by
  refine bk_M_isInside_0 85 v1 ?_
  refine ⟨(hS.is ⟨by decide, by decide⟩ rfl), ?_⟩
  refine fx_cons h (fx_qi_m fun x2 S1 h => ?_)
  obtain ⟨hS1, h⟩ := h
  refine ⟨fun hc => ?_, fun hc => ?_⟩
  · replace h := h.1 hc
    exact h
  · replace h := h.2 hc
    exact h
theorem bs_M_sizeOf_0 {G : fx_G} {S : fx_S} {Q : fx_R → fx_S → Prop} (hS : shM S) (v1 : Int32)  (h : fx_Go G (1, 16) mm_M_attribute 0 [(0, fx_r G 85), (1, .int v1), (2, .int 2)] [] S (fx_qi (fun x2 S1 => shM S1 ∧ (x2 < 0 → fx_Go G (1, 16) mm_M_attribute 0 [(0, fx_r G 85), (1, .int v1), (2, .int 3)] [] S1 (fx_qi (fun x4 S3 => shM S3 ∧ fx_Go G (0, 0) mm_M_byteOf 0 [(0, fx_r G 85), (1, .int v1), (2, .int (x4 + 2))] [] S3 (fx_qi (fun x6 S5 => shM S5 ∧ fx_Go G (0, 0) mm_M_byteOf 0 [(0, fx_r G 85), (1, .int v1), (2, .int (x4 + 3))] [] S5 (fx_qi (fun x8 S7 => shM S7 ∧ Q (.inl (some (.int (x6 + (256 * x8))))) S7) Q)) Q)) Q)) ∧ (¬ x2 < 0 → fx_Go G (0, 0) mm_M_byteOf 0 [(0, fx_r G 85), (1, .int v1), (2, .int (x2 + 1))] [] S1 (fx_qi (fun x10 S9 => shM S9 ∧ Q (.inl (some (.int (x10 - 2)))) S9) Q))) Q)) :
    fx_Go G (2, 32) mm_M_sizeOf 0 [(0, fx_r G 85), (1, .int v1)] [] S Q := by
  refine bk_M_sizeOf_0 85 v1 ?_
  refine ⟨(hS.is ⟨by decide, by decide⟩ rfl), ?_⟩
  refine fx_cons h (fx_qi_m fun x2 S1 h => ?_)
  obtain ⟨hS1, h⟩ := h
  refine ⟨fun hc => ?_, fun hc => ?_⟩
  · replace h := h.1 hc
    refine ⟨(hS1.is ⟨by decide, by decide⟩ rfl), ?_⟩
    refine fx_cons h (fx_qi_m fun x4 S3 h => ?_)
    obtain ⟨hS3, h⟩ := h
    refine ⟨(hS3.is ⟨by decide, by decide⟩ rfl), ?_⟩
    refine fx_cons h (fx_qi_m fun x6 S5 h => ?_)
    obtain ⟨hS5, h⟩ := h
    refine ⟨(hS5.is ⟨by decide, by decide⟩ rfl), ?_⟩
    refine fx_cons h (fx_qi_m fun x8 S7 h => ?_)
    obtain ⟨hS7, h⟩ := h
    exact h
  · replace h := h.2 hc
    refine ⟨(hS1.is ⟨by decide, by decide⟩ rfl), ?_⟩
    refine fx_cons h (fx_qi_m fun x10 S9 h => ?_)
    obtain ⟨hS9, h⟩ := h
    exact h
theorem bs_M_begin_0 {G : fx_G} {S : fx_S} {Q : fx_R → fx_S → Prop} (hS : shM S) (v1 : Int32) (v2 : Int32)  (h : fx_Go G (0, 0) mm_M_begin 2 [(0, fx_r G 85), (1, .int v1), (2, .int v2), (3, .int 0)] [] S Q) :
    fx_Go G (0, 0) mm_M_begin 0 [(0, fx_r G 85), (1, .int v1), (2, .int v2)] [] S Q := by
  refine bk_M_begin_0 85 v1 v2 ?_
  exact h
theorem bs_M_begin_2 {G : fx_G} {S : fx_S} {Q : fx_R → fx_S → Prop} (hS : shM S) (v1 : Int32) (v2 : Int32) (v3 : Int32)  (h : (64 ≤ v3 → vp_in 0 64 ∧ ∀ S3, S3 = fx_setI S 90 ((0 : Int32).toNatClampNeg) v1 → vp_in 1 64 ∧ ∀ S6, S6 = fx_setI S3 90 ((1 : Int32).toNatClampNeg) v2 → ∀ S7, S7 = fx_setI S6 85 9 10 → Q (.inl none) S7) ∧ (¬ 64 ≤ v3 → vp_in v3 64 ∧ ∀ S10, S10 = fx_setI S 90 (v3.toNatClampNeg) 0 → fx_Go G (0, 0) mm_M_begin 2 [(0, fx_r G 85), (1, .int v1), (2, .int v2), (3, .int (v3 + Int32.ofInt 1))] [] S10 Q)) :
    fx_Go G (0, 0) mm_M_begin 2 [(0, fx_r G 85), (1, .int v1), (2, .int v2), (3, .int v3)] [] S Q := by
  refine bk_M_begin_2 85 v1 v2 v3 ?_
  refine ⟨fun hc => ?_, fun hc => ?_⟩
  · replace h := h.1 hc
    refine ⟨(hS.is ⟨by decide, by decide⟩ rfl), ?_⟩
    refine ⟨_, (hS.P ⟨by decide, by decide⟩ rfl), ?_⟩
    refine ⟨(hS.is ⟨by decide, by decide⟩ rfl), ?_⟩
    obtain ⟨w2, h⟩ := h
    refine ⟨(hS.vin ⟨by decide, by decide⟩ rfl w2), ?_⟩
    intro S3 eS3
    replace h := h S3 eS3
    have hS3 : shM S3 := by rw [eS3]; exact hS
    refine ⟨_, (hS3.P ⟨by decide, by decide⟩ rfl), ?_⟩
    refine ⟨(hS3.is ⟨by decide, by decide⟩ rfl), ?_⟩
    obtain ⟨w5, h⟩ := h
    refine ⟨(hS3.vin ⟨by decide, by decide⟩ rfl w5), ?_⟩
    intro S6 eS6
    replace h := h S6 eS6
    have hS6 : shM S6 := by rw [eS6]; exact hS3
    intro S7 eS7
    replace h := h S7 eS7
    have hS7 : shM S7 := by rw [eS7]; exact hS6
    exact h
  · replace h := h.2 hc
    refine ⟨(hS.is ⟨by decide, by decide⟩ rfl), ?_⟩
    refine ⟨_, (hS.P ⟨by decide, by decide⟩ rfl), ?_⟩
    refine ⟨(hS.is ⟨by decide, by decide⟩ rfl), ?_⟩
    obtain ⟨w9, h⟩ := h
    refine ⟨(hS.vin ⟨by decide, by decide⟩ rfl w9), ?_⟩
    intro S10 eS10
    replace h := h S10 eS10
    have hS10 : shM S10 := by rw [eS10]; exact hS
    exact h
theorem bs_M_put_0 {G : fx_G} {S : fx_S} {Q : fx_R → fx_S → Prop} (hS : shM S) (v1 : Int32)  (h : (64 ≤ (fx_I S 85 9) → ∀ S1, S1 = fx_setI S 85 9 ((fx_I S 85 9) + 1) → Q (.inl none) S1) ∧ (¬ 64 ≤ (fx_I S 85 9) → vp_in (fx_I S 85 9) 64 ∧ ∀ S4, S4 = fx_setI S 90 ((fx_I S 85 9).toNatClampNeg) v1 → ∀ S5, S5 = fx_setI S4 85 9 ((fx_I S4 85 9) + 1) → Q (.inl none) S5)) :
    fx_Go G (0, 0) mm_M_put 0 [(0, fx_r G 85), (1, .int v1)] [] S Q := by
  refine bk_M_put_0 85 v1 ?_
  refine ⟨(hS.is ⟨by decide, by decide⟩ rfl), ?_⟩
  refine ⟨fun hc => ?_, fun hc => ?_⟩
  · replace h := h.1 hc
    intro S1 eS1
    replace h := h S1 eS1
    have hS1 : shM S1 := by rw [eS1]; exact hS
    exact h
  · replace h := h.2 hc
    refine ⟨_, (hS.P ⟨by decide, by decide⟩ rfl), ?_⟩
    refine ⟨(hS.is ⟨by decide, by decide⟩ rfl), ?_⟩
    obtain ⟨w3, h⟩ := h
    refine ⟨(hS.vin ⟨by decide, by decide⟩ rfl w3), ?_⟩
    intro S4 eS4
    replace h := h S4 eS4
    have hS4 : shM S4 := by rw [eS4]; exact hS
    intro S5 eS5
    replace h := h S5 eS5
    have hS5 : shM S5 := by rw [eS5]; exact hS4
    exact h
theorem bs_M_putName_0 {G : fx_G} {S : fx_S} {Q : fx_R → fx_S → Prop} (hS : shM S) (v1 : Int32)  (h : fx_Go G (2, 32) mm_M_nameLength 0 [(0, fx_r G 85), (1, .int v1)] [] S (fx_qi (fun x2 S1 => shM S1 ∧ (¬ x2 = 0 → fx_Go G (0, 0) mm_M_put 0 [(0, fx_r G 85), (1, .int 1)] [] S1 (fx_qv (fun S3 => shM S3 ∧ fx_Go G (0, 0) mm_M_put 0 [(0, fx_r G 85), (1, .int (x2 + 2))] [] S3 (fx_qv (fun S4 => shM S4 ∧ fx_Go G (3, 45) mm_M_putName 25 [(0, fx_r G 85), (1, .int v1), (2, .int x2), (3, .int 0)] [] S4 Q) Q)) Q)) ∧ (x2 = 0 → Q (.inl none) S1)) Q)) :
    fx_Go G (3, 45) mm_M_putName 0 [(0, fx_r G 85), (1, .int v1)] [] S Q := by
  refine bk_M_putName_0 85 v1 ?_
  refine ⟨(hS.is ⟨by decide, by decide⟩ rfl), ?_⟩
  refine fx_cons h (fx_qi_m fun x2 S1 h => ?_)
  obtain ⟨hS1, h⟩ := h
  refine ⟨fun hc => ?_, fun hc => ?_⟩
  · replace h := h.1 hc
    refine ⟨(hS1.is ⟨by decide, by decide⟩ rfl), ?_⟩
    refine fx_cons h (fx_qv_m fun S3 h => ?_)
    obtain ⟨hS3, h⟩ := h
    refine ⟨(hS3.is ⟨by decide, by decide⟩ rfl), ?_⟩
    refine fx_cons h (fx_qv_m fun S4 h => ?_)
    obtain ⟨hS4, h⟩ := h
    exact h
  · replace h := h.2 hc
    exact h
theorem bs_M_putName_25 {G : fx_G} {S : fx_S} {Q : fx_R → fx_S → Prop} (hS : shM S) (v1 : Int32) (v2 : Int32) (v3 : Int32)  (h : (v2 ≤ v3 → Q (.inl none) S) ∧ (¬ v2 ≤ v3 → fx_Go G (0, 0) mm_M_byteOf 0 [(0, fx_r G 85), (1, .int v1), (2, .int (12 + v3))] [] S (fx_qi (fun x2 S1 => shM S1 ∧ fx_Go G (0, 0) mm_M_put 0 [(0, fx_r G 85), (1, .int x2)] [] S1 (fx_qv (fun S3 => shM S3 ∧ fx_Go G (3, 45) mm_M_putName 25 [(0, fx_r G 85), (1, .int v1), (2, .int v2), (3, .int (v3 + Int32.ofInt 1))] [] S3 Q) Q)) Q))) :
    fx_Go G (3, 45) mm_M_putName 25 [(0, fx_r G 85), (1, .int v1), (2, .int v2), (3, .int v3)] [] S Q := by
  refine bk_M_putName_25 85 v1 v2 v3 ?_
  refine ⟨fun hc => ?_, fun hc => ?_⟩
  · replace h := h.1 hc
    exact h
  · replace h := h.2 hc
    refine ⟨(hS.is ⟨by decide, by decide⟩ rfl), ?_⟩
    refine fx_cons h (fx_qi_m fun x2 S1 h => ?_)
    obtain ⟨hS1, h⟩ := h
    refine ⟨(hS1.is ⟨by decide, by decide⟩ rfl), ?_⟩
    refine fx_cons h (fx_qv_m fun S3 h => ?_)
    obtain ⟨hS3, h⟩ := h
    exact h
theorem bs_M_putDraft_0 {G : fx_G} {S : fx_S} {Q : fx_R → fx_S → Prop} (hS : shM S)   (h : fx_Go G (0, 0) mm_M_put 0 [(0, fx_r G 85), (1, .int 1)] [] S (fx_qv (fun S1 => shM S1 ∧ fx_Go G (0, 0) mm_M_put 0 [(0, fx_r G 85), (1, .int ((fx_I S1 85 6) + 2))] [] S1 (fx_qv (fun S2 => shM S2 ∧ fx_Go G (1, 13) mm_M_putDraft 17 [(0, fx_r G 85), (1, .int 0)] [] S2 Q) Q)) Q)) :
    fx_Go G (1, 13) mm_M_putDraft 0 [(0, fx_r G 85)] [] S Q := by
  refine bk_M_putDraft_0 85 ?_
  refine ⟨(hS.is ⟨by decide, by decide⟩ rfl), ?_⟩
  refine fx_cons h (fx_qv_m fun S1 h => ?_)
  obtain ⟨hS1, h⟩ := h
  refine ⟨(hS1.is ⟨by decide, by decide⟩ rfl), ?_⟩
  refine fx_cons h (fx_qv_m fun S2 h => ?_)
  obtain ⟨hS2, h⟩ := h
  exact h
theorem bs_M_putDraft_17 {G : fx_G} {S : fx_S} {Q : fx_R → fx_S → Prop} (hS : shM S) (v1 : Int32)  (h : ((fx_I S 85 6) ≤ v1 → Q (.inl none) S) ∧ (¬ (fx_I S 85 6) ≤ v1 → vp_in v1 8 ∧ fx_Go G (0, 0) mm_M_put 0 [(0, fx_r G 85), (1, .int (fx_I S 89 (v1.toNatClampNeg)))] [] S (fx_qv (fun S3 => shM S3 ∧ fx_Go G (1, 13) mm_M_putDraft 17 [(0, fx_r G 85), (1, .int (v1 + Int32.ofInt 1))] [] S3 Q) Q))) :
    fx_Go G (1, 13) mm_M_putDraft 17 [(0, fx_r G 85), (1, .int v1)] [] S Q := by
  refine bk_M_putDraft_17 85 v1 ?_
  refine ⟨(hS.is ⟨by decide, by decide⟩ rfl), ?_⟩
  refine ⟨fun hc => ?_, fun hc => ?_⟩
  · replace h := h.1 hc
    exact h
  · replace h := h.2 hc
    refine ⟨_, (hS.P ⟨by decide, by decide⟩ rfl), ?_⟩
    refine ⟨(hS.is ⟨by decide, by decide⟩ rfl), ?_⟩
    obtain ⟨w2, h⟩ := h
    refine ⟨(hS.vin ⟨by decide, by decide⟩ rfl w2), ?_⟩
    refine fx_cons h (fx_qv_m fun S3 h => ?_)
    obtain ⟨hS3, h⟩ := h
    exact h
theorem bs_M_putList_0 {G : fx_G} {S : fx_S} {Q : fx_R → fx_S → Prop} (hS : shM S)   (h : fx_Go G (0, 0) mm_M_put 0 [(0, fx_r G 85), (1, .int 4)] [] S (fx_qv (fun S1 => shM S1 ∧ fx_Go G (0, 0) mm_M_put 0 [(0, fx_r G 85), (1, .int ((fx_I S1 85 14) + 2))] [] S1 (fx_qv (fun S2 => shM S2 ∧ fx_Go G (1, 13) mm_M_putList 17 [(0, fx_r G 85), (1, .int 0)] [] S2 Q) Q)) Q)) :
    fx_Go G (1, 13) mm_M_putList 0 [(0, fx_r G 85)] [] S Q := by
  refine bk_M_putList_0 85 ?_
  refine ⟨(hS.is ⟨by decide, by decide⟩ rfl), ?_⟩
  refine fx_cons h (fx_qv_m fun S1 h => ?_)
  obtain ⟨hS1, h⟩ := h
  refine ⟨(hS1.is ⟨by decide, by decide⟩ rfl), ?_⟩
  refine fx_cons h (fx_qv_m fun S2 h => ?_)
  obtain ⟨hS2, h⟩ := h
  exact h
theorem bs_M_putList_17 {G : fx_G} {S : fx_S} {Q : fx_R → fx_S → Prop} (hS : shM S) (v1 : Int32)  (h : ((fx_I S 85 14) ≤ v1 → Q (.inl none) S) ∧ (¬ (fx_I S 85 14) ≤ v1 → vp_in v1 12 ∧ fx_Go G (0, 0) mm_M_put 0 [(0, fx_r G 85), (1, .int (fx_I S 94 (v1.toNatClampNeg)))] [] S (fx_qv (fun S3 => shM S3 ∧ fx_Go G (1, 13) mm_M_putList 17 [(0, fx_r G 85), (1, .int (v1 + Int32.ofInt 1))] [] S3 Q) Q))) :
    fx_Go G (1, 13) mm_M_putList 17 [(0, fx_r G 85), (1, .int v1)] [] S Q := by
  refine bk_M_putList_17 85 v1 ?_
  refine ⟨(hS.is ⟨by decide, by decide⟩ rfl), ?_⟩
  refine ⟨fun hc => ?_, fun hc => ?_⟩
  · replace h := h.1 hc
    exact h
  · replace h := h.2 hc
    refine ⟨_, (hS.P ⟨by decide, by decide⟩ rfl), ?_⟩
    refine ⟨(hS.is ⟨by decide, by decide⟩ rfl), ?_⟩
    obtain ⟨w2, h⟩ := h
    refine ⟨(hS.vin ⟨by decide, by decide⟩ rfl w2), ?_⟩
    refine fx_cons h (fx_qv_m fun S3 h => ?_)
    obtain ⟨hS3, h⟩ := h
    exact h
theorem bs_M_putInside_0 {G : fx_G} {S : fx_S} {Q : fx_R → fx_S → Prop} (hS : shM S) (v1 : Int32)  (h : fx_Go G (0, 0) mm_M_put 0 [(0, fx_r G 85), (1, .int 2)] [] S (fx_qv (fun S1 => shM S1 ∧ fx_Go G (0, 0) mm_M_put 0 [(0, fx_r G 85), (1, .int (v1 + 2))] [] S1 (fx_qv (fun S2 => shM S2 ∧ fx_Go G (1, 13) mm_M_putInside 14 [(0, fx_r G 85), (1, .int v1), (2, .int 0)] [] S2 Q) Q)) Q)) :
    fx_Go G (1, 13) mm_M_putInside 0 [(0, fx_r G 85), (1, .int v1)] [] S Q := by
  refine bk_M_putInside_0 85 v1 ?_
  refine ⟨(hS.is ⟨by decide, by decide⟩ rfl), ?_⟩
  refine fx_cons h (fx_qv_m fun S1 h => ?_)
  obtain ⟨hS1, h⟩ := h
  refine ⟨(hS1.is ⟨by decide, by decide⟩ rfl), ?_⟩
  refine fx_cons h (fx_qv_m fun S2 h => ?_)
  obtain ⟨hS2, h⟩ := h
  exact h
theorem bs_M_putInside_14 {G : fx_G} {S : fx_S} {Q : fx_R → fx_S → Prop} (hS : shM S) (v1 : Int32) (v2 : Int32)  (h : (v1 ≤ v2 → Q (.inl none) S) ∧ (¬ v1 ≤ v2 → vp_in v2 64 ∧ fx_Go G (0, 0) mm_M_put 0 [(0, fx_r G 85), (1, .int (fx_I S 93 (v2.toNatClampNeg)))] [] S (fx_qv (fun S3 => shM S3 ∧ fx_Go G (1, 13) mm_M_putInside 14 [(0, fx_r G 85), (1, .int v1), (2, .int (v2 + Int32.ofInt 1))] [] S3 Q) Q))) :
    fx_Go G (1, 13) mm_M_putInside 14 [(0, fx_r G 85), (1, .int v1), (2, .int v2)] [] S Q := by
  refine bk_M_putInside_14 85 v1 v2 ?_
  refine ⟨fun hc => ?_, fun hc => ?_⟩
  · replace h := h.1 hc
    exact h
  · replace h := h.2 hc
    refine ⟨(hS.is ⟨by decide, by decide⟩ rfl), ?_⟩
    refine ⟨_, (hS.P ⟨by decide, by decide⟩ rfl), ?_⟩
    refine ⟨(hS.is ⟨by decide, by decide⟩ rfl), ?_⟩
    obtain ⟨w2, h⟩ := h
    refine ⟨(hS.vin ⟨by decide, by decide⟩ rfl w2), ?_⟩
    refine fx_cons h (fx_qv_m fun S3 h => ?_)
    obtain ⟨hS3, h⟩ := h
    exact h
theorem bs_M_putOutside_0 {G : fx_G} {S : fx_S} {Q : fx_R → fx_S → Prop} (hS : shM S) (v1 : Int32)  (h : fx_Go G (0, 0) mm_M_put 0 [(0, fx_r G 85), (1, .int 3)] [] S (fx_qv (fun S1 => shM S1 ∧ fx_Go G (0, 0) mm_M_put 0 [(0, fx_r G 85), (1, .int 0)] [] S1 (fx_qv (fun S2 => shM S2 ∧ fx_Go G (0, 0) mm_M_put 0 [(0, fx_r G 85), (1, .int (v1 - v1 / 256 * 256))] [] S2 (fx_qv (fun S3 => shM S3 ∧ fx_Go G (0, 0) mm_M_put 0 [(0, fx_r G 85), (1, .int (v1 / 256))] [] S3 (fx_qv (fun S4 => shM S4 ∧ fx_Go G (1, 13) mm_M_putOutside 39 [(0, fx_r G 85), (2, .int (fx_I S 85 9)), (3, .int 48), (4, .int 0)] [] S4 Q) Q)) Q)) Q)) Q)) :
    fx_Go G (1, 13) mm_M_putOutside 0 [(0, fx_r G 85), (1, .int v1)] [] S Q := by
  refine bk_M_putOutside_0 85 v1 ?_
  refine ⟨(hS.is ⟨by decide, by decide⟩ rfl), ?_⟩
  refine fx_cons h (fx_qv_m fun S1 h => ?_)
  obtain ⟨hS1, h⟩ := h
  refine ⟨(hS1.is ⟨by decide, by decide⟩ rfl), ?_⟩
  refine fx_cons h (fx_qv_m fun S2 h => ?_)
  obtain ⟨hS2, h⟩ := h
  refine ⟨(hS2.is ⟨by decide, by decide⟩ rfl), ?_⟩
  refine fx_cons h (fx_qv_m fun S3 h => ?_)
  obtain ⟨hS3, h⟩ := h
  refine ⟨(hS3.is ⟨by decide, by decide⟩ rfl), ?_⟩
  refine fx_cons h (fx_qv_m fun S4 h => ?_)
  obtain ⟨hS4, h⟩ := h
  exact h
theorem bs_M_putOutside_39 {G : fx_G} {S : fx_S} {Q : fx_R → fx_S → Prop} (hS : shM S) (v2 : Int32) (v3 : Int32) (v4 : Int32)  (h : ((fx_I S 85 10) ≤ v4 → fx_Go G (0, 0) mm_M_put 0 [(0, fx_r G 85), (1, .int 0)] [] S (fx_qv (fun S1 => shM S1 ∧ (64 ≤ (v2 + 1) → Q (.inl none) S1) ∧ (¬ 64 ≤ (v2 + 1) → vp_in (v2 + 1) 64 ∧ ∀ S4, S4 = fx_setI S1 90 ((v2 + 1).toNatClampNeg) ((fx_I S1 85 9) - v2) → Q (.inl none) S4)) Q)) ∧ (¬ (fx_I S 85 10) ≤ v4 → fx_Go G (1, 13) mm_M_putOutside 54 [(0, fx_r G 85), (2, .int v2), (3, .int v3), (4, .int v4), (5, .int (v4 + 1))] [] S Q)) :
    fx_Go G (1, 13) mm_M_putOutside 39 [(0, fx_r G 85), (2, .int v2), (3, .int v3), (4, .int v4)] [] S Q := by
  refine bk_M_putOutside_39 85 v2 v3 v4 ?_
  refine ⟨(hS.is ⟨by decide, by decide⟩ rfl), ?_⟩
  refine ⟨fun hc => ?_, fun hc => ?_⟩
  · replace h := h.1 hc
    refine fx_cons h (fx_qv_m fun S1 h => ?_)
    obtain ⟨hS1, h⟩ := h
    refine ⟨fun hc => ?_, fun hc => ?_⟩
    · replace h := h.1 hc
      exact h
    · replace h := h.2 hc
      refine ⟨(hS1.is ⟨by decide, by decide⟩ rfl), ?_⟩
      refine ⟨_, (hS1.P ⟨by decide, by decide⟩ rfl), ?_⟩
      refine ⟨(hS1.is ⟨by decide, by decide⟩ rfl), ?_⟩
      obtain ⟨w3, h⟩ := h
      refine ⟨(hS1.vin ⟨by decide, by decide⟩ rfl w3), ?_⟩
      intro S4 eS4
      replace h := h S4 eS4
      have hS4 : shM S4 := by rw [eS4]; exact hS1
      exact h
  · replace h := h.2 hc
    exact h
theorem bs_M_putOutside_54 {G : fx_G} {S : fx_S} {Q : fx_R → fx_S → Prop} (hS : shM S) (v2 : Int32) (v3 : Int32) (v4 : Int32) (v5 : Int32)  (h : ((fx_I S 85 10) ≤ v5 → fx_Go G (1, 13) mm_M_putOutside 115 [(0, fx_r G 85), (2, .int v2), (3, .int v3), (4, .int v4), (5, .int v5)] [] S Q) ∧ (¬ (fx_I S 85 10) ≤ v5 → vp_in v4 64 ∧ (0 ≤ (fx_I S 91 (v4.toNatClampNeg)) → vp_in v5 64 ∧ vp_in v4 64 ∧ (¬ (fx_I S 91 (v5.toNatClampNeg)) = (((fx_I S 91 (v4.toNatClampNeg)) + v5) - v4) → fx_Go G (1, 13) mm_M_putOutside 115 [(0, fx_r G 85), (2, .int v2), (3, .int v3), (4, .int v4), (5, .int v5)] [] S Q) ∧ ((fx_I S 91 (v5.toNatClampNeg)) = (((fx_I S 91 (v4.toNatClampNeg)) + v5) - v4) → fx_Go G (1, 13) mm_M_putOutside 54 [(0, fx_r G 85), (2, .int v2), (3, .int v3), (4, .int v4), (5, .int (v5 + Int32.ofInt 1))] [] S Q)) ∧ (¬ 0 ≤ (fx_I S 91 (v4.toNatClampNeg)) → vp_in v5 64 ∧ (0 ≤ (fx_I S 91 (v5.toNatClampNeg)) → fx_Go G (1, 13) mm_M_putOutside 115 [(0, fx_r G 85), (2, .int v2), (3, .int v3), (4, .int v4), (5, .int v5)] [] S Q) ∧ (¬ 0 ≤ (fx_I S 91 (v5.toNatClampNeg)) → fx_Go G (1, 13) mm_M_putOutside 54 [(0, fx_r G 85), (2, .int v2), (3, .int v3), (4, .int v4), (5, .int (v5 + Int32.ofInt 1))] [] S Q)))) :
    fx_Go G (1, 13) mm_M_putOutside 54 [(0, fx_r G 85), (2, .int v2), (3, .int v3), (4, .int v4), (5, .int v5)] [] S Q := by
  refine bk_M_putOutside_54 85 v2 v3 v4 v5 ?_
  refine ⟨(hS.is ⟨by decide, by decide⟩ rfl), ?_⟩
  refine ⟨fun hc => ?_, fun hc => ?_⟩
  · replace h := h.1 hc
    exact h
  · replace h := h.2 hc
    refine ⟨_, (hS.P ⟨by decide, by decide⟩ rfl), ?_⟩
    refine ⟨(hS.is ⟨by decide, by decide⟩ rfl), ?_⟩
    obtain ⟨w2, h⟩ := h
    refine ⟨(hS.vin ⟨by decide, by decide⟩ rfl w2), ?_⟩
    refine ⟨fun hc => ?_, fun hc => ?_⟩
    · replace h := h.1 hc
      refine ⟨_, (hS.P ⟨by decide, by decide⟩ rfl), ?_⟩
      refine ⟨(hS.is ⟨by decide, by decide⟩ rfl), ?_⟩
      obtain ⟨w4, h⟩ := h
      refine ⟨(hS.vin ⟨by decide, by decide⟩ rfl w4), ?_⟩
      refine ⟨_, (hS.P ⟨by decide, by decide⟩ rfl), ?_⟩
      refine ⟨(hS.is ⟨by decide, by decide⟩ rfl), ?_⟩
      obtain ⟨w6, h⟩ := h
      refine ⟨(hS.vin ⟨by decide, by decide⟩ rfl w6), ?_⟩
      refine ⟨fun hc => ?_, fun hc => ?_⟩
      · replace h := h.1 hc
        exact h
      · replace h := h.2 hc
        exact h
    · replace h := h.2 hc
      refine ⟨_, (hS.P ⟨by decide, by decide⟩ rfl), ?_⟩
      refine ⟨(hS.is ⟨by decide, by decide⟩ rfl), ?_⟩
      obtain ⟨w8, h⟩ := h
      refine ⟨(hS.vin ⟨by decide, by decide⟩ rfl w8), ?_⟩
      refine ⟨fun hc => ?_, fun hc => ?_⟩
      · replace h := h.1 hc
        exact h
      · replace h := h.2 hc
        exact h
theorem bs_M_putOutside_115 {G : fx_G} {S : fx_S} {Q : fx_R → fx_S → Prop} (hS : shM S) (v2 : Int32) (v3 : Int32) (v4 : Int32) (v5 : Int32)  (h : vp_in v4 64 ∧ (0 ≤ (fx_I S 91 (v4.toNatClampNeg)) → fx_Go G (1, 13) mm_M_putOutside 132 [(0, fx_r G 85), (2, .int v2), (3, .int v3), (4, .int v4), (5, .int v5)] [.int 17, fx_r G 85] S Q) ∧ (¬ 0 ≤ (fx_I S 91 (v4.toNatClampNeg)) → fx_Go G (1, 13) mm_M_putOutside 132 [(0, fx_r G 85), (2, .int v2), (3, .int v3), (4, .int v4), (5, .int v5)] [.int 1, fx_r G 85] S Q)) :
    fx_Go G (1, 13) mm_M_putOutside 115 [(0, fx_r G 85), (2, .int v2), (3, .int v3), (4, .int v4), (5, .int v5)] [] S Q := by
  refine bk_M_putOutside_115 85 v2 v3 v4 v5 ?_
  refine ⟨(hS.is ⟨by decide, by decide⟩ rfl), ?_⟩
  refine ⟨_, (hS.P ⟨by decide, by decide⟩ rfl), ?_⟩
  refine ⟨(hS.is ⟨by decide, by decide⟩ rfl), ?_⟩
  obtain ⟨w2, h⟩ := h
  refine ⟨(hS.vin ⟨by decide, by decide⟩ rfl w2), ?_⟩
  refine ⟨fun hc => ?_, fun hc => ?_⟩
  · replace h := h.1 hc
    exact h
  · replace h := h.2 hc
    exact h
theorem bs_M_putOutside_132 {G : fx_G} {S : fx_S} {Q : fx_R → fx_S → Prop} (hS : shM S) (v2 : Int32) (v3 : Int32) (v4 : Int32) (v5 : Int32) (z0 : Int32)  (h : fx_Go G (0, 0) mm_M_put 0 [(0, fx_r G 85), (1, .int z0)] [] S (fx_qv (fun S1 => shM S1 ∧ fx_Go G (0, 0) mm_M_put 0 [(0, fx_r G 85), (1, .int (v5 - v4))] [] S1 (fx_qv (fun S2 => shM S2 ∧ vp_in v4 64 ∧ ((fx_I S2 91 (v4.toNatClampNeg)) < 0 → fx_Go G (1, 13) mm_M_putOutside 39 [(0, fx_r G 85), (2, .int v2), (3, .int v3), (4, .int v5)] [] S2 Q) ∧ (¬ (fx_I S2 91 (v4.toNatClampNeg)) < 0 → vp_in v4 64 ∧ fx_Go G (0, 0) mm_M_put 0 [(0, fx_r G 85), (1, .int (((fx_I S2 91 (v4.toNatClampNeg)) - v3) &&& 255))] [] S2 (fx_qv (fun S7 => shM S7 ∧ vp_in v4 64 ∧ fx_Go G (1, 13) mm_M_putOutside 39 [(0, fx_r G 85), (2, .int v2), (3, .int (fx_I S7 91 (v4.toNatClampNeg))), (4, .int v5)] [] S7 Q) Q))) Q)) Q)) :
    fx_Go G (1, 13) mm_M_putOutside 132 [(0, fx_r G 85), (2, .int v2), (3, .int v3), (4, .int v4), (5, .int v5)] [.int z0, fx_r G 85] S Q := by
  refine bk_M_putOutside_132 85 v2 v3 v4 v5 z0 85 ?_
  refine ⟨(hS.is ⟨by decide, by decide⟩ rfl), ?_⟩
  refine fx_cons h (fx_qv_m fun S1 h => ?_)
  obtain ⟨hS1, h⟩ := h
  refine ⟨(hS1.is ⟨by decide, by decide⟩ rfl), ?_⟩
  refine fx_cons h (fx_qv_m fun S2 h => ?_)
  obtain ⟨hS2, h⟩ := h
  refine ⟨(hS2.is ⟨by decide, by decide⟩ rfl), ?_⟩
  refine ⟨_, (hS2.P ⟨by decide, by decide⟩ rfl), ?_⟩
  refine ⟨(hS2.is ⟨by decide, by decide⟩ rfl), ?_⟩
  obtain ⟨w4, h⟩ := h
  refine ⟨(hS2.vin ⟨by decide, by decide⟩ rfl w4), ?_⟩
  refine ⟨fun hc => ?_, fun hc => ?_⟩
  · replace h := h.1 hc
    exact h
  · replace h := h.2 hc
    refine ⟨_, (hS2.P ⟨by decide, by decide⟩ rfl), ?_⟩
    refine ⟨(hS2.is ⟨by decide, by decide⟩ rfl), ?_⟩
    obtain ⟨w6, h⟩ := h
    refine ⟨(hS2.vin ⟨by decide, by decide⟩ rfl w6), ?_⟩
    refine fx_cons h (fx_qv_m fun S7 h => ?_)
    obtain ⟨hS7, h⟩ := h
    refine ⟨(hS7.is ⟨by decide, by decide⟩ rfl), ?_⟩
    refine ⟨_, (hS7.P ⟨by decide, by decide⟩ rfl), ?_⟩
    refine ⟨(hS7.is ⟨by decide, by decide⟩ rfl), ?_⟩
    obtain ⟨w9, h⟩ := h
    refine ⟨(hS7.vin ⟨by decide, by decide⟩ rfl w9), ?_⟩
    exact h
theorem bs_M_sector_0 {G : fx_G} {S : fx_S} {Q : fx_R → fx_S → Prop} (hS : shM S) (v1 : Int32) (v2 : Int32)  (h : (¬ (fx_I S 85 5) = 1 → ((fx_I S 85 5) ≤ 0 → ∀ S1, S1 = fx_setI S 85 5 0 → fx_Go G (0, 0) mm_M_sector 46 [(0, fx_r G 85), (1, .int v1), (2, .int v2), (3, .int (32 * v2))] [] S1 Q) ∧ (¬ (fx_I S 85 5) ≤ 0 → ∀ S2, S2 = fx_setI S 85 5 ((fx_I S 85 5) - 1) → fx_Go G (0, 0) mm_M_sector 46 [(0, fx_r G 85), (1, .int v1), (2, .int v2), (3, .int (32 * v2))] [] S2 Q)) ∧ ((fx_I S 85 5) = 1 → ∀ S3, S3 = fx_setI S 85 5 0 → ∀ S4, S4 = fx_setI S3 85 4 0 → Q (.inl (some (.int 0))) S4)) :
    fx_Go G (0, 0) mm_M_sector 0 [(0, fx_r G 85), (1, .int v1), (2, .int v2)] [] S Q := by
  refine bk_M_sector_0 85 v1 v2 ?_
  refine ⟨(hS.is ⟨by decide, by decide⟩ rfl), ?_⟩
  refine ⟨fun hc => ?_, fun hc => ?_⟩
  · replace h := h.1 hc
    refine ⟨fun hc => ?_, fun hc => ?_⟩
    · replace h := h.1 hc
      intro S1 eS1
      replace h := h S1 eS1
      have hS1 : shM S1 := by rw [eS1]; exact hS
      exact h
    · replace h := h.2 hc
      intro S2 eS2
      replace h := h S2 eS2
      have hS2 : shM S2 := by rw [eS2]; exact hS
      exact h
  · replace h := h.2 hc
    intro S3 eS3
    replace h := h S3 eS3
    have hS3 : shM S3 := by rw [eS3]; exact hS
    intro S4 eS4
    replace h := h S4 eS4
    have hS4 : shM S4 := by rw [eS4]; exact hS3
    exact h
theorem bs_M_sector_46 {G : fx_G} {S : fx_S} {Q : fx_R → fx_S → Prop} (hS : shM S) (v1 : Int32) (v2 : Int32) (v3 : Int32)  (h : (((32 * v2) + 32) ≤ v3 → Q (.inl (some (.int 1))) S) ∧ (¬ ((32 * v2) + 32) ≤ v3 → vp_in v3 64 ∧ vp_in ((64 * v1) + v3) 2048 ∧ ∀ S5, S5 = fx_setI S 86 (((64 * v1) + v3).toNatClampNeg) (fx_I S 90 (v3.toNatClampNeg)) → fx_Go G (0, 0) mm_M_sector 46 [(0, fx_r G 85), (1, .int v1), (2, .int v2), (3, .int (v3 + Int32.ofInt 1))] [] S5 Q)) :
    fx_Go G (0, 0) mm_M_sector 46 [(0, fx_r G 85), (1, .int v1), (2, .int v2), (3, .int v3)] [] S Q := by
  refine bk_M_sector_46 85 v1 v2 v3 ?_
  refine ⟨fun hc => ?_, fun hc => ?_⟩
  · replace h := h.1 hc
    exact h
  · replace h := h.2 hc
    refine ⟨(hS.is ⟨by decide, by decide⟩ rfl), ?_⟩
    refine ⟨_, (hS.P ⟨by decide, by decide⟩ rfl), ?_⟩
    refine ⟨_, (hS.P ⟨by decide, by decide⟩ rfl), ?_⟩
    refine ⟨(hS.is ⟨by decide, by decide⟩ rfl), ?_⟩
    obtain ⟨w3, h⟩ := h
    refine ⟨(hS.vin ⟨by decide, by decide⟩ rfl w3), ?_⟩
    refine ⟨(hS.is ⟨by decide, by decide⟩ rfl), ?_⟩
    obtain ⟨w4, h⟩ := h
    refine ⟨(hS.vin ⟨by decide, by decide⟩ rfl w4), ?_⟩
    intro S5 eS5
    replace h := h S5 eS5
    have hS5 : shM S5 := by rw [eS5]; exact hS
    exact h
theorem bs_M_store_0 {G : fx_G} {S : fx_S} {Q : fx_R → fx_S → Prop} (hS : shM S) (v1 : Int32)  (h : vp_in 8 64 ∧ ∀ S3, S3 = fx_setI S 90 ((8 : Int32).toNatClampNeg) ((fx_I S 85 9) - 10) → fx_Go G (0, 0) mm_M_wordAt 0 [(0, fx_r G 85), (1, .int ((64 * v1) + 2))] [] S3 (fx_qi (fun x5 S4 => shM S4 ∧ (¬ x5 = 65535 → fx_Go G (1, 15) mm_M_store 41 [(0, fx_r G 85), (1, .int v1), (2, .int (x5 + 1)), (3, .int 0)] [] S4 Q) ∧ (x5 = 65535 → fx_Go G (1, 15) mm_M_store 41 [(0, fx_r G 85), (1, .int v1), (2, .int 1), (3, .int 0)] [] S4 Q)) Q)) :
    fx_Go G (1, 15) mm_M_store 0 [(0, fx_r G 85), (1, .int v1)] [] S Q := by
  refine bk_M_store_0 85 v1 ?_
  refine ⟨(hS.is ⟨by decide, by decide⟩ rfl), ?_⟩
  refine ⟨_, (hS.P ⟨by decide, by decide⟩ rfl), ?_⟩
  refine ⟨(hS.is ⟨by decide, by decide⟩ rfl), ?_⟩
  obtain ⟨w2, h⟩ := h
  refine ⟨(hS.vin ⟨by decide, by decide⟩ rfl w2), ?_⟩
  intro S3 eS3
  replace h := h S3 eS3
  have hS3 : shM S3 := by rw [eS3]; exact hS
  refine fx_cons h (fx_qi_m fun x5 S4 h => ?_)
  obtain ⟨hS4, h⟩ := h
  refine ⟨fun hc => ?_, fun hc => ?_⟩
  · replace h := h.1 hc
    exact h
  · replace h := h.2 hc
    exact h
theorem bs_M_store_41 {G : fx_G} {S : fx_S} {Q : fx_R → fx_S → Prop} (hS : shM S) (v1 : Int32) (v2 : Int32) (v3 : Int32)  (h : (2 ≤ v3 → fx_Go G (0, 0) mm_M_sector 0 [(0, fx_r G 85), (1, .int v1), (2, .int 0)] [] S (fx_qi (fun x2 S1 => shM S1 ∧ (x2 = 0 → Q (.inl (some (.int 0))) S1) ∧ (¬ x2 = 0 → fx_Go G (0, 0) mm_M_sector 0 [(0, fx_r G 85), (1, .int v1), (2, .int 1)] [] S1 (fx_qi (fun x4 S3 => shM S3 ∧ (¬ x4 = 0 → vp_in 0 64 ∧ ((fx_I S3 90 ((0 : Int32).toNatClampNeg)) = 1 → vp_in v1 12 ∧ ∀ S9, S9 = fx_setI S3 87 (v1.toNatClampNeg) (vp_nar .boolean 1) → Q (.inl (some (.int 1))) S9) ∧ (¬ (fx_I S3 90 ((0 : Int32).toNatClampNeg)) = 1 → vp_in 0 64 ∧ (¬ (fx_I S3 90 ((0 : Int32).toNatClampNeg)) = 2 → vp_in v1 12 ∧ ∀ S13, S13 = fx_setI S3 87 (v1.toNatClampNeg) (vp_nar .boolean 0) → Q (.inl (some (.int 1))) S13) ∧ ((fx_I S3 90 ((0 : Int32).toNatClampNeg)) = 2 → vp_in v1 12 ∧ ∀ S15, S15 = fx_setI S3 87 (v1.toNatClampNeg) (vp_nar .boolean 1) → Q (.inl (some (.int 1))) S15))) ∧ (x4 = 0 → Q (.inl (some (.int 0))) S3)) Q))) Q)) ∧ (¬ 2 ≤ v3 → vp_in (30 + v3) 64 ∧ vp_in (4 + v3) 64 ∧ ∀ S20, S20 = fx_setI S 90 ((4 + v3).toNatClampNeg) (fx_I S 90 ((30 + v3).toNatClampNeg)) → vp_in (62 + v3) 64 ∧ vp_in (6 + v3) 64 ∧ ∀ S25, S25 = fx_setI S20 90 ((6 + v3).toNatClampNeg) (fx_I S20 90 ((62 + v3).toNatClampNeg)) → (¬ v3 = 0 → fx_Go G (1, 15) mm_M_store 98 [(0, fx_r G 85), (1, .int v1), (2, .int v2), (3, .int v3)] [.int (v2 / 256)] S25 Q) ∧ (v3 = 0 → fx_Go G (1, 15) mm_M_store 98 [(0, fx_r G 85), (1, .int v1), (2, .int v2), (3, .int v3)] [.int (v2 - v2 / 256 * 256)] S25 Q))) :
    fx_Go G (1, 15) mm_M_store 41 [(0, fx_r G 85), (1, .int v1), (2, .int v2), (3, .int v3)] [] S Q := by
  refine bk_M_store_41 85 v1 v2 v3 ?_
  refine ⟨fun hc => ?_, fun hc => ?_⟩
  · replace h := h.1 hc
    refine ⟨(hS.is ⟨by decide, by decide⟩ rfl), ?_⟩
    refine fx_cons h (fx_qi_m fun x2 S1 h => ?_)
    obtain ⟨hS1, h⟩ := h
    refine ⟨fun hc => ?_, fun hc => ?_⟩
    · replace h := h.1 hc
      exact h
    · replace h := h.2 hc
      refine ⟨(hS1.is ⟨by decide, by decide⟩ rfl), ?_⟩
      refine fx_cons h (fx_qi_m fun x4 S3 h => ?_)
      obtain ⟨hS3, h⟩ := h
      refine ⟨fun hc => ?_, fun hc => ?_⟩
      · replace h := h.1 hc
        refine ⟨(hS3.is ⟨by decide, by decide⟩ rfl), ?_⟩
        refine ⟨_, (hS3.P ⟨by decide, by decide⟩ rfl), ?_⟩
        refine ⟨_, (hS3.P ⟨by decide, by decide⟩ rfl), ?_⟩
        refine ⟨(hS3.is ⟨by decide, by decide⟩ rfl), ?_⟩
        obtain ⟨w7, h⟩ := h
        refine ⟨(hS3.vin ⟨by decide, by decide⟩ rfl w7), ?_⟩
        refine ⟨fun hc => ?_, fun hc => ?_⟩
        · replace h := h.1 hc
          refine ⟨(hS3.is ⟨by decide, by decide⟩ rfl), ?_⟩
          obtain ⟨w8, h⟩ := h
          refine ⟨(hS3.vin ⟨by decide, by decide⟩ rfl w8), ?_⟩
          intro S9 eS9
          replace h := h S9 eS9
          have hS9 : shM S9 := by rw [eS9]; exact hS3
          exact h
        · replace h := h.2 hc
          refine ⟨_, (hS3.P ⟨by decide, by decide⟩ rfl), ?_⟩
          refine ⟨(hS3.is ⟨by decide, by decide⟩ rfl), ?_⟩
          obtain ⟨w11, h⟩ := h
          refine ⟨(hS3.vin ⟨by decide, by decide⟩ rfl w11), ?_⟩
          refine ⟨fun hc => ?_, fun hc => ?_⟩
          · replace h := h.1 hc
            refine ⟨(hS3.is ⟨by decide, by decide⟩ rfl), ?_⟩
            obtain ⟨w12, h⟩ := h
            refine ⟨(hS3.vin ⟨by decide, by decide⟩ rfl w12), ?_⟩
            intro S13 eS13
            replace h := h S13 eS13
            have hS13 : shM S13 := by rw [eS13]; exact hS3
            exact h
          · replace h := h.2 hc
            refine ⟨(hS3.is ⟨by decide, by decide⟩ rfl), ?_⟩
            obtain ⟨w14, h⟩ := h
            refine ⟨(hS3.vin ⟨by decide, by decide⟩ rfl w14), ?_⟩
            intro S15 eS15
            replace h := h S15 eS15
            have hS15 : shM S15 := by rw [eS15]; exact hS3
            exact h
      · replace h := h.2 hc
        exact h
  · replace h := h.2 hc
    refine ⟨(hS.is ⟨by decide, by decide⟩ rfl), ?_⟩
    refine ⟨_, (hS.P ⟨by decide, by decide⟩ rfl), ?_⟩
    refine ⟨_, (hS.P ⟨by decide, by decide⟩ rfl), ?_⟩
    refine ⟨(hS.is ⟨by decide, by decide⟩ rfl), ?_⟩
    obtain ⟨w18, h⟩ := h
    refine ⟨(hS.vin ⟨by decide, by decide⟩ rfl w18), ?_⟩
    refine ⟨(hS.is ⟨by decide, by decide⟩ rfl), ?_⟩
    obtain ⟨w19, h⟩ := h
    refine ⟨(hS.vin ⟨by decide, by decide⟩ rfl w19), ?_⟩
    intro S20 eS20
    replace h := h S20 eS20
    have hS20 : shM S20 := by rw [eS20]; exact hS
    refine ⟨_, (hS20.P ⟨by decide, by decide⟩ rfl), ?_⟩
    refine ⟨_, (hS20.P ⟨by decide, by decide⟩ rfl), ?_⟩
    refine ⟨(hS20.is ⟨by decide, by decide⟩ rfl), ?_⟩
    obtain ⟨w23, h⟩ := h
    refine ⟨(hS20.vin ⟨by decide, by decide⟩ rfl w23), ?_⟩
    refine ⟨(hS20.is ⟨by decide, by decide⟩ rfl), ?_⟩
    obtain ⟨w24, h⟩ := h
    refine ⟨(hS20.vin ⟨by decide, by decide⟩ rfl w24), ?_⟩
    intro S25 eS25
    replace h := h S25 eS25
    have hS25 : shM S25 := by rw [eS25]; exact hS20
    refine ⟨fun hc => ?_, fun hc => ?_⟩
    · replace h := h.1 hc
      exact h
    · replace h := h.2 hc
      exact h
theorem bs_M_store_98 {G : fx_G} {S : fx_S} {Q : fx_R → fx_S → Prop} (hS : shM S) (v1 : Int32) (v2 : Int32) (v3 : Int32) (z0 : Int32)  (h : vp_in (2 + v3) 64 ∧ ∀ S3, S3 = fx_setI S 90 ((2 + v3).toNatClampNeg) z0 → vp_in (30 + v3) 64 ∧ ∀ S6, S6 = fx_setI S3 90 ((30 + v3).toNatClampNeg) z0 → vp_in (62 + v3) 64 ∧ ∀ S9, S9 = fx_setI S6 90 ((62 + v3).toNatClampNeg) z0 → fx_Go G (1, 15) mm_M_store 41 [(0, fx_r G 85), (1, .int v1), (2, .int v2), (3, .int (v3 + Int32.ofInt 1))] [] S9 Q) :
    fx_Go G (1, 15) mm_M_store 98 [(0, fx_r G 85), (1, .int v1), (2, .int v2), (3, .int v3)] [.int z0] S Q := by
  refine bk_M_store_98 85 v1 v2 v3 z0 ?_
  refine ⟨(hS.is ⟨by decide, by decide⟩ rfl), ?_⟩
  refine ⟨_, (hS.P ⟨by decide, by decide⟩ rfl), ?_⟩
  refine ⟨(hS.is ⟨by decide, by decide⟩ rfl), ?_⟩
  obtain ⟨w2, h⟩ := h
  refine ⟨(hS.vin ⟨by decide, by decide⟩ rfl w2), ?_⟩
  intro S3 eS3
  replace h := h S3 eS3
  have hS3 : shM S3 := by rw [eS3]; exact hS
  refine ⟨_, (hS3.P ⟨by decide, by decide⟩ rfl), ?_⟩
  refine ⟨(hS3.is ⟨by decide, by decide⟩ rfl), ?_⟩
  obtain ⟨w5, h⟩ := h
  refine ⟨(hS3.vin ⟨by decide, by decide⟩ rfl w5), ?_⟩
  intro S6 eS6
  replace h := h S6 eS6
  have hS6 : shM S6 := by rw [eS6]; exact hS3
  refine ⟨_, (hS6.P ⟨by decide, by decide⟩ rfl), ?_⟩
  refine ⟨(hS6.is ⟨by decide, by decide⟩ rfl), ?_⟩
  obtain ⟨w8, h⟩ := h
  refine ⟨(hS6.vin ⟨by decide, by decide⟩ rfl w8), ?_⟩
  intro S9 eS9
  replace h := h S9 eS9
  have hS9 : shM S9 := by rw [eS9]; exact hS6
  exact h
theorem bs_M_storeList_0 {G : fx_G} {S : fx_S} {Q : fx_R → fx_S → Prop} (hS : shM S) (v1 : Int32) (v2 : Int32)  (h : fx_Go G (0, 0) mm_M_begin 0 [(0, fx_r G 85), (1, .int 2), (2, .int v2)] [] S (fx_qv (fun S1 => shM S1 ∧ fx_Go G (3, 45) mm_M_putName 0 [(0, fx_r G 85), (1, .int v1)] [] S1 (fx_qv (fun S2 => shM S2 ∧ fx_Go G (1, 13) mm_M_putList 0 [(0, fx_r G 85)] [] S2 (fx_qv (fun S3 => shM S3 ∧ fx_Go G (1, 15) mm_M_store 0 [(0, fx_r G 85), (1, .int v1)] [] S3 (fx_qi (fun x5 S4 => shM S4 ∧ narrow .boolean (.int x5) = .int x5 ∧ Q (.inl (some (.int x5))) S4) Q)) Q)) Q)) Q)) :
    fx_Go G (4, 60) mm_M_storeList 0 [(0, fx_r G 85), (1, .int v1), (2, .int v2)] [] S Q := by
  refine bk_M_storeList_0 85 v1 v2 ?_
  refine ⟨(hS.is ⟨by decide, by decide⟩ rfl), ?_⟩
  refine fx_cons h (fx_qv_m fun S1 h => ?_)
  obtain ⟨hS1, h⟩ := h
  refine ⟨(hS1.is ⟨by decide, by decide⟩ rfl), ?_⟩
  refine fx_cons h (fx_qv_m fun S2 h => ?_)
  obtain ⟨hS2, h⟩ := h
  refine ⟨(hS2.is ⟨by decide, by decide⟩ rfl), ?_⟩
  refine fx_cons h (fx_qv_m fun S3 h => ?_)
  obtain ⟨hS3, h⟩ := h
  refine ⟨(hS3.is ⟨by decide, by decide⟩ rfl), ?_⟩
  refine fx_cons h (fx_qi_m fun x5 S4 h => ?_)
  obtain ⟨hS4, h⟩ := h
  exact h
theorem bs_M_join_0 {G : fx_G} {S : fx_S} {Q : fx_R → fx_S → Prop} (hS : shM S) (v1 : Int32)  (h : fx_Go G (5, 76) mm_M_join 5 [(0, fx_r G 85), (1, .int v1), (2, .int (fx_I S 85 14))] [] S Q) :
    fx_Go G (5, 76) mm_M_join 0 [(0, fx_r G 85), (1, .int v1)] [] S Q := by
  refine bk_M_join_0 85 v1 ?_
  refine ⟨(hS.is ⟨by decide, by decide⟩ rfl), ?_⟩
  exact h
theorem bs_M_join_5 {G : fx_G} {S : fx_S} {Q : fx_R → fx_S → Prop} (hS : shM S) (v1 : Int32) (v2 : Int32)  (h : (v2 ≤ 0 → vp_in v2 12 ∧ ∀ S3, S3 = fx_setI S 94 (v2.toNatClampNeg) v1 → ∀ S4, S4 = fx_setI S3 85 14 ((fx_I S3 85 14) + 1) → Q (.inl none) S4) ∧ (¬ v2 ≤ 0 → vp_in (v2 - 1) 12 ∧ fx_Go G (4, 61) mm_M_compareNames 0 [(0, fx_r G 85), (1, .int (fx_I S 94 ((v2 - 1).toNatClampNeg))), (2, .int v1)] [] S (fx_qi (fun x8 S7 => shM S7 ∧ (x8 ≤ 0 → vp_in v2 12 ∧ ∀ S11, S11 = fx_setI S7 94 (v2.toNatClampNeg) v1 → ∀ S12, S12 = fx_setI S11 85 14 ((fx_I S11 85 14) + 1) → Q (.inl none) S12) ∧ (¬ x8 ≤ 0 → vp_in (v2 - 1) 12 ∧ vp_in v2 12 ∧ ∀ S17, S17 = fx_setI S7 94 (v2.toNatClampNeg) (fx_I S7 94 ((v2 - 1).toNatClampNeg)) → fx_Go G (5, 76) mm_M_join 5 [(0, fx_r G 85), (1, .int v1), (2, .int (v2 + Int32.ofInt (-1)))] [] S17 Q)) Q))) :
    fx_Go G (5, 76) mm_M_join 5 [(0, fx_r G 85), (1, .int v1), (2, .int v2)] [] S Q := by
  refine bk_M_join_5 85 v1 v2 ?_
  refine ⟨fun hc => ?_, fun hc => ?_⟩
  · replace h := h.1 hc
    refine ⟨(hS.is ⟨by decide, by decide⟩ rfl), ?_⟩
    refine ⟨_, (hS.P ⟨by decide, by decide⟩ rfl), ?_⟩
    refine ⟨(hS.is ⟨by decide, by decide⟩ rfl), ?_⟩
    obtain ⟨w2, h⟩ := h
    refine ⟨(hS.vin ⟨by decide, by decide⟩ rfl w2), ?_⟩
    intro S3 eS3
    replace h := h S3 eS3
    have hS3 : shM S3 := by rw [eS3]; exact hS
    intro S4 eS4
    replace h := h S4 eS4
    have hS4 : shM S4 := by rw [eS4]; exact hS3
    exact h
  · replace h := h.2 hc
    refine ⟨(hS.is ⟨by decide, by decide⟩ rfl), ?_⟩
    refine ⟨_, (hS.P ⟨by decide, by decide⟩ rfl), ?_⟩
    refine ⟨(hS.is ⟨by decide, by decide⟩ rfl), ?_⟩
    obtain ⟨w6, h⟩ := h
    refine ⟨(hS.vin ⟨by decide, by decide⟩ rfl w6), ?_⟩
    refine fx_cons h (fx_qi_m fun x8 S7 h => ?_)
    obtain ⟨hS7, h⟩ := h
    refine ⟨fun hc => ?_, fun hc => ?_⟩
    · replace h := h.1 hc
      refine ⟨(hS7.is ⟨by decide, by decide⟩ rfl), ?_⟩
      refine ⟨_, (hS7.P ⟨by decide, by decide⟩ rfl), ?_⟩
      refine ⟨(hS7.is ⟨by decide, by decide⟩ rfl), ?_⟩
      obtain ⟨w10, h⟩ := h
      refine ⟨(hS7.vin ⟨by decide, by decide⟩ rfl w10), ?_⟩
      intro S11 eS11
      replace h := h S11 eS11
      have hS11 : shM S11 := by rw [eS11]; exact hS7
      intro S12 eS12
      replace h := h S12 eS12
      have hS12 : shM S12 := by rw [eS12]; exact hS11
      exact h
    · replace h := h.2 hc
      refine ⟨(hS7.is ⟨by decide, by decide⟩ rfl), ?_⟩
      refine ⟨_, (hS7.P ⟨by decide, by decide⟩ rfl), ?_⟩
      refine ⟨_, (hS7.P ⟨by decide, by decide⟩ rfl), ?_⟩
      refine ⟨(hS7.is ⟨by decide, by decide⟩ rfl), ?_⟩
      obtain ⟨w15, h⟩ := h
      refine ⟨(hS7.vin ⟨by decide, by decide⟩ rfl w15), ?_⟩
      refine ⟨(hS7.is ⟨by decide, by decide⟩ rfl), ?_⟩
      obtain ⟨w16, h⟩ := h
      refine ⟨(hS7.vin ⟨by decide, by decide⟩ rfl w16), ?_⟩
      intro S17 eS17
      replace h := h S17 eS17
      have hS17 : shM S17 := by rw [eS17]; exact hS7
      exact h
theorem bs_M_takeList_0 {G : fx_G} {S : fx_S} {Q : fx_R → fx_S → Prop} (hS : shM S) (v1 : Int32) (v2 : Int32)  (h : ∀ S1, S1 = fx_setI S 85 14 0 → fx_Go G (3, 50) mm_M_takeList 7 [(0, fx_r G 85), (1, .int v1), (2, .int v2), (3, .int 0)] [] S1 Q) :
    fx_Go G (3, 50) mm_M_takeList 0 [(0, fx_r G 85), (1, .int v1), (2, .int v2)] [] S Q := by
  refine bk_M_takeList_0 85 v1 v2 ?_
  refine ⟨(hS.is ⟨by decide, by decide⟩ rfl), ?_⟩
  intro S1 eS1
  replace h := h S1 eS1
  have hS1 : shM S1 := by rw [eS1]; exact hS
  exact h
theorem bs_M_takeList_7 {G : fx_G} {S : fx_S} {Q : fx_R → fx_S → Prop} (hS : shM S) (v1 : Int32) (v2 : Int32) (v3 : Int32)  (h : fx_Go G (2, 34) mm_M_listLength 0 [(0, fx_r G 85), (1, .int v1)] [] S (fx_qi (fun x2 S1 => shM S1 ∧ (x2 ≤ v3 → Q (.inl none) S1) ∧ (¬ x2 ≤ v3 → fx_Go G (2, 34) mm_M_entry 0 [(0, fx_r G 85), (1, .int v1), (2, .int v3)] [] S1 (fx_qi (fun x4 S3 => shM S3 ∧ (¬ x4 = v2 → fx_Go G (2, 34) mm_M_entry 0 [(0, fx_r G 85), (1, .int v1), (2, .int v3)] [] S3 (fx_qi (fun x7 S6 => shM S6 ∧ vp_in (fx_I S3 85 14) 12 ∧ ∀ S9, S9 = fx_setI S6 94 ((fx_I S3 85 14).toNatClampNeg) x7 → ∀ S10, S10 = fx_setI S9 85 14 ((fx_I S9 85 14) + 1) → fx_Go G (3, 50) mm_M_takeList 7 [(0, fx_r G 85), (1, .int v1), (2, .int v2), (3, .int (v3 + Int32.ofInt 1))] [] S10 Q) Q)) ∧ (x4 = v2 → fx_Go G (3, 50) mm_M_takeList 7 [(0, fx_r G 85), (1, .int v1), (2, .int v2), (3, .int (v3 + Int32.ofInt 1))] [] S3 Q)) Q))) Q)) :
    fx_Go G (3, 50) mm_M_takeList 7 [(0, fx_r G 85), (1, .int v1), (2, .int v2), (3, .int v3)] [] S Q := by
  refine bk_M_takeList_7 85 v1 v2 v3 ?_
  refine ⟨(hS.is ⟨by decide, by decide⟩ rfl), ?_⟩
  refine fx_cons h (fx_qi_m fun x2 S1 h => ?_)
  obtain ⟨hS1, h⟩ := h
  refine ⟨fun hc => ?_, fun hc => ?_⟩
  · replace h := h.1 hc
    exact h
  · replace h := h.2 hc
    refine ⟨(hS1.is ⟨by decide, by decide⟩ rfl), ?_⟩
    refine fx_cons h (fx_qi_m fun x4 S3 h => ?_)
    obtain ⟨hS3, h⟩ := h
    refine ⟨fun hc => ?_, fun hc => ?_⟩
    · replace h := h.1 hc
      refine ⟨(hS3.is ⟨by decide, by decide⟩ rfl), ?_⟩
      refine ⟨_, (hS3.P ⟨by decide, by decide⟩ rfl), ?_⟩
      refine fx_cons h (fx_qi_m fun x7 S6 h => ?_)
      obtain ⟨hS6, h⟩ := h
      refine ⟨(hS6.is ⟨by decide, by decide⟩ rfl), ?_⟩
      obtain ⟨w8, h⟩ := h
      refine ⟨(hS6.vin ⟨by decide, by decide⟩ rfl w8), ?_⟩
      intro S9 eS9
      replace h := h S9 eS9
      have hS9 : shM S9 := by rw [eS9]; exact hS6
      refine ⟨(hS9.is ⟨by decide, by decide⟩ rfl), ?_⟩
      intro S10 eS10
      replace h := h S10 eS10
      have hS10 : shM S10 := by rw [eS10]; exact hS9
      exact h
    · replace h := h.2 hc
      exact h
theorem bs_M_findDraft_0 {G : fx_G} {S : fx_S} {Q : fx_R → fx_S → Prop} (hS : shM S) (v1 : Int32)  (h : fx_Go G (5, 75) mm_M_findDraft 2 [(0, fx_r G 85), (1, .int v1), (2, .int 0)] [] S Q) :
    fx_Go G (5, 75) mm_M_findDraft 0 [(0, fx_r G 85), (1, .int v1)] [] S Q := by
  refine bk_M_findDraft_0 85 v1 ?_
  exact h
theorem bs_M_findDraft_2 {G : fx_G} {S : fx_S} {Q : fx_R → fx_S → Prop} (hS : shM S) (v1 : Int32) (v2 : Int32)  (h : fx_Go G (2, 34) mm_M_listLength 0 [(0, fx_r G 85), (1, .int v1)] [] S (fx_qi (fun x2 S1 => shM S1 ∧ (x2 ≤ v2 → Q (.inl (some (.int (-1)))) S1) ∧ (¬ x2 ≤ v2 → fx_Go G (2, 34) mm_M_entry 0 [(0, fx_r G 85), (1, .int v1), (2, .int v2)] [] S1 (fx_qi (fun x4 S3 => shM S3 ∧ fx_Go G (4, 60) mm_M_isDraft 0 [(0, fx_r G 85), (1, .int x4)] [] S3 (fx_qi (fun x6 S5 => shM S5 ∧ (x6 = 0 → fx_Go G (5, 75) mm_M_findDraft 2 [(0, fx_r G 85), (1, .int v1), (2, .int (v2 + Int32.ofInt 1))] [] S5 Q) ∧ (¬ x6 = 0 → fx_Go G (2, 34) mm_M_entry 0 [(0, fx_r G 85), (1, .int v1), (2, .int v2)] [] S5 (fx_qi (fun x8 S7 => shM S7 ∧ Q (.inl (some (.int x8))) S7) Q))) Q)) Q))) Q)) :
    fx_Go G (5, 75) mm_M_findDraft 2 [(0, fx_r G 85), (1, .int v1), (2, .int v2)] [] S Q := by
  refine bk_M_findDraft_2 85 v1 v2 ?_
  refine ⟨(hS.is ⟨by decide, by decide⟩ rfl), ?_⟩
  refine fx_cons h (fx_qi_m fun x2 S1 h => ?_)
  obtain ⟨hS1, h⟩ := h
  refine ⟨fun hc => ?_, fun hc => ?_⟩
  · replace h := h.1 hc
    exact h
  · replace h := h.2 hc
    refine ⟨(hS1.is ⟨by decide, by decide⟩ rfl), ?_⟩
    refine fx_cons h (fx_qi_m fun x4 S3 h => ?_)
    obtain ⟨hS3, h⟩ := h
    refine ⟨(hS3.is ⟨by decide, by decide⟩ rfl), ?_⟩
    refine fx_cons h (fx_qi_m fun x6 S5 h => ?_)
    obtain ⟨hS5, h⟩ := h
    refine ⟨fun hc => ?_, fun hc => ?_⟩
    · replace h := h.1 hc
      exact h
    · replace h := h.2 hc
      refine ⟨(hS5.is ⟨by decide, by decide⟩ rfl), ?_⟩
      refine fx_cons h (fx_qi_m fun x8 S7 h => ?_)
      obtain ⟨hS7, h⟩ := h
      exact h
theorem bs_M_type_0 {G : fx_G} {S : fx_S} {Q : fx_R → fx_S → Prop} (hS : shM S) (v1 : Int32)  (h : ∀ S1, S1 = fx_setI S 85 0 0 → (v1 < 97 → (v1 < 48 → fx_Go G (0, 0) mm_M_type 34 [(0, fx_r G 85), (1, .int v1)] [.int 0] S1 Q) ∧ (¬ v1 < 48 → (57 < v1 → fx_Go G (0, 0) mm_M_type 34 [(0, fx_r G 85), (1, .int v1)] [.int 0] S1 Q) ∧ (¬ 57 < v1 → fx_Go G (0, 0) mm_M_type 34 [(0, fx_r G 85), (1, .int v1)] [.int 1] S1 Q))) ∧ (¬ v1 < 97 → (v1 ≤ 122 → fx_Go G (0, 0) mm_M_type 34 [(0, fx_r G 85), (1, .int v1)] [.int 1] S1 Q) ∧ (¬ v1 ≤ 122 → (v1 < 48 → fx_Go G (0, 0) mm_M_type 34 [(0, fx_r G 85), (1, .int v1)] [.int 0] S1 Q) ∧ (¬ v1 < 48 → (57 < v1 → fx_Go G (0, 0) mm_M_type 34 [(0, fx_r G 85), (1, .int v1)] [.int 0] S1 Q) ∧ (¬ 57 < v1 → fx_Go G (0, 0) mm_M_type 34 [(0, fx_r G 85), (1, .int v1)] [.int 1] S1 Q))))) :
    fx_Go G (0, 0) mm_M_type 0 [(0, fx_r G 85), (1, .int v1)] [] S Q := by
  refine bk_M_type_0 85 v1 ?_
  refine ⟨(hS.is ⟨by decide, by decide⟩ rfl), ?_⟩
  intro S1 eS1
  replace h := h S1 eS1
  have hS1 : shM S1 := by rw [eS1]; exact hS
  refine ⟨fun hc => ?_, fun hc => ?_⟩
  · replace h := h.1 hc
    refine ⟨fun hc => ?_, fun hc => ?_⟩
    · replace h := h.1 hc
      exact h
    · replace h := h.2 hc
      refine ⟨fun hc => ?_, fun hc => ?_⟩
      · replace h := h.1 hc
        exact h
      · replace h := h.2 hc
        exact h
  · replace h := h.2 hc
    refine ⟨fun hc => ?_, fun hc => ?_⟩
    · replace h := h.1 hc
      exact h
    · replace h := h.2 hc
      refine ⟨fun hc => ?_, fun hc => ?_⟩
      · replace h := h.1 hc
        exact h
      · replace h := h.2 hc
        refine ⟨fun hc => ?_, fun hc => ?_⟩
        · replace h := h.1 hc
          exact h
        · replace h := h.2 hc
          exact h
theorem bs_M_type_34 {G : fx_G} {S : fx_S} {Q : fx_R → fx_S → Prop} (hS : shM S) (v1 : Int32) (z0 : Int32)  (h : (z0 = 0 → Q (.inl (some (.int 0))) S) ∧ (¬ z0 = 0 → (¬ (fx_I S 85 6) = 8 → vp_in (fx_I S 85 6) 8 ∧ ∀ S3, S3 = fx_setI S 89 ((fx_I S 85 6).toNatClampNeg) (vp_nar .char v1) → ∀ S4, S4 = fx_setI S3 85 6 ((fx_I S3 85 6) + 1) → Q (.inl (some (.int 1))) S4) ∧ ((fx_I S 85 6) = 8 → Q (.inl (some (.int 0))) S))) :
    fx_Go G (0, 0) mm_M_type 34 [(0, fx_r G 85), (1, .int v1)] [.int z0] S Q := by
  refine bk_M_type_34 85 v1 z0 ?_
  refine ⟨fun hc => ?_, fun hc => ?_⟩
  · replace h := h.1 hc
    exact h
  · replace h := h.2 hc
    refine ⟨(hS.is ⟨by decide, by decide⟩ rfl), ?_⟩
    refine ⟨fun hc => ?_, fun hc => ?_⟩
    · replace h := h.1 hc
      refine ⟨_, (hS.P ⟨by decide, by decide⟩ rfl), ?_⟩
      refine ⟨(hS.is ⟨by decide, by decide⟩ rfl), ?_⟩
      obtain ⟨w2, h⟩ := h
      refine ⟨(hS.vin ⟨by decide, by decide⟩ rfl w2), ?_⟩
      intro S3 eS3
      replace h := h S3 eS3
      have hS3 : shM S3 := by rw [eS3]; exact hS
      intro S4 eS4
      replace h := h S4 eS4
      have hS4 : shM S4 := by rw [eS4]; exact hS3
      exact h
    · replace h := h.2 hc
      exact h
theorem bs_M_makeRecord_0 {G : fx_G} {S : fx_S} {Q : fx_R → fx_S → Prop} (hS : shM S) (v1 : Int32) (v2 : Int32)  (h : (¬ (fx_I S 85 4) = 0 → fx_Go G (1, 15) mm_M_isKind 0 [(0, fx_r G 85), (1, .int v1), (2, .int 2)] [] S (fx_qi (fun x2 S1 => shM S1 ∧ (x2 = 0 → fx_Go G (0, 0) mm_M_refuse 0 [(0, fx_r G 85), (1, .int 2)] [] S1 (fx_qi (fun x4 S3 => shM S3 ∧ Q (.inl (some (.int x4))) S3) Q)) ∧ (¬ x2 = 0 → (¬ (fx_I S1 85 6) = 0 → fx_Go G (5, 75) mm_M_findDraft 0 [(0, fx_r G 85), (1, .int v1)] [] S1 (fx_qi (fun x6 S5 => shM S5 ∧ (x6 < 0 → fx_Go G (6, 90) mm_M_makeRecord 51 [(0, fx_r G 85), (1, .int v1), (2, .int v2), (3, .int 0)] [] S5 Q) ∧ (¬ x6 < 0 → fx_Go G (0, 0) mm_M_refuse 0 [(0, fx_r G 85), (1, .int 2)] [] S5 (fx_qi (fun x8 S7 => shM S7 ∧ Q (.inl (some (.int x8))) S7) Q))) Q)) ∧ ((fx_I S1 85 6) = 0 → fx_Go G (0, 0) mm_M_refuse 0 [(0, fx_r G 85), (1, .int 2)] [] S1 (fx_qi (fun x10 S9 => shM S9 ∧ Q (.inl (some (.int x10))) S9) Q)))) Q)) ∧ ((fx_I S 85 4) = 0 → fx_Go G (0, 0) mm_M_refuse 0 [(0, fx_r G 85), (1, .int 1)] [] S (fx_qi (fun x12 S11 => shM S11 ∧ Q (.inl (some (.int x12))) S11) Q))) :
    fx_Go G (6, 90) mm_M_makeRecord 0 [(0, fx_r G 85), (1, .int v1), (2, .int v2)] [] S Q := by
  refine bk_M_makeRecord_0 85 v1 v2 ?_
  refine ⟨(hS.is ⟨by decide, by decide⟩ rfl), ?_⟩
  refine ⟨fun hc => ?_, fun hc => ?_⟩
  · replace h := h.1 hc
    refine fx_cons h (fx_qi_m fun x2 S1 h => ?_)
    obtain ⟨hS1, h⟩ := h
    refine ⟨fun hc => ?_, fun hc => ?_⟩
    · replace h := h.1 hc
      refine ⟨(hS1.is ⟨by decide, by decide⟩ rfl), ?_⟩
      refine fx_cons h (fx_qi_m fun x4 S3 h => ?_)
      obtain ⟨hS3, h⟩ := h
      exact h
    · replace h := h.2 hc
      refine ⟨(hS1.is ⟨by decide, by decide⟩ rfl), ?_⟩
      refine ⟨fun hc => ?_, fun hc => ?_⟩
      · replace h := h.1 hc
        refine fx_cons h (fx_qi_m fun x6 S5 h => ?_)
        obtain ⟨hS5, h⟩ := h
        refine ⟨fun hc => ?_, fun hc => ?_⟩
        · replace h := h.1 hc
          exact h
        · replace h := h.2 hc
          refine ⟨(hS5.is ⟨by decide, by decide⟩ rfl), ?_⟩
          refine fx_cons h (fx_qi_m fun x8 S7 h => ?_)
          obtain ⟨hS7, h⟩ := h
          exact h
      · replace h := h.2 hc
        refine fx_cons h (fx_qi_m fun x10 S9 h => ?_)
        obtain ⟨hS9, h⟩ := h
        exact h
  · replace h := h.2 hc
    refine fx_cons h (fx_qi_m fun x12 S11 h => ?_)
    obtain ⟨hS11, h⟩ := h
    exact h
theorem bs_M_makeRecord_51 {G : fx_G} {S : fx_S} {Q : fx_R → fx_S → Prop} (hS : shM S) (v1 : Int32) (v2 : Int32) (v3 : Int32)  (h : (12 ≤ v3 → (¬ v3 = 12 → (v2 = 0 → fx_Go G (6, 90) mm_M_makeRecord 94 [(0, fx_r G 85), (1, .int v1), (2, .int v2), (3, .int v3)] [.int 2, fx_r G 85] S Q) ∧ (¬ v2 = 0 → fx_Go G (6, 90) mm_M_makeRecord 94 [(0, fx_r G 85), (1, .int v1), (2, .int v2), (3, .int v3)] [.int 1, fx_r G 85] S Q)) ∧ (v3 = 12 → fx_Go G (0, 0) mm_M_refuse 0 [(0, fx_r G 85), (1, .int 3)] [] S (fx_qi (fun x2 S1 => shM S1 ∧ Q (.inl (some (.int x2))) S1) Q))) ∧ (¬ 12 ≤ v3 → vp_in v3 12 ∧ ((fx_I S 87 (v3.toNatClampNeg)) = 0 → (¬ v3 = 12 → (v2 = 0 → fx_Go G (6, 90) mm_M_makeRecord 94 [(0, fx_r G 85), (1, .int v1), (2, .int v2), (3, .int v3)] [.int 2, fx_r G 85] S Q) ∧ (¬ v2 = 0 → fx_Go G (6, 90) mm_M_makeRecord 94 [(0, fx_r G 85), (1, .int v1), (2, .int v2), (3, .int v3)] [.int 1, fx_r G 85] S Q)) ∧ (v3 = 12 → fx_Go G (0, 0) mm_M_refuse 0 [(0, fx_r G 85), (1, .int 3)] [] S (fx_qi (fun x6 S5 => shM S5 ∧ Q (.inl (some (.int x6))) S5) Q))) ∧ (¬ (fx_I S 87 (v3.toNatClampNeg)) = 0 → fx_Go G (6, 90) mm_M_makeRecord 51 [(0, fx_r G 85), (1, .int v1), (2, .int v2), (3, .int (v3 + Int32.ofInt 1))] [] S Q))) :
    fx_Go G (6, 90) mm_M_makeRecord 51 [(0, fx_r G 85), (1, .int v1), (2, .int v2), (3, .int v3)] [] S Q := by
  refine bk_M_makeRecord_51 85 v1 v2 v3 ?_
  refine ⟨fun hc => ?_, fun hc => ?_⟩
  · replace h := h.1 hc
    refine ⟨fun hc => ?_, fun hc => ?_⟩
    · replace h := h.1 hc
      refine ⟨fun hc => ?_, fun hc => ?_⟩
      · replace h := h.1 hc
        exact h
      · replace h := h.2 hc
        exact h
    · replace h := h.2 hc
      refine ⟨(hS.is ⟨by decide, by decide⟩ rfl), ?_⟩
      refine fx_cons h (fx_qi_m fun x2 S1 h => ?_)
      obtain ⟨hS1, h⟩ := h
      exact h
  · replace h := h.2 hc
    refine ⟨(hS.is ⟨by decide, by decide⟩ rfl), ?_⟩
    refine ⟨_, (hS.P ⟨by decide, by decide⟩ rfl), ?_⟩
    refine ⟨(hS.is ⟨by decide, by decide⟩ rfl), ?_⟩
    obtain ⟨w4, h⟩ := h
    refine ⟨(hS.vin ⟨by decide, by decide⟩ rfl w4), ?_⟩
    refine ⟨fun hc => ?_, fun hc => ?_⟩
    · replace h := h.1 hc
      refine ⟨fun hc => ?_, fun hc => ?_⟩
      · replace h := h.1 hc
        refine ⟨fun hc => ?_, fun hc => ?_⟩
        · replace h := h.1 hc
          exact h
        · replace h := h.2 hc
          exact h
      · replace h := h.2 hc
        refine fx_cons h (fx_qi_m fun x6 S5 h => ?_)
        obtain ⟨hS5, h⟩ := h
        exact h
    · replace h := h.2 hc
      exact h
theorem bs_M_makeRecord_94 {G : fx_G} {S : fx_S} {Q : fx_R → fx_S → Prop} (hS : shM S) (v1 : Int32) (v2 : Int32) (v3 : Int32) (z0 : Int32)  (h : fx_Go G (0, 0) mm_M_begin 0 [(0, fx_r G 85), (1, .int z0), (2, .int v1)] [] S (fx_qv (fun S1 => shM S1 ∧ fx_Go G (1, 13) mm_M_putDraft 0 [(0, fx_r G 85)] [] S1 (fx_qv (fun S2 => shM S2 ∧ ∀ S3, S3 = fx_setI S2 85 14 0 → (v2 = 0 → fx_Go G (1, 13) mm_M_putList 0 [(0, fx_r G 85)] [] S3 (fx_qv (fun S4 => shM S4 ∧ fx_Go G (6, 90) mm_M_makeRecord 123 [(0, fx_r G 85), (1, .int v1), (3, .int v3)] [] S4 Q) Q)) ∧ (¬ v2 = 0 → fx_Go G (1, 13) mm_M_putInside 0 [(0, fx_r G 85), (1, .int 0)] [] S3 (fx_qv (fun S5 => shM S5 ∧ fx_Go G (6, 90) mm_M_makeRecord 123 [(0, fx_r G 85), (1, .int v1), (3, .int v3)] [] S5 Q) Q))) Q)) Q)) :
    fx_Go G (6, 90) mm_M_makeRecord 94 [(0, fx_r G 85), (1, .int v1), (2, .int v2), (3, .int v3)] [.int z0, fx_r G 85] S Q := by
  refine bk_M_makeRecord_94 85 v1 v2 v3 z0 85 ?_
  refine ⟨(hS.is ⟨by decide, by decide⟩ rfl), ?_⟩
  refine fx_cons h (fx_qv_m fun S1 h => ?_)
  obtain ⟨hS1, h⟩ := h
  refine ⟨(hS1.is ⟨by decide, by decide⟩ rfl), ?_⟩
  refine fx_cons h (fx_qv_m fun S2 h => ?_)
  obtain ⟨hS2, h⟩ := h
  refine ⟨(hS2.is ⟨by decide, by decide⟩ rfl), ?_⟩
  intro S3 eS3
  replace h := h S3 eS3
  have hS3 : shM S3 := by rw [eS3]; exact hS2
  refine ⟨fun hc => ?_, fun hc => ?_⟩
  · replace h := h.1 hc
    refine fx_cons h (fx_qv_m fun S4 h => ?_)
    obtain ⟨hS4, h⟩ := h
    exact h
  · replace h := h.2 hc
    refine fx_cons h (fx_qv_m fun S5 h => ?_)
    obtain ⟨hS5, h⟩ := h
    exact h
theorem bs_M_makeRecord_123 {G : fx_G} {S : fx_S} {Q : fx_R → fx_S → Prop} (hS : shM S) (v1 : Int32) (v3 : Int32)  (h : fx_Go G (1, 15) mm_M_store 0 [(0, fx_r G 85), (1, .int v3)] [] S (fx_qi (fun x2 S1 => shM S1 ∧ (¬ x2 = 0 → fx_Go G (3, 50) mm_M_takeList 0 [(0, fx_r G 85), (1, .int v1), (2, .int (-1))] [] S1 (fx_qv (fun S3 => shM S3 ∧ fx_Go G (5, 76) mm_M_join 0 [(0, fx_r G 85), (1, .int v3)] [] S3 (fx_qv (fun S4 => shM S4 ∧ fx_Go G (0, 0) mm_M_byteOf 0 [(0, fx_r G 85), (1, .int v1), (2, .int 1)] [] S4 (fx_qi (fun x6 S5 => shM S5 ∧ fx_Go G (4, 60) mm_M_storeList 0 [(0, fx_r G 85), (1, .int v1), (2, .int x6)] [] S5 (fx_qi (fun x8 S7 => shM S7 ∧ (x8 = 0 → fx_Go G (0, 0) mm_M_refuse 0 [(0, fx_r G 85), (1, .int 1)] [] S7 (fx_qi (fun x10 S9 => shM S9 ∧ Q (.inl (some (.int x10))) S9) Q)) ∧ (¬ x8 = 0 → Q (.inl (some (.int v3))) S7)) Q)) Q)) Q)) Q)) ∧ (x2 = 0 → fx_Go G (0, 0) mm_M_refuse 0 [(0, fx_r G 85), (1, .int 1)] [] S1 (fx_qi (fun x12 S11 => shM S11 ∧ Q (.inl (some (.int x12))) S11) Q))) Q)) :
    fx_Go G (6, 90) mm_M_makeRecord 123 [(0, fx_r G 85), (1, .int v1), (3, .int v3)] [] S Q := by
  refine bk_M_makeRecord_123 85 v1 v3 ?_
  refine ⟨(hS.is ⟨by decide, by decide⟩ rfl), ?_⟩
  refine fx_cons h (fx_qi_m fun x2 S1 h => ?_)
  obtain ⟨hS1, h⟩ := h
  refine ⟨fun hc => ?_, fun hc => ?_⟩
  · replace h := h.1 hc
    refine ⟨(hS1.is ⟨by decide, by decide⟩ rfl), ?_⟩
    refine fx_cons h (fx_qv_m fun S3 h => ?_)
    obtain ⟨hS3, h⟩ := h
    refine ⟨(hS3.is ⟨by decide, by decide⟩ rfl), ?_⟩
    refine fx_cons h (fx_qv_m fun S4 h => ?_)
    obtain ⟨hS4, h⟩ := h
    refine ⟨(hS4.is ⟨by decide, by decide⟩ rfl), ?_⟩
    refine fx_cons h (fx_qi_m fun x6 S5 h => ?_)
    obtain ⟨hS5, h⟩ := h
    refine ⟨(hS5.is ⟨by decide, by decide⟩ rfl), ?_⟩
    refine fx_cons h (fx_qi_m fun x8 S7 h => ?_)
    obtain ⟨hS7, h⟩ := h
    refine ⟨fun hc => ?_, fun hc => ?_⟩
    · replace h := h.1 hc
      refine ⟨(hS7.is ⟨by decide, by decide⟩ rfl), ?_⟩
      refine fx_cons h (fx_qi_m fun x10 S9 h => ?_)
      obtain ⟨hS9, h⟩ := h
      exact h
    · replace h := h.2 hc
      exact h
  · replace h := h.2 hc
    refine ⟨(hS1.is ⟨by decide, by decide⟩ rfl), ?_⟩
    refine fx_cons h (fx_qi_m fun x12 S11 h => ?_)
    obtain ⟨hS11, h⟩ := h
    exact h
theorem bs_M_create_0 {G : fx_G} {S : fx_S} {Q : fx_R → fx_S → Prop} (hS : shM S) (v1 : Int32) (v2 : Int32)  (h : ∀ S1, S1 = fx_setI S 85 0 0 → fx_Go G (6, 90) mm_M_makeRecord 0 [(0, fx_r G 85), (1, .int v1), (2, .int v2)] [] S1 (fx_qi (fun x3 S2 => shM S2 ∧ ∀ S4, S4 = fx_setI S2 85 6 0 → Q (.inl (some (.int x3))) S4) Q)) :
    fx_Go G (7, 105) mm_M_create 0 [(0, fx_r G 85), (1, .int v1), (2, .int v2)] [] S Q := by
  refine bk_M_create_0 85 v1 v2 ?_
  refine ⟨(hS.is ⟨by decide, by decide⟩ rfl), ?_⟩
  intro S1 eS1
  replace h := h S1 eS1
  have hS1 : shM S1 := by rw [eS1]; exact hS
  refine fx_cons h (fx_qi_m fun x3 S2 h => ?_)
  obtain ⟨hS2, h⟩ := h
  refine ⟨(hS2.is ⟨by decide, by decide⟩ rfl), ?_⟩
  intro S4 eS4
  replace h := h S4 eS4
  have hS4 : shM S4 := by rw [eS4]; exact hS2
  exact h
theorem bs_M_loadMap_0 {G : fx_G} {S : fx_S} {Q : fx_R → fx_S → Prop} (hS : shM S) (v1 : Int32)  (h : ∀ S1, S1 = fx_setI S 85 10 0 → fx_Go G (1, 16) mm_M_attribute 0 [(0, fx_r G 85), (1, .int v1), (2, .int 3)] [] S1 (fx_qi (fun x3 S2 => shM S2 ∧ (0 ≤ x3 → fx_Go G (2, 32) mm_M_loadMap 23 [(0, fx_r G 85), (1, .int v1), (2, .int (x3 + Int32.ofInt 4)), (3, .int 48)] [] S2 Q) ∧ (¬ 0 ≤ x3 → Q (.inl none) S2)) Q)) :
    fx_Go G (2, 32) mm_M_loadMap 0 [(0, fx_r G 85), (1, .int v1)] [] S Q := by
  refine bk_M_loadMap_0 85 v1 ?_
  refine ⟨(hS.is ⟨by decide, by decide⟩ rfl), ?_⟩
  intro S1 eS1
  replace h := h S1 eS1
  have hS1 : shM S1 := by rw [eS1]; exact hS
  refine fx_cons h (fx_qi_m fun x3 S2 h => ?_)
  obtain ⟨hS2, h⟩ := h
  refine ⟨fun hc => ?_, fun hc => ?_⟩
  · replace h := h.1 hc
    exact h
  · replace h := h.2 hc
    exact h
theorem bs_M_loadMap_23 {G : fx_G} {S : fx_S} {Q : fx_R → fx_S → Prop} (hS : shM S) (v1 : Int32) (v2 : Int32) (v3 : Int32)  (h : fx_Go G (0, 0) mm_M_byteOf 0 [(0, fx_r G 85), (1, .int v1), (2, .int v2)] [] S (fx_qi (fun x2 S1 => shM S1 ∧ (x2 = 0 → Q (.inl none) S1) ∧ (¬ x2 = 0 → fx_Go G (0, 0) mm_M_byteOf 0 [(0, fx_r G 85), (1, .int v1), (2, .int v2)] [] S1 (fx_qi (fun x4 S3 => shM S3 ∧ (¬ x4 = 1 → fx_Go G (2, 32) mm_M_loadMap 47 [(0, fx_r G 85), (1, .int v1), (2, .int v2), (3, .int v3)] [.int 0] S3 Q) ∧ (x4 = 1 → fx_Go G (2, 32) mm_M_loadMap 47 [(0, fx_r G 85), (1, .int v1), (2, .int v2), (3, .int v3)] [.int 1] S3 Q)) Q))) Q)) :
    fx_Go G (2, 32) mm_M_loadMap 23 [(0, fx_r G 85), (1, .int v1), (2, .int v2), (3, .int v3)] [] S Q := by
  refine bk_M_loadMap_23 85 v1 v2 v3 ?_
  refine ⟨(hS.is ⟨by decide, by decide⟩ rfl), ?_⟩
  refine fx_cons h (fx_qi_m fun x2 S1 h => ?_)
  obtain ⟨hS1, h⟩ := h
  refine ⟨fun hc => ?_, fun hc => ?_⟩
  · replace h := h.1 hc
    exact h
  · replace h := h.2 hc
    refine ⟨(hS1.is ⟨by decide, by decide⟩ rfl), ?_⟩
    refine fx_cons h (fx_qi_m fun x4 S3 h => ?_)
    obtain ⟨hS3, h⟩ := h
    refine ⟨fun hc => ?_, fun hc => ?_⟩
    · replace h := h.1 hc
      exact h
    · replace h := h.2 hc
      exact h
theorem bs_M_loadMap_47 {G : fx_G} {S : fx_S} {Q : fx_R → fx_S → Prop} (hS : shM S) (v1 : Int32) (v2 : Int32) (v3 : Int32) (z0 : Int32)  (h : fx_Go G (0, 0) mm_M_byteOf 0 [(0, fx_r G 85), (1, .int v1), (2, .int (v2 + 1))] [] S (fx_qi (fun x2 S1 => shM S1 ∧ (¬ z0 = 0 → fx_Go G (2, 32) mm_M_loadMap 82 [(0, fx_r G 85), (1, .int v1), (2, .int v2), (3, .int v3), (4, .int z0), (5, .int x2), (6, .int 0)] [] S1 Q) ∧ (z0 = 0 → fx_Go G (0, 0) mm_M_byteOf 0 [(0, fx_r G 85), (1, .int v1), (2, .int (v2 + 2))] [] S1 (fx_qi (fun x4 S3 => shM S3 ∧ fx_Go G (2, 32) mm_M_loadMap 82 [(0, fx_r G 85), (1, .int v1), (2, .int v2), (3, .int ((v3 + x4) &&& 255)), (4, .int z0), (5, .int x2), (6, .int 0)] [] S3 Q) Q))) Q)) :
    fx_Go G (2, 32) mm_M_loadMap 47 [(0, fx_r G 85), (1, .int v1), (2, .int v2), (3, .int v3)] [.int z0] S Q := by
  refine bk_M_loadMap_47 85 v1 v2 v3 z0 ?_
  refine ⟨(hS.is ⟨by decide, by decide⟩ rfl), ?_⟩
  refine fx_cons h (fx_qi_m fun x2 S1 h => ?_)
  obtain ⟨hS1, h⟩ := h
  refine ⟨fun hc => ?_, fun hc => ?_⟩
  · replace h := h.1 hc
    exact h
  · replace h := h.2 hc
    refine ⟨(hS1.is ⟨by decide, by decide⟩ rfl), ?_⟩
    refine fx_cons h (fx_qi_m fun x4 S3 h => ?_)
    obtain ⟨hS3, h⟩ := h
    exact h
theorem bs_M_loadMap_82 {G : fx_G} {S : fx_S} {Q : fx_R → fx_S → Prop} (hS : shM S) (v1 : Int32) (v2 : Int32) (v3 : Int32) (v4 : Int32) (v5 : Int32) (v6 : Int32)  (h : (v5 ≤ v6 → ∀ S1, S1 = fx_setI S 85 10 ((fx_I S 85 10) + v5) → (v4 = 0 → fx_Go G (2, 32) mm_M_loadMap 23 [(0, fx_r G 85), (1, .int v1), (2, .int (v2 + 3)), (3, .int v3)] [] S1 Q) ∧ (¬ v4 = 0 → fx_Go G (2, 32) mm_M_loadMap 23 [(0, fx_r G 85), (1, .int v1), (2, .int (v2 + 2)), (3, .int v3)] [] S1 Q)) ∧ (¬ v5 ≤ v6 → (v4 = 0 → vp_in ((fx_I S 85 10) + v6) 64 ∧ ∀ S4, S4 = fx_setI S 91 (((fx_I S 85 10) + v6).toNatClampNeg) (v3 + v6) → fx_Go G (2, 32) mm_M_loadMap 82 [(0, fx_r G 85), (1, .int v1), (2, .int v2), (3, .int v3), (4, .int v4), (5, .int v5), (6, .int (v6 + Int32.ofInt 1))] [] S4 Q) ∧ (¬ v4 = 0 → vp_in ((fx_I S 85 10) + v6) 64 ∧ ∀ S6, S6 = fx_setI S 91 (((fx_I S 85 10) + v6).toNatClampNeg) (-1) → fx_Go G (2, 32) mm_M_loadMap 82 [(0, fx_r G 85), (1, .int v1), (2, .int v2), (3, .int v3), (4, .int v4), (5, .int v5), (6, .int (v6 + Int32.ofInt 1))] [] S6 Q))) :
    fx_Go G (2, 32) mm_M_loadMap 82 [(0, fx_r G 85), (1, .int v1), (2, .int v2), (3, .int v3), (4, .int v4), (5, .int v5), (6, .int v6)] [] S Q := by
  refine bk_M_loadMap_82 85 v1 v2 v3 v4 v5 v6 ?_
  refine ⟨fun hc => ?_, fun hc => ?_⟩
  · replace h := h.1 hc
    refine ⟨(hS.is ⟨by decide, by decide⟩ rfl), ?_⟩
    intro S1 eS1
    replace h := h S1 eS1
    have hS1 : shM S1 := by rw [eS1]; exact hS
    refine ⟨fun hc => ?_, fun hc => ?_⟩
    · replace h := h.1 hc
      exact h
    · replace h := h.2 hc
      exact h
  · replace h := h.2 hc
    refine ⟨(hS.is ⟨by decide, by decide⟩ rfl), ?_⟩
    refine ⟨_, (hS.P ⟨by decide, by decide⟩ rfl), ?_⟩
    refine ⟨fun hc => ?_, fun hc => ?_⟩
    · replace h := h.1 hc
      refine ⟨(hS.is ⟨by decide, by decide⟩ rfl), ?_⟩
      obtain ⟨w3, h⟩ := h
      refine ⟨(hS.vin ⟨by decide, by decide⟩ rfl w3), ?_⟩
      intro S4 eS4
      replace h := h S4 eS4
      have hS4 : shM S4 := by rw [eS4]; exact hS
      exact h
    · replace h := h.2 hc
      refine ⟨(hS.is ⟨by decide, by decide⟩ rfl), ?_⟩
      obtain ⟨w5, h⟩ := h
      refine ⟨(hS.vin ⟨by decide, by decide⟩ rfl w5), ?_⟩
      intro S6 eS6
      replace h := h S6 eS6
      have hS6 : shM S6 := by rw [eS6]; exact hS
      exact h
theorem bs_M_remove_0 {G : fx_G} {S : fx_S} {Q : fx_R → fx_S → Prop} (hS : shM S) (v1 : Int32)  (h : ∀ S1, S1 = fx_setI S 85 0 0 → (¬ (fx_I S1 85 4) = 0 → fx_Go G (0, 0) mm_M_isRecord 0 [(0, fx_r G 85), (1, .int v1)] [] S1 (fx_qi (fun x3 S2 => shM S2 ∧ (x3 = 0 → fx_Go G (0, 0) mm_M_refuse 0 [(0, fx_r G 85), (1, .int 2)] [] S2 (fx_qi (fun x5 S4 => shM S4 ∧ Q (.inl (some (.int x5))) S4) Q)) ∧ (¬ x3 = 0 → (¬ v1 = 0 → fx_Go G (0, 0) mm_M_byteOf 0 [(0, fx_r G 85), (1, .int v1), (2, .int 0)] [] S2 (fx_qi (fun x7 S6 => shM S6 ∧ (¬ x7 = 2 → fx_Go G (5, 74) mm_M_remove 60 [(0, fx_r G 85), (1, .int v1)] [] S6 Q) ∧ (x7 = 2 → fx_Go G (2, 34) mm_M_listLength 0 [(0, fx_r G 85), (1, .int v1)] [] S6 (fx_qi (fun x9 S8 => shM S8 ∧ (x9 ≤ 0 → fx_Go G (5, 74) mm_M_remove 60 [(0, fx_r G 85), (1, .int v1)] [] S8 Q) ∧ (¬ x9 ≤ 0 → fx_Go G (0, 0) mm_M_refuse 0 [(0, fx_r G 85), (1, .int 2)] [] S8 (fx_qi (fun x11 S10 => shM S10 ∧ Q (.inl (some (.int x11))) S10) Q))) Q))) Q)) ∧ (v1 = 0 → fx_Go G (0, 0) mm_M_refuse 0 [(0, fx_r G 85), (1, .int 2)] [] S2 (fx_qi (fun x13 S12 => shM S12 ∧ Q (.inl (some (.int x13))) S12) Q)))) Q)) ∧ ((fx_I S1 85 4) = 0 → fx_Go G (0, 0) mm_M_refuse 0 [(0, fx_r G 85), (1, .int 1)] [] S1 (fx_qi (fun x15 S14 => shM S14 ∧ Q (.inl (some (.int x15))) S14) Q))) :
    fx_Go G (5, 74) mm_M_remove 0 [(0, fx_r G 85), (1, .int v1)] [] S Q := by
  refine bk_M_remove_0 85 v1 ?_
  refine ⟨(hS.is ⟨by decide, by decide⟩ rfl), ?_⟩
  intro S1 eS1
  replace h := h S1 eS1
  have hS1 : shM S1 := by rw [eS1]; exact hS
  refine ⟨fun hc => ?_, fun hc => ?_⟩
  · replace h := h.1 hc
    refine fx_cons h (fx_qi_m fun x3 S2 h => ?_)
    obtain ⟨hS2, h⟩ := h
    refine ⟨fun hc => ?_, fun hc => ?_⟩
    · replace h := h.1 hc
      refine ⟨(hS2.is ⟨by decide, by decide⟩ rfl), ?_⟩
      refine fx_cons h (fx_qi_m fun x5 S4 h => ?_)
      obtain ⟨hS4, h⟩ := h
      exact h
    · replace h := h.2 hc
      refine ⟨fun hc => ?_, fun hc => ?_⟩
      · replace h := h.1 hc
        refine ⟨(hS2.is ⟨by decide, by decide⟩ rfl), ?_⟩
        refine fx_cons h (fx_qi_m fun x7 S6 h => ?_)
        obtain ⟨hS6, h⟩ := h
        refine ⟨fun hc => ?_, fun hc => ?_⟩
        · replace h := h.1 hc
          exact h
        · replace h := h.2 hc
          refine ⟨(hS6.is ⟨by decide, by decide⟩ rfl), ?_⟩
          refine fx_cons h (fx_qi_m fun x9 S8 h => ?_)
          obtain ⟨hS8, h⟩ := h
          refine ⟨fun hc => ?_, fun hc => ?_⟩
          · replace h := h.1 hc
            exact h
          · replace h := h.2 hc
            refine ⟨(hS8.is ⟨by decide, by decide⟩ rfl), ?_⟩
            refine fx_cons h (fx_qi_m fun x11 S10 h => ?_)
            obtain ⟨hS10, h⟩ := h
            exact h
      · replace h := h.2 hc
        refine ⟨(hS2.is ⟨by decide, by decide⟩ rfl), ?_⟩
        refine fx_cons h (fx_qi_m fun x13 S12 h => ?_)
        obtain ⟨hS12, h⟩ := h
        exact h
  · replace h := h.2 hc
    refine fx_cons h (fx_qi_m fun x15 S14 h => ?_)
    obtain ⟨hS14, h⟩ := h
    exact h
theorem bs_M_remove_60 {G : fx_G} {S : fx_S} {Q : fx_R → fx_S → Prop} (hS : shM S) (v1 : Int32)  (h : fx_Go G (0, 0) mm_M_byteOf 0 [(0, fx_r G 85), (1, .int v1), (2, .int 1)] [] S (fx_qi (fun x2 S1 => shM S1 ∧ fx_Go G (2, 32) mm_M_loadMap 0 [(0, fx_r G 85), (1, .int v1)] [] S1 (fx_qv (fun S3 => shM S3 ∧ fx_Go G (3, 50) mm_M_takeList 0 [(0, fx_r G 85), (1, .int x2), (2, .int v1)] [] S3 (fx_qv (fun S4 => shM S4 ∧ fx_Go G (0, 0) mm_M_byteOf 0 [(0, fx_r G 85), (1, .int x2), (2, .int 1)] [] S4 (fx_qi (fun x6 S5 => shM S5 ∧ fx_Go G (4, 60) mm_M_storeList 0 [(0, fx_r G 85), (1, .int x2), (2, .int x6)] [] S5 (fx_qi (fun x8 S7 => shM S7 ∧ (¬ x8 = 0 → fx_Go G (0, 0) mm_M_begin 0 [(0, fx_r G 85), (1, .int 0), (2, .int 0)] [] S7 (fx_qv (fun S9 => shM S9 ∧ fx_Go G (1, 15) mm_M_store 0 [(0, fx_r G 85), (1, .int v1)] [] S9 (fx_qi (fun x11 S10 => shM S10 ∧ (¬ x11 = 0 → fx_Go G (0, 0) mm_M_release 0 [(0, fx_r G 85), (1, .int 0)] [] S10 (fx_qi (fun x13 S12 => shM S12 ∧ Q (.inl (some (.int x13))) S12) Q)) ∧ (x11 = 0 → fx_Go G (0, 0) mm_M_refuse 0 [(0, fx_r G 85), (1, .int 1)] [] S10 (fx_qi (fun x15 S14 => shM S14 ∧ Q (.inl (some (.int x15))) S14) Q))) Q)) Q)) ∧ (x8 = 0 → fx_Go G (0, 0) mm_M_refuse 0 [(0, fx_r G 85), (1, .int 1)] [] S7 (fx_qi (fun x17 S16 => shM S16 ∧ Q (.inl (some (.int x17))) S16) Q))) Q)) Q)) Q)) Q)) Q)) :
    fx_Go G (5, 74) mm_M_remove 60 [(0, fx_r G 85), (1, .int v1)] [] S Q := by
  refine bk_M_remove_60 85 v1 ?_
  refine ⟨(hS.is ⟨by decide, by decide⟩ rfl), ?_⟩
  refine fx_cons h (fx_qi_m fun x2 S1 h => ?_)
  obtain ⟨hS1, h⟩ := h
  refine ⟨(hS1.is ⟨by decide, by decide⟩ rfl), ?_⟩
  refine fx_cons h (fx_qv_m fun S3 h => ?_)
  obtain ⟨hS3, h⟩ := h
  refine ⟨(hS3.is ⟨by decide, by decide⟩ rfl), ?_⟩
  refine fx_cons h (fx_qv_m fun S4 h => ?_)
  obtain ⟨hS4, h⟩ := h
  refine ⟨(hS4.is ⟨by decide, by decide⟩ rfl), ?_⟩
  refine fx_cons h (fx_qi_m fun x6 S5 h => ?_)
  obtain ⟨hS5, h⟩ := h
  refine ⟨(hS5.is ⟨by decide, by decide⟩ rfl), ?_⟩
  refine fx_cons h (fx_qi_m fun x8 S7 h => ?_)
  obtain ⟨hS7, h⟩ := h
  refine ⟨fun hc => ?_, fun hc => ?_⟩
  · replace h := h.1 hc
    refine ⟨(hS7.is ⟨by decide, by decide⟩ rfl), ?_⟩
    refine fx_cons h (fx_qv_m fun S9 h => ?_)
    obtain ⟨hS9, h⟩ := h
    refine ⟨(hS9.is ⟨by decide, by decide⟩ rfl), ?_⟩
    refine fx_cons h (fx_qi_m fun x11 S10 h => ?_)
    obtain ⟨hS10, h⟩ := h
    refine ⟨fun hc => ?_, fun hc => ?_⟩
    · replace h := h.1 hc
      refine ⟨(hS10.is ⟨by decide, by decide⟩ rfl), ?_⟩
      refine fx_cons h (fx_qi_m fun x13 S12 h => ?_)
      obtain ⟨hS12, h⟩ := h
      exact h
    · replace h := h.2 hc
      refine ⟨(hS10.is ⟨by decide, by decide⟩ rfl), ?_⟩
      refine fx_cons h (fx_qi_m fun x15 S14 h => ?_)
      obtain ⟨hS14, h⟩ := h
      exact h
  · replace h := h.2 hc
    refine ⟨(hS7.is ⟨by decide, by decide⟩ rfl), ?_⟩
    refine fx_cons h (fx_qi_m fun x17 S16 h => ?_)
    obtain ⟨hS16, h⟩ := h
    exact h
theorem bs_M_release_0 {G : fx_G} {S : fx_S} {Q : fx_R → fx_S → Prop} (hS : shM S) (v1 : Int32)  (h : fx_Go G (0, 0) mm_M_release 4 [(0, fx_r G 85), (2, .int 0), (3, .int v1)] [] S Q) :
    fx_Go G (0, 0) mm_M_release 0 [(0, fx_r G 85), (1, .int v1)] [] S Q := by
  refine bk_M_release_0 85 v1 ?_
  exact h
theorem bs_M_release_4 {G : fx_G} {S : fx_S} {Q : fx_R → fx_S → Prop} (hS : shM S) (v2 : Int32) (v3 : Int32)  (h : ((fx_I S 85 10) ≤ v3 → Q (.inl (some (.int v2))) S) ∧ (¬ (fx_I S 85 10) ≤ v3 → vp_in v3 64 ∧ (0 ≤ (fx_I S 91 (v3.toNatClampNeg)) → vp_in v3 64 ∧ vp_in (fx_I S 91 (v3.toNatClampNeg)) 128 ∧ ∀ S7, S7 = fx_setI S 88 ((fx_I S 91 (v3.toNatClampNeg)).toNatClampNeg) (vp_nar .boolean 0) → fx_Go G (0, 0) mm_M_release 4 [(0, fx_r G 85), (2, .int (v2 + Int32.ofInt 1)), (3, .int (v3 + Int32.ofInt 1))] [] S7 Q) ∧ (¬ 0 ≤ (fx_I S 91 (v3.toNatClampNeg)) → fx_Go G (0, 0) mm_M_release 4 [(0, fx_r G 85), (2, .int v2), (3, .int (v3 + Int32.ofInt 1))] [] S Q))) :
    fx_Go G (0, 0) mm_M_release 4 [(0, fx_r G 85), (2, .int v2), (3, .int v3)] [] S Q := by
  refine bk_M_release_4 85 v2 v3 ?_
  refine ⟨(hS.is ⟨by decide, by decide⟩ rfl), ?_⟩
  refine ⟨fun hc => ?_, fun hc => ?_⟩
  · replace h := h.1 hc
    exact h
  · replace h := h.2 hc
    refine ⟨_, (hS.P ⟨by decide, by decide⟩ rfl), ?_⟩
    refine ⟨(hS.is ⟨by decide, by decide⟩ rfl), ?_⟩
    obtain ⟨w2, h⟩ := h
    refine ⟨(hS.vin ⟨by decide, by decide⟩ rfl w2), ?_⟩
    refine ⟨fun hc => ?_, fun hc => ?_⟩
    · replace h := h.1 hc
      refine ⟨_, (hS.P ⟨by decide, by decide⟩ rfl), ?_⟩
      refine ⟨_, (hS.P ⟨by decide, by decide⟩ rfl), ?_⟩
      refine ⟨(hS.is ⟨by decide, by decide⟩ rfl), ?_⟩
      obtain ⟨w5, h⟩ := h
      refine ⟨(hS.vin ⟨by decide, by decide⟩ rfl w5), ?_⟩
      refine ⟨(hS.is ⟨by decide, by decide⟩ rfl), ?_⟩
      obtain ⟨w6, h⟩ := h
      refine ⟨(hS.vin ⟨by decide, by decide⟩ rfl w6), ?_⟩
      intro S7 eS7
      replace h := h S7 eS7
      have hS7 : shM S7 := by rw [eS7]; exact hS
      exact h
    · replace h := h.2 hc
      exact h
theorem bs_M_isBelow_0 {G : fx_G} {S : fx_S} {Q : fx_R → fx_S → Prop} (hS : shM S) (v1 : Int32) (v2 : Int32)  (h : fx_Go G (1, 15) mm_M_isBelow 2 [(0, fx_r G 85), (2, .int v2), (3, .int v1)] [] S Q) :
    fx_Go G (1, 15) mm_M_isBelow 0 [(0, fx_r G 85), (1, .int v1), (2, .int v2)] [] S Q := by
  refine bk_M_isBelow_0 85 v1 v2 ?_
  exact h
theorem bs_M_isBelow_2 {G : fx_G} {S : fx_S} {Q : fx_R → fx_S → Prop} (hS : shM S) (v2 : Int32) (v3 : Int32)  (h : (v3 = v2 → (¬ v3 = v2 → Q (.inl (some (.int 0))) S) ∧ (v3 = v2 → Q (.inl (some (.int 1))) S)) ∧ (¬ v3 = v2 → (v3 = 0 → (¬ v3 = v2 → Q (.inl (some (.int 0))) S) ∧ (v3 = v2 → Q (.inl (some (.int 1))) S)) ∧ (¬ v3 = 0 → fx_Go G (0, 0) mm_M_byteOf 0 [(0, fx_r G 85), (1, .int v3), (2, .int 1)] [] S (fx_qi (fun x2 S1 => shM S1 ∧ fx_Go G (1, 15) mm_M_isBelow 2 [(0, fx_r G 85), (2, .int v2), (3, .int x2)] [] S1 Q) Q)))) :
    fx_Go G (1, 15) mm_M_isBelow 2 [(0, fx_r G 85), (2, .int v2), (3, .int v3)] [] S Q := by
  refine bk_M_isBelow_2 85 v2 v3 ?_
  refine ⟨fun hc => ?_, fun hc => ?_⟩
  · replace h := h.1 hc
    refine ⟨fun hc => ?_, fun hc => ?_⟩
    · replace h := h.1 hc
      exact h
    · replace h := h.2 hc
      exact h
  · replace h := h.2 hc
    refine ⟨fun hc => ?_, fun hc => ?_⟩
    · replace h := h.1 hc
      refine ⟨fun hc => ?_, fun hc => ?_⟩
      · replace h := h.1 hc
        exact h
      · replace h := h.2 hc
        exact h
    · replace h := h.2 hc
      refine ⟨(hS.is ⟨by decide, by decide⟩ rfl), ?_⟩
      refine fx_cons h (fx_qi_m fun x2 S1 h => ?_)
      obtain ⟨hS1, h⟩ := h
      exact h
theorem bs_M_hasName_0 {G : fx_G} {S : fx_S} {Q : fx_R → fx_S → Prop} (hS : shM S) (v1 : Int32) (v2 : Int32)  (h : fx_Go G (5, 76) mm_M_hasName 5 [(0, fx_r G 85), (1, .int v1), (2, .int v2), (3, .int 0), (4, .int 0)] [] S Q) :
    fx_Go G (5, 76) mm_M_hasName 0 [(0, fx_r G 85), (1, .int v1), (2, .int v2)] [] S Q := by
  refine bk_M_hasName_0 85 v1 v2 ?_
  exact h
theorem bs_M_hasName_5 {G : fx_G} {S : fx_S} {Q : fx_R → fx_S → Prop} (hS : shM S) (v1 : Int32) (v2 : Int32) (v3 : Int32) (v4 : Int32)  (h : fx_Go G (2, 34) mm_M_listLength 0 [(0, fx_r G 85), (1, .int v1)] [] S (fx_qi (fun x2 S1 => shM S1 ∧ (x2 ≤ v4 → narrow .boolean (.int v3) = .int v3 ∧ Q (.inl (some (.int v3))) S1) ∧ (¬ x2 ≤ v4 → (¬ v3 = 0 → fx_Go G (5, 76) mm_M_hasName 5 [(0, fx_r G 85), (1, .int v1), (2, .int v2), (3, .int 1), (4, .int (v4 + Int32.ofInt 1))] [] S1 Q) ∧ (v3 = 0 → fx_Go G (2, 34) mm_M_entry 0 [(0, fx_r G 85), (1, .int v1), (2, .int v4)] [] S1 (fx_qi (fun x4 S3 => shM S3 ∧ fx_Go G (4, 61) mm_M_compareNames 0 [(0, fx_r G 85), (1, .int x4), (2, .int v2)] [] S3 (fx_qi (fun x6 S5 => shM S5 ∧ (¬ x6 = 0 → fx_Go G (5, 76) mm_M_hasName 5 [(0, fx_r G 85), (1, .int v1), (2, .int v2), (3, .int 0), (4, .int (v4 + Int32.ofInt 1))] [] S5 Q) ∧ (x6 = 0 → fx_Go G (5, 76) mm_M_hasName 5 [(0, fx_r G 85), (1, .int v1), (2, .int v2), (3, .int 1), (4, .int (v4 + Int32.ofInt 1))] [] S5 Q)) Q)) Q)))) Q)) :
    fx_Go G (5, 76) mm_M_hasName 5 [(0, fx_r G 85), (1, .int v1), (2, .int v2), (3, .int v3), (4, .int v4)] [] S Q := by
  refine bk_M_hasName_5 85 v1 v2 v3 v4 ?_
  refine ⟨(hS.is ⟨by decide, by decide⟩ rfl), ?_⟩
  refine fx_cons h (fx_qi_m fun x2 S1 h => ?_)
  obtain ⟨hS1, h⟩ := h
  refine ⟨fun hc => ?_, fun hc => ?_⟩
  · replace h := h.1 hc
    exact h
  · replace h := h.2 hc
    refine ⟨fun hc => ?_, fun hc => ?_⟩
    · replace h := h.1 hc
      exact h
    · replace h := h.2 hc
      refine ⟨(hS1.is ⟨by decide, by decide⟩ rfl), ?_⟩
      refine fx_cons h (fx_qi_m fun x4 S3 h => ?_)
      obtain ⟨hS3, h⟩ := h
      refine ⟨(hS3.is ⟨by decide, by decide⟩ rfl), ?_⟩
      refine fx_cons h (fx_qi_m fun x6 S5 h => ?_)
      obtain ⟨hS5, h⟩ := h
      refine ⟨fun hc => ?_, fun hc => ?_⟩
      · replace h := h.1 hc
        exact h
      · replace h := h.2 hc
        exact h
