theorem bs_M_move_0 {G : fx_G} {S : fx_S} {Q : fx_R → fx_S → Prop} (hS : shM S) (v1 : Int32) (v2 : Int32)  (h : ∀ S1, S1 = fx_setI S 85 0 0 → (¬ (fx_I S1 85 4) = 0 → fx_Go G (0, 0) mm_M_isRecord 0 [(0, fx_r G 85), (1, .int v1)] [] S1 (fx_qi (fun x3 S2 => shM S2 ∧ (x3 = 0 → fx_Go G (6, 92) mm_M_move 44 [(0, fx_r G 85), (1, .int v1), (2, .int v2)] [.int 0] S2 Q) ∧ (¬ x3 = 0 → (v1 = 0 → fx_Go G (6, 92) mm_M_move 44 [(0, fx_r G 85), (1, .int v1), (2, .int v2)] [.int 0] S2 Q) ∧ (¬ v1 = 0 → fx_Go G (1, 15) mm_M_isKind 0 [(0, fx_r G 85), (1, .int v2), (2, .int 2)] [] S2 (fx_qi (fun x5 S4 => shM S4 ∧ (x5 = 0 → fx_Go G (6, 92) mm_M_move 44 [(0, fx_r G 85), (1, .int v1), (2, .int v2)] [.int 0] S4 Q) ∧ (¬ x5 = 0 → fx_Go G (6, 92) mm_M_move 44 [(0, fx_r G 85), (1, .int v1), (2, .int v2)] [.int 1] S4 Q)) Q)))) Q)) ∧ ((fx_I S1 85 4) = 0 → ∀ S6, S6 = fx_setI S1 85 0 1 → Q (.inl none) S6)) :
    fx_Go G (6, 92) mm_M_move 0 [(0, fx_r G 85), (1, .int v1), (2, .int v2)] [] S Q := by
  refine bk_M_move_0 85 v1 v2 ?_
  refine ⟨(hS.is ⟨by decide, by decide⟩ rfl), ?_⟩
  intro S1 eS1
  replace h := h S1 eS1
  have hS1 : shM S1 := by rw [eS1]; exact hS
  refine ⟨fun hc => ?_, fun hc => ?_⟩
  · replace h := h.1 hc
    refine fx_cons h (fx_qi_m fun x3 S2 h => ?_)
    obtain ⟨hS2, h⟩ := h
    refine ⟨fun hc => ?_, fun hc => ?_⟩
    · replace h := h.1 hc
      exact h
    · replace h := h.2 hc
      refine ⟨fun hc => ?_, fun hc => ?_⟩
      · replace h := h.1 hc
        exact h
      · replace h := h.2 hc
        refine ⟨(hS2.is ⟨by decide, by decide⟩ rfl), ?_⟩
        refine fx_cons h (fx_qi_m fun x5 S4 h => ?_)
        obtain ⟨hS4, h⟩ := h
        refine ⟨fun hc => ?_, fun hc => ?_⟩
        · replace h := h.1 hc
          exact h
        · replace h := h.2 hc
          exact h
  · replace h := h.2 hc
    intro S6 eS6
    replace h := h S6 eS6
    have hS6 : shM S6 := by rw [eS6]; exact hS1
    exact h
theorem bs_M_move_44 {G : fx_G} {S : fx_S} {Q : fx_R → fx_S → Prop} (hS : shM S) (v1 : Int32) (v2 : Int32) (z0 : Int32)  (h : (z0 = 0 → ∀ S1, S1 = fx_setI S 85 0 2 → Q (.inl none) S1) ∧ (¬ z0 = 0 → fx_Go G (1, 15) mm_M_isBelow 0 [(0, fx_r G 85), (1, .int v2), (2, .int v1)] [] S (fx_qi (fun x3 S2 => shM S2 ∧ (¬ x3 = 0 → ∀ S4, S4 = fx_setI S2 85 0 2 → Q (.inl none) S4) ∧ (x3 = 0 → fx_Go G (5, 76) mm_M_hasName 0 [(0, fx_r G 85), (1, .int v2), (2, .int v1)] [] S2 (fx_qi (fun x6 S5 => shM S5 ∧ (x6 = 0 → fx_Go G (0, 0) mm_M_byteOf 0 [(0, fx_r G 85), (1, .int v1), (2, .int 1)] [] S5 (fx_qi (fun x8 S7 => shM S7 ∧ fx_Go G (6, 92) mm_M_move 84 [(0, fx_r G 85), (1, .int v1), (2, .int v2), (4, .int x8), (5, .int 0)] [] S7 Q) Q)) ∧ (¬ x6 = 0 → ∀ S9, S9 = fx_setI S5 85 0 2 → Q (.inl none) S9)) Q))) Q))) :
    fx_Go G (6, 92) mm_M_move 44 [(0, fx_r G 85), (1, .int v1), (2, .int v2)] [.int z0] S Q := by
  refine bk_M_move_44 85 v1 v2 z0 ?_
  refine ⟨fun hc => ?_, fun hc => ?_⟩
  · replace h := h.1 hc
    refine ⟨(hS.is ⟨by decide, by decide⟩ rfl), ?_⟩
    intro S1 eS1
    replace h := h S1 eS1
    have hS1 : shM S1 := by rw [eS1]; exact hS
    exact h
  · replace h := h.2 hc
    refine ⟨(hS.is ⟨by decide, by decide⟩ rfl), ?_⟩
    refine fx_cons h (fx_qi_m fun x3 S2 h => ?_)
    obtain ⟨hS2, h⟩ := h
    refine ⟨fun hc => ?_, fun hc => ?_⟩
    · replace h := h.1 hc
      refine ⟨(hS2.is ⟨by decide, by decide⟩ rfl), ?_⟩
      intro S4 eS4
      replace h := h S4 eS4
      have hS4 : shM S4 := by rw [eS4]; exact hS2
      exact h
    · replace h := h.2 hc
      refine ⟨(hS2.is ⟨by decide, by decide⟩ rfl), ?_⟩
      refine fx_cons h (fx_qi_m fun x6 S5 h => ?_)
      obtain ⟨hS5, h⟩ := h
      refine ⟨fun hc => ?_, fun hc => ?_⟩
      · replace h := h.1 hc
        refine ⟨(hS5.is ⟨by decide, by decide⟩ rfl), ?_⟩
        refine fx_cons h (fx_qi_m fun x8 S7 h => ?_)
        obtain ⟨hS7, h⟩ := h
        exact h
      · replace h := h.2 hc
        refine ⟨(hS5.is ⟨by decide, by decide⟩ rfl), ?_⟩
        intro S9 eS9
        replace h := h S9 eS9
        have hS9 : shM S9 := by rw [eS9]; exact hS5
        exact h
theorem bs_M_move_84 {G : fx_G} {S : fx_S} {Q : fx_R → fx_S → Prop} (hS : shM S) (v1 : Int32) (v2 : Int32) (v4 : Int32) (v5 : Int32)  (h : (64 ≤ v5 → vp_in 1 64 ∧ ∀ S3, S3 = fx_setI S 90 ((1 : Int32).toNatClampNeg) v2 → vp_in 8 64 ∧ ∀ S6, S6 = fx_setI S3 85 9 (10 + (fx_I S3 90 ((8 : Int32).toNatClampNeg))) → fx_Go G (1, 15) mm_M_store 0 [(0, fx_r G 85), (1, .int v1)] [] S6 (fx_qi (fun x8 S7 => shM S7 ∧ (x8 = 0 → fx_Go G (6, 92) mm_M_move 166 [(0, fx_r G 85), (1, .int v1), (2, .int v2), (5, .int x8)] [] S7 Q) ∧ (¬ x8 = 0 → fx_Go G (3, 50) mm_M_takeList 0 [(0, fx_r G 85), (1, .int v4), (2, .int v1)] [] S7 (fx_qv (fun S9 => shM S9 ∧ fx_Go G (0, 0) mm_M_byteOf 0 [(0, fx_r G 85), (1, .int v4), (2, .int 1)] [] S9 (fx_qi (fun x11 S10 => shM S10 ∧ fx_Go G (4, 60) mm_M_storeList 0 [(0, fx_r G 85), (1, .int v4), (2, .int x11)] [] S10 (fx_qi (fun x13 S12 => shM S12 ∧ fx_Go G (6, 92) mm_M_move 166 [(0, fx_r G 85), (1, .int v1), (2, .int v2), (5, .int x13)] [] S12 Q) Q)) Q)) Q))) Q)) ∧ (¬ 64 ≤ v5 → fx_Go G (0, 0) mm_M_byteOf 0 [(0, fx_r G 85), (1, .int v1), (2, .int v5)] [] S (fx_qi (fun x16 S15 => shM S15 ∧ vp_in v5 64 ∧ ∀ S18, S18 = fx_setI S15 90 (v5.toNatClampNeg) x16 → fx_Go G (6, 92) mm_M_move 84 [(0, fx_r G 85), (1, .int v1), (2, .int v2), (4, .int v4), (5, .int (v5 + Int32.ofInt 1))] [] S18 Q) Q))) :
    fx_Go G (6, 92) mm_M_move 84 [(0, fx_r G 85), (1, .int v1), (2, .int v2), (4, .int v4), (5, .int v5)] [] S Q := by
  refine bk_M_move_84 85 v1 v2 v4 v5 ?_
  refine ⟨fun hc => ?_, fun hc => ?_⟩
  · replace h := h.1 hc
    refine ⟨(hS.is ⟨by decide, by decide⟩ rfl), ?_⟩
    refine ⟨_, (hS.P ⟨by decide, by decide⟩ rfl), ?_⟩
    refine ⟨(hS.is ⟨by decide, by decide⟩ rfl), ?_⟩
    obtain ⟨w2, h⟩ := h
    refine ⟨(hS.vin ⟨by decide, by decide⟩ rfl w2), ?_⟩
    intro S3 eS3
    replace h := h S3 eS3
    have hS3 : shM S3 := by rw [eS3]; exact hS
    refine ⟨_, (hS3.P ⟨by decide, by decide⟩ rfl), ?_⟩
    refine ⟨(hS3.is ⟨by decide, by decide⟩ rfl), ?_⟩
    obtain ⟨w5, h⟩ := h
    refine ⟨(hS3.vin ⟨by decide, by decide⟩ rfl w5), ?_⟩
    intro S6 eS6
    replace h := h S6 eS6
    have hS6 : shM S6 := by rw [eS6]; exact hS3
    refine fx_cons h (fx_qi_m fun x8 S7 h => ?_)
    obtain ⟨hS7, h⟩ := h
    refine ⟨fun hc => ?_, fun hc => ?_⟩
    · replace h := h.1 hc
      exact h
    · replace h := h.2 hc
      refine ⟨(hS7.is ⟨by decide, by decide⟩ rfl), ?_⟩
      refine fx_cons h (fx_qv_m fun S9 h => ?_)
      obtain ⟨hS9, h⟩ := h
      refine ⟨(hS9.is ⟨by decide, by decide⟩ rfl), ?_⟩
      refine fx_cons h (fx_qi_m fun x11 S10 h => ?_)
      obtain ⟨hS10, h⟩ := h
      refine ⟨(hS10.is ⟨by decide, by decide⟩ rfl), ?_⟩
      refine fx_cons h (fx_qi_m fun x13 S12 h => ?_)
      obtain ⟨hS12, h⟩ := h
      exact h
  · replace h := h.2 hc
    refine ⟨(hS.is ⟨by decide, by decide⟩ rfl), ?_⟩
    refine ⟨_, (hS.P ⟨by decide, by decide⟩ rfl), ?_⟩
    refine fx_cons h (fx_qi_m fun x16 S15 h => ?_)
    obtain ⟨hS15, h⟩ := h
    refine ⟨(hS15.is ⟨by decide, by decide⟩ rfl), ?_⟩
    obtain ⟨w17, h⟩ := h
    refine ⟨(hS15.vin ⟨by decide, by decide⟩ rfl w17), ?_⟩
    intro S18 eS18
    replace h := h S18 eS18
    have hS18 : shM S18 := by rw [eS18]; exact hS15
    exact h
theorem bs_M_move_166 {G : fx_G} {S : fx_S} {Q : fx_R → fx_S → Prop} (hS : shM S) (v1 : Int32) (v2 : Int32) (v5 : Int32)  (h : (v5 = 0 → (¬ v5 = 0 → Q (.inl none) S) ∧ (v5 = 0 → ∀ S1, S1 = fx_setI S 85 0 1 → Q (.inl none) S1)) ∧ (¬ v5 = 0 → fx_Go G (3, 50) mm_M_takeList 0 [(0, fx_r G 85), (1, .int v2), (2, .int (-1))] [] S (fx_qv (fun S2 => shM S2 ∧ fx_Go G (5, 76) mm_M_join 0 [(0, fx_r G 85), (1, .int v1)] [] S2 (fx_qv (fun S3 => shM S3 ∧ fx_Go G (0, 0) mm_M_byteOf 0 [(0, fx_r G 85), (1, .int v2), (2, .int 1)] [] S3 (fx_qi (fun x5 S4 => shM S4 ∧ fx_Go G (4, 60) mm_M_storeList 0 [(0, fx_r G 85), (1, .int v2), (2, .int x5)] [] S4 (fx_qi (fun x7 S6 => shM S6 ∧ (¬ x7 = 0 → Q (.inl none) S6) ∧ (x7 = 0 → ∀ S8, S8 = fx_setI S6 85 0 1 → Q (.inl none) S8)) Q)) Q)) Q)) Q))) :
    fx_Go G (6, 92) mm_M_move 166 [(0, fx_r G 85), (1, .int v1), (2, .int v2), (5, .int v5)] [] S Q := by
  refine bk_M_move_166 85 v1 v2 v5 ?_
  refine ⟨fun hc => ?_, fun hc => ?_⟩
  · replace h := h.1 hc
    refine ⟨fun hc => ?_, fun hc => ?_⟩
    · replace h := h.1 hc
      exact h
    · replace h := h.2 hc
      refine ⟨(hS.is ⟨by decide, by decide⟩ rfl), ?_⟩
      intro S1 eS1
      replace h := h S1 eS1
      have hS1 : shM S1 := by rw [eS1]; exact hS
      exact h
  · replace h := h.2 hc
    refine ⟨(hS.is ⟨by decide, by decide⟩ rfl), ?_⟩
    refine fx_cons h (fx_qv_m fun S2 h => ?_)
    obtain ⟨hS2, h⟩ := h
    refine ⟨(hS2.is ⟨by decide, by decide⟩ rfl), ?_⟩
    refine fx_cons h (fx_qv_m fun S3 h => ?_)
    obtain ⟨hS3, h⟩ := h
    refine ⟨(hS3.is ⟨by decide, by decide⟩ rfl), ?_⟩
    refine fx_cons h (fx_qi_m fun x5 S4 h => ?_)
    obtain ⟨hS4, h⟩ := h
    refine ⟨(hS4.is ⟨by decide, by decide⟩ rfl), ?_⟩
    refine fx_cons h (fx_qi_m fun x7 S6 h => ?_)
    obtain ⟨hS6, h⟩ := h
    refine ⟨fun hc => ?_, fun hc => ?_⟩
    · replace h := h.1 hc
      exact h
    · replace h := h.2 hc
      refine ⟨(hS6.is ⟨by decide, by decide⟩ rfl), ?_⟩
      intro S8 eS8
      replace h := h S8 eS8
      have hS8 : shM S8 := by rw [eS8]; exact hS6
      exact h
theorem bs_M_lowestFree_0 {G : fx_G} {S : fx_S} {Q : fx_R → fx_S → Prop} (hS : shM S)   (h : fx_Go G (0, 0) mm_M_lowestFree 3 [(0, fx_r G 85), (1, .int 48)] [] S Q) :
    fx_Go G (0, 0) mm_M_lowestFree 0 [(0, fx_r G 85)] [] S Q := by
  refine bk_M_lowestFree_0 85 ?_
  exact h
theorem bs_M_lowestFree_3 {G : fx_G} {S : fx_S} {Q : fx_R → fx_S → Prop} (hS : shM S) (v1 : Int32)  (h : (128 ≤ v1 → (128 ≤ v1 → Q (.inl (some (.int (-1)))) S) ∧ (¬ 128 ≤ v1 → Q (.inl (some (.int v1))) S)) ∧ (¬ 128 ≤ v1 → vp_in v1 128 ∧ ((fx_I S 88 (v1.toNatClampNeg)) = 0 → (128 ≤ v1 → Q (.inl (some (.int (-1)))) S) ∧ (¬ 128 ≤ v1 → Q (.inl (some (.int v1))) S)) ∧ (¬ (fx_I S 88 (v1.toNatClampNeg)) = 0 → fx_Go G (0, 0) mm_M_lowestFree 3 [(0, fx_r G 85), (1, .int (v1 + Int32.ofInt 1))] [] S Q))) :
    fx_Go G (0, 0) mm_M_lowestFree 3 [(0, fx_r G 85), (1, .int v1)] [] S Q := by
  refine bk_M_lowestFree_3 85 v1 ?_
  refine ⟨fun hc => ?_, fun hc => ?_⟩
  · replace h := h.1 hc
    refine ⟨fun hc => ?_, fun hc => ?_⟩
    · replace h := h.1 hc
      exact h
    · replace h := h.2 hc
      exact h
  · replace h := h.2 hc
    refine ⟨(hS.is ⟨by decide, by decide⟩ rfl), ?_⟩
    refine ⟨_, (hS.P ⟨by decide, by decide⟩ rfl), ?_⟩
    refine ⟨(hS.is ⟨by decide, by decide⟩ rfl), ?_⟩
    obtain ⟨w2, h⟩ := h
    refine ⟨(hS.vin ⟨by decide, by decide⟩ rfl w2), ?_⟩
    refine ⟨fun hc => ?_, fun hc => ?_⟩
    · replace h := h.1 hc
      refine ⟨fun hc => ?_, fun hc => ?_⟩
      · replace h := h.1 hc
        exact h
      · replace h := h.2 hc
        exact h
    · replace h := h.2 hc
      exact h
theorem bs_M_freeClusters_0 {G : fx_G} {S : fx_S} {Q : fx_R → fx_S → Prop} (hS : shM S)   (h : fx_Go G (0, 0) mm_M_freeClusters 5 [(0, fx_r G 85), (1, .int 0), (2, .int 48)] [] S Q) :
    fx_Go G (0, 0) mm_M_freeClusters 0 [(0, fx_r G 85)] [] S Q := by
  refine bk_M_freeClusters_0 85 ?_
  exact h
theorem bs_M_freeClusters_5 {G : fx_G} {S : fx_S} {Q : fx_R → fx_S → Prop} (hS : shM S) (v1 : Int32) (v2 : Int32)  (h : (128 ≤ v2 → Q (.inl (some (.int v1))) S) ∧ (¬ 128 ≤ v2 → vp_in v2 128 ∧ ((fx_I S 88 (v2.toNatClampNeg)) = 0 → fx_Go G (0, 0) mm_M_freeClusters 5 [(0, fx_r G 85), (1, .int (v1 + 1)), (2, .int (v2 + Int32.ofInt 1))] [] S Q) ∧ (¬ (fx_I S 88 (v2.toNatClampNeg)) = 0 → fx_Go G (0, 0) mm_M_freeClusters 5 [(0, fx_r G 85), (1, .int v1), (2, .int (v2 + Int32.ofInt 1))] [] S Q))) :
    fx_Go G (0, 0) mm_M_freeClusters 5 [(0, fx_r G 85), (1, .int v1), (2, .int v2)] [] S Q := by
  refine bk_M_freeClusters_5 85 v1 v2 ?_
  refine ⟨fun hc => ?_, fun hc => ?_⟩
  · replace h := h.1 hc
    exact h
  · replace h := h.2 hc
    refine ⟨(hS.is ⟨by decide, by decide⟩ rfl), ?_⟩
    refine ⟨_, (hS.P ⟨by decide, by decide⟩ rfl), ?_⟩
    refine ⟨(hS.is ⟨by decide, by decide⟩ rfl), ?_⟩
    obtain ⟨w2, h⟩ := h
    refine ⟨(hS.vin ⟨by decide, by decide⟩ rfl w2), ?_⟩
    refine ⟨fun hc => ?_, fun hc => ?_⟩
    · replace h := h.1 hc
      exact h
    · replace h := h.2 hc
      exact h
theorem bs_M_clustersOf_0 {G : fx_G} {S : fx_S} {Q : fx_R → fx_S → Prop} (hS : shM S) (v0 : Int32)  (h : Q (.inl (some (.int ((v0 + 15) / 16)))) S) :
    fx_Go G (0, 0) mm_M_clustersOf 0 [(0, .int v0)] [] S Q := by
  refine bk_M_clustersOf_0 v0 ?_
  exact h
theorem bs_M_meets_0 {G : fx_G} {S : fx_S} {Q : fx_R → fx_S → Prop} (hS : shM S) (v0 : Int32) (v1 : Int32) (v2 : Int32)  (h : (v2 ≤ (16 * v0) → Q (.inl (some (.int 0))) S) ∧ (¬ v2 ≤ (16 * v0) → (((16 * v0) + 16) ≤ v1 → Q (.inl (some (.int 0))) S) ∧ (¬ ((16 * v0) + 16) ≤ v1 → Q (.inl (some (.int 1))) S))) :
    fx_Go G (0, 0) mm_M_meets 0 [(0, .int v0), (1, .int v1), (2, .int v2)] [] S Q := by
  refine bk_M_meets_0 v0 v1 v2 ?_
  refine ⟨fun hc => ?_, fun hc => ?_⟩
  · replace h := h.1 hc
    exact h
  · replace h := h.2 hc
    refine ⟨fun hc => ?_, fun hc => ?_⟩
    · replace h := h.1 hc
      exact h
    · replace h := h.2 hc
      exact h
theorem bs_M_give_0 {G : fx_G} {S : fx_S} {Q : fx_R → fx_S → Prop} (hS : shM S) (v1 : Int32) (v2 : Int32) (v3 : Int32)  (h : fx_Go G (1, 16) mm_M_give 6 [(0, fx_r G 85), (1, .int v1), (2, .int v2), (3, .int v3), (4, .int 0), (5, .int 0)] [] S Q) :
    fx_Go G (1, 16) mm_M_give 0 [(0, fx_r G 85), (1, .int v1), (2, .int v2), (3, .int v3)] [] S Q := by
  refine bk_M_give_0 85 v1 v2 v3 ?_
  exact h
theorem bs_M_give_6 {G : fx_G} {S : fx_S} {Q : fx_R → fx_S → Prop} (hS : shM S) (v1 : Int32) (v2 : Int32) (v3 : Int32) (v4 : Int32) (v5 : Int32)  (h : ((fx_I S 85 10) ≤ v5 → fx_Go G (0, 0) mm_M_freeClusters 0 [(0, fx_r G 85)] [] S (fx_qi (fun x2 S1 => shM S1 ∧ (v4 ≤ x2 → fx_Go G (1, 16) mm_M_give 100 [(0, fx_r G 85), (5, .int 0)] [] S1 Q) ∧ (¬ v4 ≤ x2 → Q (.inl (some (.int 0))) S1)) Q)) ∧ (¬ (fx_I S 85 10) ≤ v5 → vp_in v5 64 ∧ (0 ≤ (fx_I S 91 (v5.toNatClampNeg)) → fx_Go G (1, 16) mm_M_give 58 [(0, fx_r G 85), (1, .int v1), (2, .int v2), (3, .int v3), (4, .int v4), (5, .int v5)] [.int 0, .int v5, fx_r G 92] S Q) ∧ (¬ 0 ≤ (fx_I S 91 (v5.toNatClampNeg)) → fx_Go G (0, 0) mm_M_meets 0 [(0, .int v5), (1, .int v2), (2, .int (v2 + v3))] [] S (fx_qi (fun x7 S6 => shM S6 ∧ (¬ x7 = 0 → fx_Go G (1, 16) mm_M_give 58 [(0, fx_r G 85), (1, .int v1), (2, .int v2), (3, .int v3), (4, .int v4), (5, .int v5)] [.int 1, .int v5, fx_r G 92] S6 Q) ∧ (x7 = 0 → fx_Go G (0, 0) mm_M_meets 0 [(0, .int v5), (1, .int 0), (2, .int v1)] [] S6 (fx_qi (fun x9 S8 => shM S8 ∧ (x9 = 0 → fx_Go G (1, 16) mm_M_give 58 [(0, fx_r G 85), (1, .int v1), (2, .int v2), (3, .int v3), (4, .int v4), (5, .int v5)] [.int 0, .int v5, fx_r G 92] S8 Q) ∧ (¬ x9 = 0 → fx_Go G (1, 16) mm_M_give 58 [(0, fx_r G 85), (1, .int v1), (2, .int v2), (3, .int v3), (4, .int v4), (5, .int v5)] [.int 1, .int v5, fx_r G 92] S8 Q)) Q))) Q)))) :
    fx_Go G (1, 16) mm_M_give 6 [(0, fx_r G 85), (1, .int v1), (2, .int v2), (3, .int v3), (4, .int v4), (5, .int v5)] [] S Q := by
  refine bk_M_give_6 85 v1 v2 v3 v4 v5 ?_
  refine ⟨(hS.is ⟨by decide, by decide⟩ rfl), ?_⟩
  refine ⟨fun hc => ?_, fun hc => ?_⟩
  · replace h := h.1 hc
    refine fx_cons h (fx_qi_m fun x2 S1 h => ?_)
    obtain ⟨hS1, h⟩ := h
    refine ⟨fun hc => ?_, fun hc => ?_⟩
    · replace h := h.1 hc
      exact h
    · replace h := h.2 hc
      exact h
  · replace h := h.2 hc
    refine ⟨_, (hS.P ⟨by decide, by decide⟩ rfl), ?_⟩
    refine ⟨_, (hS.P ⟨by decide, by decide⟩ rfl), ?_⟩
    refine ⟨(hS.is ⟨by decide, by decide⟩ rfl), ?_⟩
    obtain ⟨w5, h⟩ := h
    refine ⟨(hS.vin ⟨by decide, by decide⟩ rfl w5), ?_⟩
    refine ⟨fun hc => ?_, fun hc => ?_⟩
    · replace h := h.1 hc
      exact h
    · replace h := h.2 hc
      refine fx_cons h (fx_qi_m fun x7 S6 h => ?_)
      obtain ⟨hS6, h⟩ := h
      refine ⟨fun hc => ?_, fun hc => ?_⟩
      · replace h := h.1 hc
        exact h
      · replace h := h.2 hc
        refine fx_cons h (fx_qi_m fun x9 S8 h => ?_)
        obtain ⟨hS8, h⟩ := h
        refine ⟨fun hc => ?_, fun hc => ?_⟩
        · replace h := h.1 hc
          exact h
        · replace h := h.2 hc
          exact h
theorem bs_M_give_58 {G : fx_G} {S : fx_S} {Q : fx_R → fx_S → Prop} (hS : shM S) (v1 : Int32) (v2 : Int32) (v3 : Int32) (v4 : Int32) (v5 : Int32) (z0 : Int32) (z1 : Int32)  (h : vp_in z1 64 ∧ ∀ S2, S2 = fx_setI S 92 (z1.toNatClampNeg) (vp_nar .boolean z0) → vp_in v5 64 ∧ ((fx_I S2 92 (v5.toNatClampNeg)) = 0 → fx_Go G (1, 16) mm_M_give 6 [(0, fx_r G 85), (1, .int v1), (2, .int v2), (3, .int v3), (4, .int v4), (5, .int (v5 + Int32.ofInt 1))] [] S2 Q) ∧ (¬ (fx_I S2 92 (v5.toNatClampNeg)) = 0 → fx_Go G (1, 16) mm_M_give 6 [(0, fx_r G 85), (1, .int v1), (2, .int v2), (3, .int v3), (4, .int (v4 + 1)), (5, .int (v5 + Int32.ofInt 1))] [] S2 Q)) :
    fx_Go G (1, 16) mm_M_give 58 [(0, fx_r G 85), (1, .int v1), (2, .int v2), (3, .int v3), (4, .int v4), (5, .int v5)] [.int z0, .int z1, fx_r G 92] S Q := by
  refine bk_M_give_58 85 v1 v2 v3 v4 v5 z0 z1 92 ?_
  refine ⟨(hS.is ⟨by decide, by decide⟩ rfl), ?_⟩
  obtain ⟨w1, h⟩ := h
  refine ⟨(hS.vin ⟨by decide, by decide⟩ rfl w1), ?_⟩
  intro S2 eS2
  replace h := h S2 eS2
  have hS2 : shM S2 := by rw [eS2]; exact hS
  refine ⟨(hS2.is ⟨by decide, by decide⟩ rfl), ?_⟩
  refine ⟨_, (hS2.P ⟨by decide, by decide⟩ rfl), ?_⟩
  refine ⟨(hS2.is ⟨by decide, by decide⟩ rfl), ?_⟩
  obtain ⟨w4, h⟩ := h
  refine ⟨(hS2.vin ⟨by decide, by decide⟩ rfl w4), ?_⟩
  refine ⟨fun hc => ?_, fun hc => ?_⟩
  · replace h := h.1 hc
    exact h
  · replace h := h.2 hc
    exact h
theorem bs_M_give_100 {G : fx_G} {S : fx_S} {Q : fx_R → fx_S → Prop} (hS : shM S) (v5 : Int32)  (h : ((fx_I S 85 10) ≤ v5 → Q (.inl (some (.int 1))) S) ∧ (¬ (fx_I S 85 10) ≤ v5 → vp_in v5 64 ∧ (¬ (fx_I S 92 (v5.toNatClampNeg)) = 0 → fx_Go G (0, 0) mm_M_lowestFree 0 [(0, fx_r G 85)] [] S (fx_qi (fun x5 S4 => shM S4 ∧ vp_in v5 64 ∧ ∀ S7, S7 = fx_setI S4 91 (v5.toNatClampNeg) x5 → vp_in v5 64 ∧ vp_in (fx_I S7 91 (v5.toNatClampNeg)) 128 ∧ ∀ S12, S12 = fx_setI S7 88 ((fx_I S7 91 (v5.toNatClampNeg)).toNatClampNeg) (vp_nar .boolean 1) → fx_Go G (1, 16) mm_M_give 100 [(0, fx_r G 85), (5, .int (v5 + Int32.ofInt 1))] [] S12 Q) Q)) ∧ ((fx_I S 92 (v5.toNatClampNeg)) = 0 → fx_Go G (1, 16) mm_M_give 100 [(0, fx_r G 85), (5, .int (v5 + Int32.ofInt 1))] [] S Q))) :
    fx_Go G (1, 16) mm_M_give 100 [(0, fx_r G 85), (5, .int v5)] [] S Q := by
  refine bk_M_give_100 85 v5 ?_
  refine ⟨(hS.is ⟨by decide, by decide⟩ rfl), ?_⟩
  refine ⟨fun hc => ?_, fun hc => ?_⟩
  · replace h := h.1 hc
    exact h
  · replace h := h.2 hc
    refine ⟨_, (hS.P ⟨by decide, by decide⟩ rfl), ?_⟩
    refine ⟨(hS.is ⟨by decide, by decide⟩ rfl), ?_⟩
    obtain ⟨w2, h⟩ := h
    refine ⟨(hS.vin ⟨by decide, by decide⟩ rfl w2), ?_⟩
    refine ⟨fun hc => ?_, fun hc => ?_⟩
    · replace h := h.1 hc
      refine ⟨_, (hS.P ⟨by decide, by decide⟩ rfl), ?_⟩
      refine fx_cons h (fx_qi_m fun x5 S4 h => ?_)
      obtain ⟨hS4, h⟩ := h
      refine ⟨(hS4.is ⟨by decide, by decide⟩ rfl), ?_⟩
      obtain ⟨w6, h⟩ := h
      refine ⟨(hS4.vin ⟨by decide, by decide⟩ rfl w6), ?_⟩
      intro S7 eS7
      replace h := h S7 eS7
      have hS7 : shM S7 := by rw [eS7]; exact hS4
      refine ⟨(hS7.is ⟨by decide, by decide⟩ rfl), ?_⟩
      refine ⟨_, (hS7.P ⟨by decide, by decide⟩ rfl), ?_⟩
      refine ⟨_, (hS7.P ⟨by decide, by decide⟩ rfl), ?_⟩
      refine ⟨(hS7.is ⟨by decide, by decide⟩ rfl), ?_⟩
      obtain ⟨w10, h⟩ := h
      refine ⟨(hS7.vin ⟨by decide, by decide⟩ rfl w10), ?_⟩
      refine ⟨(hS7.is ⟨by decide, by decide⟩ rfl), ?_⟩
      obtain ⟨w11, h⟩ := h
      refine ⟨(hS7.vin ⟨by decide, by decide⟩ rfl w11), ?_⟩
      intro S12 eS12
      replace h := h S12 eS12
      have hS12 : shM S12 := by rw [eS12]; exact hS7
      exact h
    · replace h := h.2 hc
      exact h
theorem bs_M_takeBack_0 {G : fx_G} {S : fx_S} {Q : fx_R → fx_S → Prop} (hS : shM S)   (h : fx_Go G (0, 0) mm_M_takeBack 2 [(0, fx_r G 85), (1, .int 0)] [] S Q) :
    fx_Go G (0, 0) mm_M_takeBack 0 [(0, fx_r G 85)] [] S Q := by
  refine bk_M_takeBack_0 85 ?_
  exact h
theorem bs_M_takeBack_2 {G : fx_G} {S : fx_S} {Q : fx_R → fx_S → Prop} (hS : shM S) (v1 : Int32)  (h : ((fx_I S 85 10) ≤ v1 → Q (.inl none) S) ∧ (¬ (fx_I S 85 10) ≤ v1 → vp_in v1 64 ∧ ((fx_I S 92 (v1.toNatClampNeg)) = 0 → fx_Go G (0, 0) mm_M_takeBack 2 [(0, fx_r G 85), (1, .int (v1 + Int32.ofInt 1))] [] S Q) ∧ (¬ (fx_I S 92 (v1.toNatClampNeg)) = 0 → vp_in v1 64 ∧ vp_in (fx_I S 91 (v1.toNatClampNeg)) 128 ∧ ∀ S7, S7 = fx_setI S 88 ((fx_I S 91 (v1.toNatClampNeg)).toNatClampNeg) (vp_nar .boolean 0) → fx_Go G (0, 0) mm_M_takeBack 2 [(0, fx_r G 85), (1, .int (v1 + Int32.ofInt 1))] [] S7 Q))) :
    fx_Go G (0, 0) mm_M_takeBack 2 [(0, fx_r G 85), (1, .int v1)] [] S Q := by
  refine bk_M_takeBack_2 85 v1 ?_
  refine ⟨(hS.is ⟨by decide, by decide⟩ rfl), ?_⟩
  refine ⟨fun hc => ?_, fun hc => ?_⟩
  · replace h := h.1 hc
    exact h
  · replace h := h.2 hc
    refine ⟨_, (hS.P ⟨by decide, by decide⟩ rfl), ?_⟩
    refine ⟨(hS.is ⟨by decide, by decide⟩ rfl), ?_⟩
    obtain ⟨w2, h⟩ := h
    refine ⟨(hS.vin ⟨by decide, by decide⟩ rfl w2), ?_⟩
    refine ⟨fun hc => ?_, fun hc => ?_⟩
    · replace h := h.1 hc
      exact h
    · replace h := h.2 hc
      refine ⟨_, (hS.P ⟨by decide, by decide⟩ rfl), ?_⟩
      refine ⟨_, (hS.P ⟨by decide, by decide⟩ rfl), ?_⟩
      refine ⟨(hS.is ⟨by decide, by decide⟩ rfl), ?_⟩
      obtain ⟨w5, h⟩ := h
      refine ⟨(hS.vin ⟨by decide, by decide⟩ rfl w5), ?_⟩
      refine ⟨(hS.is ⟨by decide, by decide⟩ rfl), ?_⟩
      obtain ⟨w6, h⟩ := h
      refine ⟨(hS.vin ⟨by decide, by decide⟩ rfl w6), ?_⟩
      intro S7 eS7
      replace h := h S7 eS7
      have hS7 : shM S7 := by rw [eS7]; exact hS
      exact h
theorem bs_M_place_0 {G : fx_G} {S : fx_S} {Q : fx_R → fx_S → Prop} (hS : shM S) (v1 : Int32) (v2 : Int32)  (h : vp_in (v1 / 16) 64 ∧ ((fx_I S 91 ((v1 / 16).toNatClampNeg)) < 0 → Q (.inl none) S) ∧ (¬ (fx_I S 91 ((v1 / 16).toNatClampNeg)) < 0 → vp_in (v1 / 16) 64 ∧ vp_in ((16 * (fx_I S 91 ((v1 / 16).toNatClampNeg))) + (v1 - v1 / 16 * 16)) 2048 ∧ ∀ S7, S7 = fx_setI S 86 (((16 * (fx_I S 91 ((v1 / 16).toNatClampNeg))) + (v1 - v1 / 16 * 16)).toNatClampNeg) v2 → Q (.inl none) S7)) :
    fx_Go G (0, 0) mm_M_place 0 [(0, fx_r G 85), (1, .int v1), (2, .int v2)] [] S Q := by
  refine bk_M_place_0 85 v1 v2 ?_
  refine ⟨(hS.is ⟨by decide, by decide⟩ rfl), ?_⟩
  refine ⟨_, (hS.P ⟨by decide, by decide⟩ rfl), ?_⟩
  refine ⟨(hS.is ⟨by decide, by decide⟩ rfl), ?_⟩
  obtain ⟨w2, h⟩ := h
  refine ⟨(hS.vin ⟨by decide, by decide⟩ rfl w2), ?_⟩
  refine ⟨fun hc => ?_, fun hc => ?_⟩
  · replace h := h.1 hc
    exact h
  · replace h := h.2 hc
    refine ⟨_, (hS.P ⟨by decide, by decide⟩ rfl), ?_⟩
    refine ⟨_, (hS.P ⟨by decide, by decide⟩ rfl), ?_⟩
    refine ⟨(hS.is ⟨by decide, by decide⟩ rfl), ?_⟩
    obtain ⟨w5, h⟩ := h
    refine ⟨(hS.vin ⟨by decide, by decide⟩ rfl w5), ?_⟩
    refine ⟨(hS.is ⟨by decide, by decide⟩ rfl), ?_⟩
    obtain ⟨w6, h⟩ := h
    refine ⟨(hS.vin ⟨by decide, by decide⟩ rfl w6), ?_⟩
    intro S7 eS7
    replace h := h S7 eS7
    have hS7 : shM S7 := by rw [eS7]; exact hS
    exact h
theorem bs_M_writeOutside_0 {G : fx_G} {S : fx_S} {Q : fx_R → fx_S → Prop} (hS : shM S) (v1 : Int32) (v2 : Int32) (v3 : Int32) (v4 : Int32)  (h : fx_Go G (2, 32) mm_M_sizeOf 0 [(0, fx_r G 85), (1, .int v1)] [] S (fx_qi (fun x2 S1 => shM S1 ∧ ((v2 + v3) ≤ x2 → fx_Go G (4, 60) mm_M_writeOutside 23 [(0, fx_r G 85), (1, .int v1), (2, .int v2), (3, .int v3), (4, .int v4), (5, .int x2)] [.int x2] S1 Q) ∧ (¬ (v2 + v3) ≤ x2 → fx_Go G (4, 60) mm_M_writeOutside 23 [(0, fx_r G 85), (1, .int v1), (2, .int v2), (3, .int v3), (4, .int v4), (5, .int x2)] [.int (v2 + v3)] S1 Q)) Q)) :
    fx_Go G (4, 60) mm_M_writeOutside 0 [(0, fx_r G 85), (1, .int v1), (2, .int v2), (3, .int v3), (4, .int v4)] [] S Q := by
  refine bk_M_writeOutside_0 85 v1 v2 v3 v4 ?_
  refine ⟨(hS.is ⟨by decide, by decide⟩ rfl), ?_⟩
  refine fx_cons h (fx_qi_m fun x2 S1 h => ?_)
  obtain ⟨hS1, h⟩ := h
  refine ⟨fun hc => ?_, fun hc => ?_⟩
  · replace h := h.1 hc
    exact h
  · replace h := h.2 hc
    exact h
theorem bs_M_writeOutside_23 {G : fx_G} {S : fx_S} {Q : fx_R → fx_S → Prop} (hS : shM S) (v1 : Int32) (v2 : Int32) (v3 : Int32) (v4 : Int32) (v5 : Int32) (z0 : Int32)  (h : fx_Go G (2, 32) mm_M_isInside 0 [(0, fx_r G 85), (1, .int v1)] [] S (fx_qi (fun x2 S1 => shM S1 ∧ (x2 = 0 → fx_Go G (4, 60) mm_M_writeOutside 48 [(0, fx_r G 85), (1, .int v1), (2, .int v2), (3, .int v3), (4, .int v4), (5, .int v5), (6, .int z0), (8, .int 0), (9, .int 0)] [] S1 Q) ∧ (¬ x2 = 0 → fx_Go G (4, 60) mm_M_writeOutside 48 [(0, fx_r G 85), (1, .int v1), (2, .int v2), (3, .int v3), (4, .int v4), (5, .int v5), (6, .int z0), (8, .int v5), (9, .int 0)] [] S1 Q)) Q)) :
    fx_Go G (4, 60) mm_M_writeOutside 23 [(0, fx_r G 85), (1, .int v1), (2, .int v2), (3, .int v3), (4, .int v4), (5, .int v5)] [.int z0] S Q := by
  refine bk_M_writeOutside_23 85 v1 v2 v3 v4 v5 z0 ?_
  refine ⟨(hS.is ⟨by decide, by decide⟩ rfl), ?_⟩
  refine fx_cons h (fx_qi_m fun x2 S1 h => ?_)
  obtain ⟨hS1, h⟩ := h
  refine ⟨fun hc => ?_, fun hc => ?_⟩
  · replace h := h.1 hc
    exact h
  · replace h := h.2 hc
    exact h
theorem bs_M_writeOutside_48 {G : fx_G} {S : fx_S} {Q : fx_R → fx_S → Prop} (hS : shM S) (v1 : Int32) (v2 : Int32) (v3 : Int32) (v4 : Int32) (v5 : Int32) (v6 : Int32) (v8 : Int32) (v9 : Int32)  (h : (v8 ≤ v9 → fx_Go G (2, 32) mm_M_loadMap 0 [(0, fx_r G 85), (1, .int v1)] [] S (fx_qv (fun S1 => shM S1 ∧ fx_Go G (4, 60) mm_M_writeOutside 95 [(0, fx_r G 85), (1, .int v1), (2, .int v2), (3, .int v3), (4, .int v4), (5, .int v5), (6, .int v6), (8, .int v8), (9, .int (fx_I S1 85 10))] [] S1 Q) Q)) ∧ (¬ v8 ≤ v9 → fx_Go G (1, 16) mm_M_attribute 0 [(0, fx_r G 85), (1, .int v1), (2, .int 2)] [] S (fx_qi (fun x4 S3 => shM S3 ∧ fx_Go G (0, 0) mm_M_byteOf 0 [(0, fx_r G 85), (1, .int v1), (2, .int ((x4 + 2) + v9))] [] S3 (fx_qi (fun x6 S5 => shM S5 ∧ vp_in v9 64 ∧ ∀ S8, S8 = fx_setI S5 93 (v9.toNatClampNeg) x6 → fx_Go G (4, 60) mm_M_writeOutside 48 [(0, fx_r G 85), (1, .int v1), (2, .int v2), (3, .int v3), (4, .int v4), (5, .int v5), (6, .int v6), (8, .int v8), (9, .int (v9 + Int32.ofInt 1))] [] S8 Q) Q)) Q))) :
    fx_Go G (4, 60) mm_M_writeOutside 48 [(0, fx_r G 85), (1, .int v1), (2, .int v2), (3, .int v3), (4, .int v4), (5, .int v5), (6, .int v6), (8, .int v8), (9, .int v9)] [] S Q := by
  refine bk_M_writeOutside_48 85 v1 v2 v3 v4 v5 v6 v8 v9 ?_
  refine ⟨fun hc => ?_, fun hc => ?_⟩
  · replace h := h.1 hc
    refine ⟨(hS.is ⟨by decide, by decide⟩ rfl), ?_⟩
    refine fx_cons h (fx_qv_m fun S1 h => ?_)
    obtain ⟨hS1, h⟩ := h
    refine ⟨(hS1.is ⟨by decide, by decide⟩ rfl), ?_⟩
    exact h
  · replace h := h.2 hc
    refine ⟨(hS.is ⟨by decide, by decide⟩ rfl), ?_⟩
    refine ⟨_, (hS.P ⟨by decide, by decide⟩ rfl), ?_⟩
    refine fx_cons h (fx_qi_m fun x4 S3 h => ?_)
    obtain ⟨hS3, h⟩ := h
    refine ⟨(hS3.is ⟨by decide, by decide⟩ rfl), ?_⟩
    refine fx_cons h (fx_qi_m fun x6 S5 h => ?_)
    obtain ⟨hS5, h⟩ := h
    refine ⟨(hS5.is ⟨by decide, by decide⟩ rfl), ?_⟩
    obtain ⟨w7, h⟩ := h
    refine ⟨(hS5.vin ⟨by decide, by decide⟩ rfl w7), ?_⟩
    intro S8 eS8
    replace h := h S8 eS8
    have hS8 : shM S8 := by rw [eS8]; exact hS5
    exact h
theorem bs_M_writeOutside_95 {G : fx_G} {S : fx_S} {Q : fx_R → fx_S → Prop} (hS : shM S) (v1 : Int32) (v2 : Int32) (v3 : Int32) (v4 : Int32) (v5 : Int32) (v6 : Int32) (v8 : Int32) (v9 : Int32)  (h : fx_Go G (0, 0) mm_M_clustersOf 0 [(0, .int v6)] [] S (fx_qi (fun x2 S1 => shM S1 ∧ (x2 ≤ v9 → fx_Go G (0, 0) mm_M_clustersOf 0 [(0, .int v6)] [] S1 (fx_qi (fun x4 S3 => shM S3 ∧ ∀ S5, S5 = fx_setI S3 85 10 x4 → fx_Go G (1, 16) mm_M_give 0 [(0, fx_r G 85), (1, .int v8), (2, .int v2), (3, .int v3)] [] S5 (fx_qi (fun x7 S6 => shM S6 ∧ (¬ x7 = 0 → fx_Go G (0, 0) mm_M_byteOf 0 [(0, fx_r G 85), (1, .int v1), (2, .int 1)] [] S6 (fx_qi (fun x9 S8 => shM S8 ∧ fx_Go G (0, 0) mm_M_begin 0 [(0, fx_r G 85), (1, .int 1), (2, .int x9)] [] S8 (fx_qv (fun S10 => shM S10 ∧ fx_Go G (3, 45) mm_M_putName 0 [(0, fx_r G 85), (1, .int v1)] [] S10 (fx_qv (fun S11 => shM S11 ∧ fx_Go G (1, 13) mm_M_putOutside 0 [(0, fx_r G 85), (1, .int v6)] [] S11 (fx_qv (fun S12 => shM S12 ∧ ((fx_I S12 85 9) ≤ 64 → fx_Go G (4, 60) mm_M_writeOutside 189 [(0, fx_r G 85), (1, .int v1), (2, .int v2), (3, .int v3), (4, .int v4), (5, .int v5), (6, .int v6), (8, .int v8), (9, .int 0)] [] S12 Q) ∧ (¬ (fx_I S12 85 9) ≤ 64 → fx_Go G (0, 0) mm_M_takeBack 0 [(0, fx_r G 85)] [] S12 (fx_qv (fun S13 => shM S13 ∧ fx_Go G (0, 0) mm_M_refuse 0 [(0, fx_r G 85), (1, .int 3)] [] S13 (fx_qi (fun x15 S14 => shM S14 ∧ Q (.inl (some (.int x15))) S14) Q)) Q))) Q)) Q)) Q)) Q)) ∧ (x7 = 0 → fx_Go G (0, 0) mm_M_refuse 0 [(0, fx_r G 85), (1, .int 3)] [] S6 (fx_qi (fun x17 S16 => shM S16 ∧ Q (.inl (some (.int x17))) S16) Q))) Q)) Q)) ∧ (¬ x2 ≤ v9 → vp_in v9 64 ∧ ∀ S20, S20 = fx_setI S1 91 (v9.toNatClampNeg) (-1) → fx_Go G (4, 60) mm_M_writeOutside 95 [(0, fx_r G 85), (1, .int v1), (2, .int v2), (3, .int v3), (4, .int v4), (5, .int v5), (6, .int v6), (8, .int v8), (9, .int (v9 + Int32.ofInt 1))] [] S20 Q)) Q)) :
    fx_Go G (4, 60) mm_M_writeOutside 95 [(0, fx_r G 85), (1, .int v1), (2, .int v2), (3, .int v3), (4, .int v4), (5, .int v5), (6, .int v6), (8, .int v8), (9, .int v9)] [] S Q := by
  refine bk_M_writeOutside_95 85 v1 v2 v3 v4 v5 v6 v8 v9 ?_
  refine fx_cons h (fx_qi_m fun x2 S1 h => ?_)
  obtain ⟨hS1, h⟩ := h
  refine ⟨fun hc => ?_, fun hc => ?_⟩
  · replace h := h.1 hc
    refine fx_cons h (fx_qi_m fun x4 S3 h => ?_)
    obtain ⟨hS3, h⟩ := h
    refine ⟨(hS3.is ⟨by decide, by decide⟩ rfl), ?_⟩
    intro S5 eS5
    replace h := h S5 eS5
    have hS5 : shM S5 := by rw [eS5]; exact hS3
    refine fx_cons h (fx_qi_m fun x7 S6 h => ?_)
    obtain ⟨hS6, h⟩ := h
    refine ⟨fun hc => ?_, fun hc => ?_⟩
    · replace h := h.1 hc
      refine ⟨(hS6.is ⟨by decide, by decide⟩ rfl), ?_⟩
      refine fx_cons h (fx_qi_m fun x9 S8 h => ?_)
      obtain ⟨hS8, h⟩ := h
      refine ⟨(hS8.is ⟨by decide, by decide⟩ rfl), ?_⟩
      refine fx_cons h (fx_qv_m fun S10 h => ?_)
      obtain ⟨hS10, h⟩ := h
      refine ⟨(hS10.is ⟨by decide, by decide⟩ rfl), ?_⟩
      refine fx_cons h (fx_qv_m fun S11 h => ?_)
      obtain ⟨hS11, h⟩ := h
      refine ⟨(hS11.is ⟨by decide, by decide⟩ rfl), ?_⟩
      refine fx_cons h (fx_qv_m fun S12 h => ?_)
      obtain ⟨hS12, h⟩ := h
      refine ⟨(hS12.is ⟨by decide, by decide⟩ rfl), ?_⟩
      refine ⟨fun hc => ?_, fun hc => ?_⟩
      · replace h := h.1 hc
        exact h
      · replace h := h.2 hc
        refine fx_cons h (fx_qv_m fun S13 h => ?_)
        obtain ⟨hS13, h⟩ := h
        refine ⟨(hS13.is ⟨by decide, by decide⟩ rfl), ?_⟩
        refine fx_cons h (fx_qi_m fun x15 S14 h => ?_)
        obtain ⟨hS14, h⟩ := h
        exact h
    · replace h := h.2 hc
      refine ⟨(hS6.is ⟨by decide, by decide⟩ rfl), ?_⟩
      refine fx_cons h (fx_qi_m fun x17 S16 h => ?_)
      obtain ⟨hS16, h⟩ := h
      exact h
  · replace h := h.2 hc
    refine ⟨(hS1.is ⟨by decide, by decide⟩ rfl), ?_⟩
    refine ⟨_, (hS1.P ⟨by decide, by decide⟩ rfl), ?_⟩
    refine ⟨(hS1.is ⟨by decide, by decide⟩ rfl), ?_⟩
    obtain ⟨w19, h⟩ := h
    refine ⟨(hS1.vin ⟨by decide, by decide⟩ rfl w19), ?_⟩
    intro S20 eS20
    replace h := h S20 eS20
    have hS20 : shM S20 := by rw [eS20]; exact hS1
    exact h
theorem bs_M_writeOutside_189 {G : fx_G} {S : fx_S} {Q : fx_R → fx_S → Prop} (hS : shM S) (v1 : Int32) (v2 : Int32) (v3 : Int32) (v4 : Int32) (v5 : Int32) (v6 : Int32) (v8 : Int32) (v9 : Int32)  (h : ((16 * (fx_I S 85 10)) ≤ v9 → fx_Go G (1, 15) mm_M_store 0 [(0, fx_r G 85), (1, .int v1)] [] S (fx_qi (fun x2 S1 => shM S1 ∧ (x2 = 0 → fx_Go G (0, 0) mm_M_refuse 0 [(0, fx_r G 85), (1, .int 1)] [] S1 (fx_qi (fun x4 S3 => shM S3 ∧ Q (.inl (some (.int x4))) S3) Q)) ∧ (¬ x2 = 0 → Q (.inl (some (.int v6))) S1)) Q)) ∧ (¬ (16 * (fx_I S 85 10)) ≤ v9 → (v9 < v2 → fx_Go G (4, 60) mm_M_writeOutside 220 [(0, fx_r G 85), (1, .int v1), (2, .int v2), (3, .int v3), (4, .int v4), (5, .int v5), (6, .int v6), (8, .int v8), (9, .int v9)] [.int 0] S Q) ∧ (¬ v9 < v2 → ((v2 + v3) ≤ v9 → fx_Go G (4, 60) mm_M_writeOutside 220 [(0, fx_r G 85), (1, .int v1), (2, .int v2), (3, .int v3), (4, .int v4), (5, .int v5), (6, .int v6), (8, .int v8), (9, .int v9)] [.int 0] S Q) ∧ (¬ (v2 + v3) ≤ v9 → fx_Go G (4, 60) mm_M_writeOutside 220 [(0, fx_r G 85), (1, .int v1), (2, .int v2), (3, .int v3), (4, .int v4), (5, .int v5), (6, .int v6), (8, .int v8), (9, .int v9)] [.int 1] S Q)))) :
    fx_Go G (4, 60) mm_M_writeOutside 189 [(0, fx_r G 85), (1, .int v1), (2, .int v2), (3, .int v3), (4, .int v4), (5, .int v5), (6, .int v6), (8, .int v8), (9, .int v9)] [] S Q := by
  refine bk_M_writeOutside_189 85 v1 v2 v3 v4 v5 v6 v8 v9 ?_
  refine ⟨(hS.is ⟨by decide, by decide⟩ rfl), ?_⟩
  refine ⟨fun hc => ?_, fun hc => ?_⟩
  · replace h := h.1 hc
    refine fx_cons h (fx_qi_m fun x2 S1 h => ?_)
    obtain ⟨hS1, h⟩ := h
    refine ⟨fun hc => ?_, fun hc => ?_⟩
    · replace h := h.1 hc
      refine ⟨(hS1.is ⟨by decide, by decide⟩ rfl), ?_⟩
      refine fx_cons h (fx_qi_m fun x4 S3 h => ?_)
      obtain ⟨hS3, h⟩ := h
      exact h
    · replace h := h.2 hc
      exact h
  · replace h := h.2 hc
    refine ⟨fun hc => ?_, fun hc => ?_⟩
    · replace h := h.1 hc
      exact h
    · replace h := h.2 hc
      refine ⟨fun hc => ?_, fun hc => ?_⟩
      · replace h := h.1 hc
        exact h
      · replace h := h.2 hc
        exact h
theorem bs_M_writeOutside_220 {G : fx_G} {S : fx_S} {Q : fx_R → fx_S → Prop} (hS : shM S) (v1 : Int32) (v2 : Int32) (v3 : Int32) (v4 : Int32) (v5 : Int32) (v6 : Int32) (v8 : Int32) (v9 : Int32) (z0 : Int32)  (h : (z0 = 0 → (v8 ≤ v9 → (v5 ≤ v9 → fx_Go G (0, 0) mm_M_place 0 [(0, fx_r G 85), (1, .int v9), (2, .int 0)] [] S (fx_qv (fun S1 => shM S1 ∧ fx_Go G (4, 60) mm_M_writeOutside 189 [(0, fx_r G 85), (1, .int v1), (2, .int v2), (3, .int v3), (4, .int v4), (5, .int v5), (6, .int v6), (8, .int v8), (9, .int (v9 + Int32.ofInt 1))] [] S1 Q) Q)) ∧ (¬ v5 ≤ v9 → vp_in (v9 / 16) 64 ∧ ((fx_I S 92 ((v9 / 16).toNatClampNeg)) = 0 → fx_Go G (4, 60) mm_M_writeOutside 189 [(0, fx_r G 85), (1, .int v1), (2, .int v2), (3, .int v3), (4, .int v4), (5, .int v5), (6, .int v6), (8, .int v8), (9, .int (v9 + Int32.ofInt 1))] [] S Q) ∧ (¬ (fx_I S 92 ((v9 / 16).toNatClampNeg)) = 0 → fx_Go G (0, 0) mm_M_place 0 [(0, fx_r G 85), (1, .int v9), (2, .int 0)] [] S (fx_qv (fun S4 => shM S4 ∧ fx_Go G (4, 60) mm_M_writeOutside 189 [(0, fx_r G 85), (1, .int v1), (2, .int v2), (3, .int v3), (4, .int v4), (5, .int v5), (6, .int v6), (8, .int v8), (9, .int (v9 + Int32.ofInt 1))] [] S4 Q) Q)))) ∧ (¬ v8 ≤ v9 → vp_in v9 64 ∧ fx_Go G (0, 0) mm_M_place 0 [(0, fx_r G 85), (1, .int v9), (2, .int (fx_I S 93 (v9.toNatClampNeg)))] [] S (fx_qv (fun S7 => shM S7 ∧ fx_Go G (4, 60) mm_M_writeOutside 189 [(0, fx_r G 85), (1, .int v1), (2, .int v2), (3, .int v3), (4, .int v4), (5, .int v5), (6, .int v6), (8, .int v8), (9, .int (v9 + Int32.ofInt 1))] [] S7 Q) Q))) ∧ (¬ z0 = 0 → fx_Go G (0, 0) mm_M_place 0 [(0, fx_r G 85), (1, .int v9), (2, .int (((v4 + v9) - v2) &&& 255))] [] S (fx_qv (fun S8 => shM S8 ∧ fx_Go G (4, 60) mm_M_writeOutside 189 [(0, fx_r G 85), (1, .int v1), (2, .int v2), (3, .int v3), (4, .int v4), (5, .int v5), (6, .int v6), (8, .int v8), (9, .int (v9 + Int32.ofInt 1))] [] S8 Q) Q))) :
    fx_Go G (4, 60) mm_M_writeOutside 220 [(0, fx_r G 85), (1, .int v1), (2, .int v2), (3, .int v3), (4, .int v4), (5, .int v5), (6, .int v6), (8, .int v8), (9, .int v9)] [.int z0] S Q := by
  refine bk_M_writeOutside_220 85 v1 v2 v3 v4 v5 v6 v8 v9 z0 ?_
  refine ⟨fun hc => ?_, fun hc => ?_⟩
  · replace h := h.1 hc
    refine ⟨fun hc => ?_, fun hc => ?_⟩
    · replace h := h.1 hc
      refine ⟨fun hc => ?_, fun hc => ?_⟩
      · replace h := h.1 hc
        refine ⟨(hS.is ⟨by decide, by decide⟩ rfl), ?_⟩
        refine fx_cons h (fx_qv_m fun S1 h => ?_)
        obtain ⟨hS1, h⟩ := h
        exact h
      · replace h := h.2 hc
        refine ⟨(hS.is ⟨by decide, by decide⟩ rfl), ?_⟩
        refine ⟨_, (hS.P ⟨by decide, by decide⟩ rfl), ?_⟩
        refine ⟨(hS.is ⟨by decide, by decide⟩ rfl), ?_⟩
        obtain ⟨w3, h⟩ := h
        refine ⟨(hS.vin ⟨by decide, by decide⟩ rfl w3), ?_⟩
        refine ⟨fun hc => ?_, fun hc => ?_⟩
        · replace h := h.1 hc
          exact h
        · replace h := h.2 hc
          refine fx_cons h (fx_qv_m fun S4 h => ?_)
          obtain ⟨hS4, h⟩ := h
          exact h
    · replace h := h.2 hc
      refine ⟨(hS.is ⟨by decide, by decide⟩ rfl), ?_⟩
      refine ⟨_, (hS.P ⟨by decide, by decide⟩ rfl), ?_⟩
      refine ⟨(hS.is ⟨by decide, by decide⟩ rfl), ?_⟩
      obtain ⟨w6, h⟩ := h
      refine ⟨(hS.vin ⟨by decide, by decide⟩ rfl w6), ?_⟩
      refine fx_cons h (fx_qv_m fun S7 h => ?_)
      obtain ⟨hS7, h⟩ := h
      exact h
  · replace h := h.2 hc
    refine ⟨(hS.is ⟨by decide, by decide⟩ rfl), ?_⟩
    refine fx_cons h (fx_qv_m fun S8 h => ?_)
    obtain ⟨hS8, h⟩ := h
    exact h
theorem bs_M_write_0 {G : fx_G} {S : fx_S} {Q : fx_R → fx_S → Prop} (hS : shM S) (v1 : Int32) (v2 : Int32) (v3 : Int32) (v4 : Int32)  (h : ∀ S1, S1 = fx_setI S 85 0 0 → (¬ (fx_I S1 85 4) = 0 → fx_Go G (1, 15) mm_M_isKind 0 [(0, fx_r G 85), (1, .int v1), (2, .int 1)] [] S1 (fx_qi (fun x3 S2 => shM S2 ∧ (x3 = 0 → fx_Go G (5, 82) mm_M_write 54 [(0, fx_r G 85), (1, .int v1), (2, .int v2), (3, .int v3), (4, .int v4)] [.int 0] S2 Q) ∧ (¬ x3 = 0 → (v2 < 0 → fx_Go G (5, 82) mm_M_write 54 [(0, fx_r G 85), (1, .int v1), (2, .int v2), (3, .int v3), (4, .int v4)] [.int 0] S2 Q) ∧ (¬ v2 < 0 → (1000 < v2 → fx_Go G (5, 82) mm_M_write 54 [(0, fx_r G 85), (1, .int v1), (2, .int v2), (3, .int v3), (4, .int v4)] [.int 0] S2 Q) ∧ (¬ 1000 < v2 → (v3 < 1 → fx_Go G (5, 82) mm_M_write 54 [(0, fx_r G 85), (1, .int v1), (2, .int v2), (3, .int v3), (4, .int v4)] [.int 0] S2 Q) ∧ (¬ v3 < 1 → (60 < v3 → fx_Go G (5, 82) mm_M_write 54 [(0, fx_r G 85), (1, .int v1), (2, .int v2), (3, .int v3), (4, .int v4)] [.int 0] S2 Q) ∧ (¬ 60 < v3 → fx_Go G (5, 82) mm_M_write 54 [(0, fx_r G 85), (1, .int v1), (2, .int v2), (3, .int v3), (4, .int v4)] [.int 1] S2 Q)))))) Q)) ∧ ((fx_I S1 85 4) = 0 → fx_Go G (0, 0) mm_M_refuse 0 [(0, fx_r G 85), (1, .int 1)] [] S1 (fx_qi (fun x5 S4 => shM S4 ∧ Q (.inl (some (.int x5))) S4) Q))) :
    fx_Go G (5, 82) mm_M_write 0 [(0, fx_r G 85), (1, .int v1), (2, .int v2), (3, .int v3), (4, .int v4)] [] S Q := by
  refine bk_M_write_0 85 v1 v2 v3 v4 ?_
  refine ⟨(hS.is ⟨by decide, by decide⟩ rfl), ?_⟩
  intro S1 eS1
  replace h := h S1 eS1
  have hS1 : shM S1 := by rw [eS1]; exact hS
  refine ⟨fun hc => ?_, fun hc => ?_⟩
  · replace h := h.1 hc
    refine fx_cons h (fx_qi_m fun x3 S2 h => ?_)
    obtain ⟨hS2, h⟩ := h
    refine ⟨fun hc => ?_, fun hc => ?_⟩
    · replace h := h.1 hc
      exact h
    · replace h := h.2 hc
      refine ⟨fun hc => ?_, fun hc => ?_⟩
      · replace h := h.1 hc
        exact h
      · replace h := h.2 hc
        refine ⟨fun hc => ?_, fun hc => ?_⟩
        · replace h := h.1 hc
          exact h
        · replace h := h.2 hc
          refine ⟨fun hc => ?_, fun hc => ?_⟩
          · replace h := h.1 hc
            exact h
          · replace h := h.2 hc
            refine ⟨fun hc => ?_, fun hc => ?_⟩
            · replace h := h.1 hc
              exact h
            · replace h := h.2 hc
              exact h
  · replace h := h.2 hc
    refine fx_cons h (fx_qi_m fun x5 S4 h => ?_)
    obtain ⟨hS4, h⟩ := h
    exact h
theorem bs_M_write_54 {G : fx_G} {S : fx_S} {Q : fx_R → fx_S → Prop} (hS : shM S) (v1 : Int32) (v2 : Int32) (v3 : Int32) (v4 : Int32) (z0 : Int32)  (h : (z0 = 0 → fx_Go G (0, 0) mm_M_refuse 0 [(0, fx_r G 85), (1, .int 2)] [] S (fx_qi (fun x2 S1 => shM S1 ∧ Q (.inl (some (.int x2))) S1) Q)) ∧ (¬ z0 = 0 → ((v2 + v3) ≤ 1000 → fx_Go G (2, 32) mm_M_sizeOf 0 [(0, fx_r G 85), (1, .int v1)] [] S (fx_qi (fun x4 S3 => shM S3 ∧ ((v2 + v3) ≤ x4 → fx_Go G (5, 82) mm_M_write 99 [(0, fx_r G 85), (1, .int v1), (2, .int v2), (3, .int v3), (4, .int v4), (6, .int x4)] [.int x4] S3 Q) ∧ (¬ (v2 + v3) ≤ x4 → fx_Go G (5, 82) mm_M_write 99 [(0, fx_r G 85), (1, .int v1), (2, .int v2), (3, .int v3), (4, .int v4), (6, .int x4)] [.int (v2 + v3)] S3 Q)) Q)) ∧ (¬ (v2 + v3) ≤ 1000 → fx_Go G (0, 0) mm_M_refuse 0 [(0, fx_r G 85), (1, .int 2)] [] S (fx_qi (fun x6 S5 => shM S5 ∧ Q (.inl (some (.int x6))) S5) Q)))) :
    fx_Go G (5, 82) mm_M_write 54 [(0, fx_r G 85), (1, .int v1), (2, .int v2), (3, .int v3), (4, .int v4)] [.int z0] S Q := by
  refine bk_M_write_54 85 v1 v2 v3 v4 z0 ?_
  refine ⟨fun hc => ?_, fun hc => ?_⟩
  · replace h := h.1 hc
    refine ⟨(hS.is ⟨by decide, by decide⟩ rfl), ?_⟩
    refine fx_cons h (fx_qi_m fun x2 S1 h => ?_)
    obtain ⟨hS1, h⟩ := h
    exact h
  · replace h := h.2 hc
    refine ⟨fun hc => ?_, fun hc => ?_⟩
    · replace h := h.1 hc
      refine ⟨(hS.is ⟨by decide, by decide⟩ rfl), ?_⟩
      refine fx_cons h (fx_qi_m fun x4 S3 h => ?_)
      obtain ⟨hS3, h⟩ := h
      refine ⟨fun hc => ?_, fun hc => ?_⟩
      · replace h := h.1 hc
        exact h
      · replace h := h.2 hc
        exact h
    · replace h := h.2 hc
      refine ⟨(hS.is ⟨by decide, by decide⟩ rfl), ?_⟩
      refine fx_cons h (fx_qi_m fun x6 S5 h => ?_)
      obtain ⟨hS5, h⟩ := h
      exact h
theorem bs_M_write_99 {G : fx_G} {S : fx_S} {Q : fx_R → fx_S → Prop} (hS : shM S) (v1 : Int32) (v2 : Int32) (v3 : Int32) (v4 : Int32) (v6 : Int32) (z0 : Int32)  (h : fx_Go G (2, 32) mm_M_isInside 0 [(0, fx_r G 85), (1, .int v1)] [] S (fx_qi (fun x2 S1 => shM S1 ∧ (x2 = 0 → fx_Go G (4, 60) mm_M_writeOutside 0 [(0, fx_r G 85), (1, .int v1), (2, .int v2), (3, .int v3), (4, .int v4)] [] S1 (fx_qi (fun x4 S3 => shM S3 ∧ Q (.inl (some (.int x4))) S3) Q)) ∧ (¬ x2 = 0 → fx_Go G (2, 32) mm_M_nameLength 0 [(0, fx_r G 85), (1, .int v1)] [] S1 (fx_qi (fun x6 S5 => shM S5 ∧ (z0 ≤ (50 - x6) → fx_Go G (1, 16) mm_M_attribute 0 [(0, fx_r G 85), (1, .int v1), (2, .int 2)] [] S5 (fx_qi (fun x8 S7 => shM S7 ∧ fx_Go G (5, 82) mm_M_write 145 [(0, fx_r G 85), (1, .int v1), (2, .int v2), (3, .int v3), (4, .int v4), (6, .int v6), (7, .int z0), (8, .int (x8 + 2)), (9, .int 0)] [] S7 Q) Q)) ∧ (¬ z0 ≤ (50 - x6) → fx_Go G (4, 60) mm_M_writeOutside 0 [(0, fx_r G 85), (1, .int v1), (2, .int v2), (3, .int v3), (4, .int v4)] [] S5 (fx_qi (fun x10 S9 => shM S9 ∧ Q (.inl (some (.int x10))) S9) Q))) Q))) Q)) :
    fx_Go G (5, 82) mm_M_write 99 [(0, fx_r G 85), (1, .int v1), (2, .int v2), (3, .int v3), (4, .int v4), (6, .int v6)] [.int z0] S Q := by
  refine bk_M_write_99 85 v1 v2 v3 v4 v6 z0 ?_
  refine ⟨(hS.is ⟨by decide, by decide⟩ rfl), ?_⟩
  refine fx_cons h (fx_qi_m fun x2 S1 h => ?_)
  obtain ⟨hS1, h⟩ := h
  refine ⟨fun hc => ?_, fun hc => ?_⟩
  · replace h := h.1 hc
    refine ⟨(hS1.is ⟨by decide, by decide⟩ rfl), ?_⟩
    refine fx_cons h (fx_qi_m fun x4 S3 h => ?_)
    obtain ⟨hS3, h⟩ := h
    exact h
  · replace h := h.2 hc
    refine ⟨(hS1.is ⟨by decide, by decide⟩ rfl), ?_⟩
    refine fx_cons h (fx_qi_m fun x6 S5 h => ?_)
    obtain ⟨hS5, h⟩ := h
    refine ⟨fun hc => ?_, fun hc => ?_⟩
    · replace h := h.1 hc
      refine ⟨(hS5.is ⟨by decide, by decide⟩ rfl), ?_⟩
      refine fx_cons h (fx_qi_m fun x8 S7 h => ?_)
      obtain ⟨hS7, h⟩ := h
      exact h
    · replace h := h.2 hc
      refine ⟨(hS5.is ⟨by decide, by decide⟩ rfl), ?_⟩
      refine fx_cons h (fx_qi_m fun x10 S9 h => ?_)
      obtain ⟨hS9, h⟩ := h
      exact h
theorem bs_M_write_145 {G : fx_G} {S : fx_S} {Q : fx_R → fx_S → Prop} (hS : shM S) (v1 : Int32) (v2 : Int32) (v3 : Int32) (v4 : Int32) (v6 : Int32) (v7 : Int32) (v8 : Int32) (v9 : Int32)  (h : (v7 ≤ v9 → fx_Go G (0, 0) mm_M_byteOf 0 [(0, fx_r G 85), (1, .int v1), (2, .int 1)] [] S (fx_qi (fun x2 S1 => shM S1 ∧ fx_Go G (0, 0) mm_M_begin 0 [(0, fx_r G 85), (1, .int 1), (2, .int x2)] [] S1 (fx_qv (fun S3 => shM S3 ∧ fx_Go G (3, 45) mm_M_putName 0 [(0, fx_r G 85), (1, .int v1)] [] S3 (fx_qv (fun S4 => shM S4 ∧ fx_Go G (1, 13) mm_M_putInside 0 [(0, fx_r G 85), (1, .int v7)] [] S4 (fx_qv (fun S5 => shM S5 ∧ fx_Go G (1, 15) mm_M_store 0 [(0, fx_r G 85), (1, .int v1)] [] S5 (fx_qi (fun x7 S6 => shM S6 ∧ (x7 = 0 → fx_Go G (0, 0) mm_M_refuse 0 [(0, fx_r G 85), (1, .int 1)] [] S6 (fx_qi (fun x9 S8 => shM S8 ∧ Q (.inl (some (.int x9))) S8) Q)) ∧ (¬ x7 = 0 → Q (.inl (some (.int v7))) S6)) Q)) Q)) Q)) Q)) Q)) ∧ (¬ v7 ≤ v9 → (v9 < v2 → fx_Go G (5, 82) mm_M_write 186 [(0, fx_r G 85), (1, .int v1), (2, .int v2), (3, .int v3), (4, .int v4), (6, .int v6), (7, .int v7), (8, .int v8), (9, .int v9)] [.int v9, fx_r G 93] S Q) ∧ (¬ v9 < v2 → ((v2 + v3) ≤ v9 → fx_Go G (5, 82) mm_M_write 186 [(0, fx_r G 85), (1, .int v1), (2, .int v2), (3, .int v3), (4, .int v4), (6, .int v6), (7, .int v7), (8, .int v8), (9, .int v9)] [.int v9, fx_r G 93] S Q) ∧ (¬ (v2 + v3) ≤ v9 → vp_in v9 64 ∧ ∀ S12, S12 = fx_setI S 93 (v9.toNatClampNeg) (((v4 + v9) - v2) &&& 255) → fx_Go G (5, 82) mm_M_write 145 [(0, fx_r G 85), (1, .int v1), (2, .int v2), (3, .int v3), (4, .int v4), (6, .int v6), (7, .int v7), (8, .int v8), (9, .int (v9 + Int32.ofInt 1))] [] S12 Q)))) :
    fx_Go G (5, 82) mm_M_write 145 [(0, fx_r G 85), (1, .int v1), (2, .int v2), (3, .int v3), (4, .int v4), (6, .int v6), (7, .int v7), (8, .int v8), (9, .int v9)] [] S Q := by
  refine bk_M_write_145 85 v1 v2 v3 v4 v6 v7 v8 v9 ?_
  refine ⟨fun hc => ?_, fun hc => ?_⟩
  · replace h := h.1 hc
    refine ⟨(hS.is ⟨by decide, by decide⟩ rfl), ?_⟩
    refine fx_cons h (fx_qi_m fun x2 S1 h => ?_)
    obtain ⟨hS1, h⟩ := h
    refine ⟨(hS1.is ⟨by decide, by decide⟩ rfl), ?_⟩
    refine fx_cons h (fx_qv_m fun S3 h => ?_)
    obtain ⟨hS3, h⟩ := h
    refine ⟨(hS3.is ⟨by decide, by decide⟩ rfl), ?_⟩
    refine fx_cons h (fx_qv_m fun S4 h => ?_)
    obtain ⟨hS4, h⟩ := h
    refine ⟨(hS4.is ⟨by decide, by decide⟩ rfl), ?_⟩
    refine fx_cons h (fx_qv_m fun S5 h => ?_)
    obtain ⟨hS5, h⟩ := h
    refine ⟨(hS5.is ⟨by decide, by decide⟩ rfl), ?_⟩
    refine fx_cons h (fx_qi_m fun x7 S6 h => ?_)
    obtain ⟨hS6, h⟩ := h
    refine ⟨fun hc => ?_, fun hc => ?_⟩
    · replace h := h.1 hc
      refine ⟨(hS6.is ⟨by decide, by decide⟩ rfl), ?_⟩
      refine fx_cons h (fx_qi_m fun x9 S8 h => ?_)
      obtain ⟨hS8, h⟩ := h
      exact h
    · replace h := h.2 hc
      exact h
  · replace h := h.2 hc
    refine ⟨(hS.is ⟨by decide, by decide⟩ rfl), ?_⟩
    refine ⟨_, (hS.P ⟨by decide, by decide⟩ rfl), ?_⟩
    refine ⟨fun hc => ?_, fun hc => ?_⟩
    · replace h := h.1 hc
      exact h
    · replace h := h.2 hc
      refine ⟨fun hc => ?_, fun hc => ?_⟩
      · replace h := h.1 hc
        exact h
      · replace h := h.2 hc
        refine ⟨(hS.is ⟨by decide, by decide⟩ rfl), ?_⟩
        obtain ⟨w11, h⟩ := h
        refine ⟨(hS.vin ⟨by decide, by decide⟩ rfl w11), ?_⟩
        intro S12 eS12
        replace h := h S12 eS12
        have hS12 : shM S12 := by rw [eS12]; exact hS
        exact h
theorem bs_M_write_186 {G : fx_G} {S : fx_S} {Q : fx_R → fx_S → Prop} (hS : shM S) (v1 : Int32) (v2 : Int32) (v3 : Int32) (v4 : Int32) (v6 : Int32) (v7 : Int32) (v8 : Int32) (v9 : Int32) (z0 : Int32) (z1 : Nat) {nz1 : Nat} (hz1 : isAM z1 nz1) (h : (v6 ≤ v9 → vp_in z0 nz1 ∧ ∀ S2, S2 = fx_setI S z1 (z0.toNatClampNeg) 0 → fx_Go G (5, 82) mm_M_write 145 [(0, fx_r G 85), (1, .int v1), (2, .int v2), (3, .int v3), (4, .int v4), (6, .int v6), (7, .int v7), (8, .int v8), (9, .int (v9 + Int32.ofInt 1))] [] S2 Q) ∧ (¬ v6 ≤ v9 → fx_Go G (0, 0) mm_M_byteOf 0 [(0, fx_r G 85), (1, .int v1), (2, .int (v8 + v9))] [] S (fx_qi (fun x4 S3 => shM S3 ∧ vp_in z0 nz1 ∧ ∀ S6, S6 = fx_setI S3 z1 (z0.toNatClampNeg) x4 → fx_Go G (5, 82) mm_M_write 145 [(0, fx_r G 85), (1, .int v1), (2, .int v2), (3, .int v3), (4, .int v4), (6, .int v6), (7, .int v7), (8, .int v8), (9, .int (v9 + Int32.ofInt 1))] [] S6 Q) Q))) :
    fx_Go G (5, 82) mm_M_write 186 [(0, fx_r G 85), (1, .int v1), (2, .int v2), (3, .int v3), (4, .int v4), (6, .int v6), (7, .int v7), (8, .int v8), (9, .int v9)] [.int z0, fx_r G z1] S Q := by
  refine bk_M_write_186 85 v1 v2 v3 v4 v6 v7 v8 v9 z0 z1 ?_
  refine ⟨fun hc => ?_, fun hc => ?_⟩
  · replace h := h.1 hc
    refine ⟨(hS.iA hz1), ?_⟩
    obtain ⟨w1, h⟩ := h
    refine ⟨(hS.vA hz1 w1), ?_⟩
    intro S2 eS2
    replace h := h S2 eS2
    have hS2 : shM S2 := by rw [eS2]; exact hS
    exact h
  · replace h := h.2 hc
    refine ⟨(hS.is ⟨by decide, by decide⟩ rfl), ?_⟩
    refine fx_cons h (fx_qi_m fun x4 S3 h => ?_)
    obtain ⟨hS3, h⟩ := h
    refine ⟨(hS3.iA hz1), ?_⟩
    obtain ⟨w5, h⟩ := h
    refine ⟨(hS3.vA hz1 w5), ?_⟩
    intro S6 eS6
    replace h := h S6 eS6
    have hS6 : shM S6 := by rw [eS6]; exact hS3
    exact h
theorem bs_M_cut_0 {G : fx_G} {S : fx_S} {Q : fx_R → fx_S → Prop} (hS : shM S) (v1 : Int32) (v2 : Int32)  (h : ∀ S1, S1 = fx_setI S 85 0 0 → (¬ (fx_I S1 85 4) = 0 → fx_Go G (1, 15) mm_M_isKind 0 [(0, fx_r G 85), (1, .int v1), (2, .int 1)] [] S1 (fx_qi (fun x3 S2 => shM S2 ∧ (¬ x3 = 0 → fx_Go G (2, 32) mm_M_sizeOf 0 [(0, fx_r G 85), (1, .int v1)] [] S2 (fx_qi (fun x5 S4 => shM S4 ∧ (v2 < 0 → fx_Go G (0, 0) mm_M_refuse 0 [(0, fx_r G 85), (1, .int 2)] [] S4 (fx_qi (fun x7 S6 => shM S6 ∧ Q (.inl (some (.int x7))) S6) Q)) ∧ (¬ v2 < 0 → (v2 ≤ x5 → fx_Go G (2, 32) mm_M_isInside 0 [(0, fx_r G 85), (1, .int v1)] [] S4 (fx_qi (fun x9 S8 => shM S8 ∧ fx_Go G (2, 32) mm_M_loadMap 0 [(0, fx_r G 85), (1, .int v1)] [] S8 (fx_qv (fun S10 => shM S10 ∧ fx_Go G (1, 16) mm_M_attribute 0 [(0, fx_r G 85), (1, .int v1), (2, .int 2)] [] S10 (fx_qi (fun x12 S11 => shM S11 ∧ fx_Go G (4, 60) mm_M_cut 85 [(0, fx_r G 85), (1, .int v1), (2, .int v2), (3, .int x5), (4, .int x9), (5, .int (fx_I S10 85 10)), (6, .int (x12 + 2)), (7, .int 0)] [] S11 Q) Q)) Q)) Q)) ∧ (¬ v2 ≤ x5 → fx_Go G (0, 0) mm_M_refuse 0 [(0, fx_r G 85), (1, .int 2)] [] S4 (fx_qi (fun x14 S13 => shM S13 ∧ Q (.inl (some (.int x14))) S13) Q)))) Q)) ∧ (x3 = 0 → fx_Go G (0, 0) mm_M_refuse 0 [(0, fx_r G 85), (1, .int 2)] [] S2 (fx_qi (fun x16 S15 => shM S15 ∧ Q (.inl (some (.int x16))) S15) Q))) Q)) ∧ ((fx_I S1 85 4) = 0 → fx_Go G (0, 0) mm_M_refuse 0 [(0, fx_r G 85), (1, .int 1)] [] S1 (fx_qi (fun x18 S17 => shM S17 ∧ Q (.inl (some (.int x18))) S17) Q))) :
    fx_Go G (4, 60) mm_M_cut 0 [(0, fx_r G 85), (1, .int v1), (2, .int v2)] [] S Q := by
  refine bk_M_cut_0 85 v1 v2 ?_
  refine ⟨(hS.is ⟨by decide, by decide⟩ rfl), ?_⟩
  intro S1 eS1
  replace h := h S1 eS1
  have hS1 : shM S1 := by rw [eS1]; exact hS
  refine ⟨fun hc => ?_, fun hc => ?_⟩
  · replace h := h.1 hc
    refine fx_cons h (fx_qi_m fun x3 S2 h => ?_)
    obtain ⟨hS2, h⟩ := h
    refine ⟨fun hc => ?_, fun hc => ?_⟩
    · replace h := h.1 hc
      refine ⟨(hS2.is ⟨by decide, by decide⟩ rfl), ?_⟩
      refine fx_cons h (fx_qi_m fun x5 S4 h => ?_)
      obtain ⟨hS4, h⟩ := h
      refine ⟨fun hc => ?_, fun hc => ?_⟩
      · replace h := h.1 hc
        refine ⟨(hS4.is ⟨by decide, by decide⟩ rfl), ?_⟩
        refine fx_cons h (fx_qi_m fun x7 S6 h => ?_)
        obtain ⟨hS6, h⟩ := h
        exact h
      · replace h := h.2 hc
        refine ⟨fun hc => ?_, fun hc => ?_⟩
        · replace h := h.1 hc
          refine ⟨(hS4.is ⟨by decide, by decide⟩ rfl), ?_⟩
          refine fx_cons h (fx_qi_m fun x9 S8 h => ?_)
          obtain ⟨hS8, h⟩ := h
          refine ⟨(hS8.is ⟨by decide, by decide⟩ rfl), ?_⟩
          refine fx_cons h (fx_qv_m fun S10 h => ?_)
          obtain ⟨hS10, h⟩ := h
          refine ⟨(hS10.is ⟨by decide, by decide⟩ rfl), ?_⟩
          refine fx_cons h (fx_qi_m fun x12 S11 h => ?_)
          obtain ⟨hS11, h⟩ := h
          exact h
        · replace h := h.2 hc
          refine ⟨(hS4.is ⟨by decide, by decide⟩ rfl), ?_⟩
          refine fx_cons h (fx_qi_m fun x14 S13 h => ?_)
          obtain ⟨hS13, h⟩ := h
          exact h
    · replace h := h.2 hc
      refine ⟨(hS2.is ⟨by decide, by decide⟩ rfl), ?_⟩
      refine fx_cons h (fx_qi_m fun x16 S15 h => ?_)
      obtain ⟨hS15, h⟩ := h
      exact h
  · replace h := h.2 hc
    refine fx_cons h (fx_qi_m fun x18 S17 h => ?_)
    obtain ⟨hS17, h⟩ := h
    exact h
theorem bs_M_cut_85 {G : fx_G} {S : fx_S} {Q : fx_R → fx_S → Prop} (hS : shM S) (v1 : Int32) (v2 : Int32) (v3 : Int32) (v4 : Int32) (v5 : Int32) (v6 : Int32) (v7 : Int32)  (h : (v2 ≤ v7 → fx_Go G (4, 60) mm_M_cut 119 [(0, fx_r G 85), (1, .int v1), (2, .int v2), (3, .int v3), (4, .int v4), (5, .int v5)] [] S Q) ∧ (¬ v2 ≤ v7 → (v4 = 0 → fx_Go G (4, 60) mm_M_cut 119 [(0, fx_r G 85), (1, .int v1), (2, .int v2), (3, .int v3), (4, .int v4), (5, .int v5)] [] S Q) ∧ (¬ v4 = 0 → fx_Go G (0, 0) mm_M_byteOf 0 [(0, fx_r G 85), (1, .int v1), (2, .int (v6 + v7))] [] S (fx_qi (fun x3 S2 => shM S2 ∧ vp_in v7 64 ∧ ∀ S5, S5 = fx_setI S2 93 (v7.toNatClampNeg) x3 → fx_Go G (4, 60) mm_M_cut 85 [(0, fx_r G 85), (1, .int v1), (2, .int v2), (3, .int v3), (4, .int v4), (5, .int v5), (6, .int v6), (7, .int (v7 + Int32.ofInt 1))] [] S5 Q) Q)))) :
    fx_Go G (4, 60) mm_M_cut 85 [(0, fx_r G 85), (1, .int v1), (2, .int v2), (3, .int v3), (4, .int v4), (5, .int v5), (6, .int v6), (7, .int v7)] [] S Q := by
  refine bk_M_cut_85 85 v1 v2 v3 v4 v5 v6 v7 ?_
  refine ⟨fun hc => ?_, fun hc => ?_⟩
  · replace h := h.1 hc
    exact h
  · replace h := h.2 hc
    refine ⟨fun hc => ?_, fun hc => ?_⟩
    · replace h := h.1 hc
      exact h
    · replace h := h.2 hc
      refine ⟨(hS.is ⟨by decide, by decide⟩ rfl), ?_⟩
      refine ⟨_, (hS.P ⟨by decide, by decide⟩ rfl), ?_⟩
      refine fx_cons h (fx_qi_m fun x3 S2 h => ?_)
      obtain ⟨hS2, h⟩ := h
      refine ⟨(hS2.is ⟨by decide, by decide⟩ rfl), ?_⟩
      obtain ⟨w4, h⟩ := h
      refine ⟨(hS2.vin ⟨by decide, by decide⟩ rfl w4), ?_⟩
      intro S5 eS5
      replace h := h S5 eS5
      have hS5 : shM S5 := by rw [eS5]; exact hS2
      exact h
theorem bs_M_cut_119 {G : fx_G} {S : fx_S} {Q : fx_R → fx_S → Prop} (hS : shM S) (v1 : Int32) (v2 : Int32) (v3 : Int32) (v4 : Int32) (v5 : Int32)  (h : fx_Go G (0, 0) mm_M_byteOf 0 [(0, fx_r G 85), (1, .int v1), (2, .int 1)] [] S (fx_qi (fun x2 S1 => shM S1 ∧ fx_Go G (0, 0) mm_M_begin 0 [(0, fx_r G 85), (1, .int 1), (2, .int x2)] [] S1 (fx_qv (fun S3 => shM S3 ∧ fx_Go G (3, 45) mm_M_putName 0 [(0, fx_r G 85), (1, .int v1)] [] S3 (fx_qv (fun S4 => shM S4 ∧ (¬ v4 = 0 → fx_Go G (1, 13) mm_M_putInside 0 [(0, fx_r G 85), (1, .int v2)] [] S4 (fx_qv (fun S5 => shM S5 ∧ fx_Go G (4, 60) mm_M_cut 193 [(0, fx_r G 85), (1, .int v1), (2, .int v2), (3, .int v3), (5, .int v5)] [] S5 Q) Q)) ∧ (v4 = 0 → (¬ v2 = 0 → fx_Go G (0, 0) mm_M_clustersOf 0 [(0, .int v2)] [] S4 (fx_qi (fun x7 S6 => shM S6 ∧ ∀ S8, S8 = fx_setI S6 85 10 x7 → fx_Go G (1, 13) mm_M_putOutside 0 [(0, fx_r G 85), (1, .int v2)] [] S8 (fx_qv (fun S9 => shM S9 ∧ fx_Go G (4, 60) mm_M_cut 168 [(0, fx_r G 85), (1, .int v1), (2, .int v2), (3, .int v3), (5, .int v5), (7, .int v2)] [] S9 Q) Q)) Q)) ∧ (v2 = 0 → fx_Go G (1, 13) mm_M_putInside 0 [(0, fx_r G 85), (1, .int v2)] [] S4 (fx_qv (fun S10 => shM S10 ∧ fx_Go G (4, 60) mm_M_cut 193 [(0, fx_r G 85), (1, .int v1), (2, .int v2), (3, .int v3), (5, .int v5)] [] S10 Q) Q)))) Q)) Q)) Q)) :
    fx_Go G (4, 60) mm_M_cut 119 [(0, fx_r G 85), (1, .int v1), (2, .int v2), (3, .int v3), (4, .int v4), (5, .int v5)] [] S Q := by
  refine bk_M_cut_119 85 v1 v2 v3 v4 v5 ?_
  refine ⟨(hS.is ⟨by decide, by decide⟩ rfl), ?_⟩
  refine fx_cons h (fx_qi_m fun x2 S1 h => ?_)
  obtain ⟨hS1, h⟩ := h
  refine ⟨(hS1.is ⟨by decide, by decide⟩ rfl), ?_⟩
  refine fx_cons h (fx_qv_m fun S3 h => ?_)
  obtain ⟨hS3, h⟩ := h
  refine ⟨(hS3.is ⟨by decide, by decide⟩ rfl), ?_⟩
  refine fx_cons h (fx_qv_m fun S4 h => ?_)
  obtain ⟨hS4, h⟩ := h
  refine ⟨fun hc => ?_, fun hc => ?_⟩
  · replace h := h.1 hc
    refine ⟨(hS4.is ⟨by decide, by decide⟩ rfl), ?_⟩
    refine fx_cons h (fx_qv_m fun S5 h => ?_)
    obtain ⟨hS5, h⟩ := h
    exact h
  · replace h := h.2 hc
    refine ⟨fun hc => ?_, fun hc => ?_⟩
    · replace h := h.1 hc
      refine fx_cons h (fx_qi_m fun x7 S6 h => ?_)
      obtain ⟨hS6, h⟩ := h
      refine ⟨(hS6.is ⟨by decide, by decide⟩ rfl), ?_⟩
      intro S8 eS8
      replace h := h S8 eS8
      have hS8 : shM S8 := by rw [eS8]; exact hS6
      refine fx_cons h (fx_qv_m fun S9 h => ?_)
      obtain ⟨hS9, h⟩ := h
      exact h
    · replace h := h.2 hc
      refine ⟨(hS4.is ⟨by decide, by decide⟩ rfl), ?_⟩
      refine fx_cons h (fx_qv_m fun S10 h => ?_)
      obtain ⟨hS10, h⟩ := h
      exact h
theorem bs_M_cut_168 {G : fx_G} {S : fx_S} {Q : fx_R → fx_S → Prop} (hS : shM S) (v1 : Int32) (v2 : Int32) (v3 : Int32) (v5 : Int32) (v7 : Int32)  (h : ((16 * (fx_I S 85 10)) ≤ v7 → fx_Go G (4, 60) mm_M_cut 193 [(0, fx_r G 85), (1, .int v1), (2, .int v2), (3, .int v3), (5, .int v5)] [] S Q) ∧ (¬ (16 * (fx_I S 85 10)) ≤ v7 → fx_Go G (0, 0) mm_M_place 0 [(0, fx_r G 85), (1, .int v7), (2, .int 0)] [] S (fx_qv (fun S1 => shM S1 ∧ fx_Go G (4, 60) mm_M_cut 168 [(0, fx_r G 85), (1, .int v1), (2, .int v2), (3, .int v3), (5, .int v5), (7, .int (v7 + Int32.ofInt 1))] [] S1 Q) Q))) :
    fx_Go G (4, 60) mm_M_cut 168 [(0, fx_r G 85), (1, .int v1), (2, .int v2), (3, .int v3), (5, .int v5), (7, .int v7)] [] S Q := by
  refine bk_M_cut_168 85 v1 v2 v3 v5 v7 ?_
  refine ⟨(hS.is ⟨by decide, by decide⟩ rfl), ?_⟩
  refine ⟨fun hc => ?_, fun hc => ?_⟩
  · replace h := h.1 hc
    exact h
  · replace h := h.2 hc
    refine fx_cons h (fx_qv_m fun S1 h => ?_)
    obtain ⟨hS1, h⟩ := h
    exact h
theorem bs_M_cut_193 {G : fx_G} {S : fx_S} {Q : fx_R → fx_S → Prop} (hS : shM S) (v1 : Int32) (v2 : Int32) (v3 : Int32) (v5 : Int32)  (h : fx_Go G (1, 15) mm_M_store 0 [(0, fx_r G 85), (1, .int v1)] [] S (fx_qi (fun x2 S1 => shM S1 ∧ (¬ x2 = 0 → ∀ S3, S3 = fx_setI S1 85 10 v5 → fx_Go G (0, 0) mm_M_clustersOf 0 [(0, .int v2)] [] S3 (fx_qi (fun x5 S4 => shM S4 ∧ fx_Go G (0, 0) mm_M_release 0 [(0, fx_r G 85), (1, .int x5)] [] S4 (fx_qi (fun x7 S6 => shM S6 ∧ Q (.inl (some (.int v3))) S6) Q)) Q)) ∧ (x2 = 0 → fx_Go G (0, 0) mm_M_refuse 0 [(0, fx_r G 85), (1, .int 1)] [] S1 (fx_qi (fun x9 S8 => shM S8 ∧ Q (.inl (some (.int x9))) S8) Q))) Q)) :
    fx_Go G (4, 60) mm_M_cut 193 [(0, fx_r G 85), (1, .int v1), (2, .int v2), (3, .int v3), (5, .int v5)] [] S Q := by
  refine bk_M_cut_193 85 v1 v2 v3 v5 ?_
  refine ⟨(hS.is ⟨by decide, by decide⟩ rfl), ?_⟩
  refine fx_cons h (fx_qi_m fun x2 S1 h => ?_)
  obtain ⟨hS1, h⟩ := h
  refine ⟨fun hc => ?_, fun hc => ?_⟩
  · replace h := h.1 hc
    refine ⟨(hS1.is ⟨by decide, by decide⟩ rfl), ?_⟩
    intro S3 eS3
    replace h := h S3 eS3
    have hS3 : shM S3 := by rw [eS3]; exact hS1
    refine fx_cons h (fx_qi_m fun x5 S4 h => ?_)
    obtain ⟨hS4, h⟩ := h
    refine ⟨(hS4.is ⟨by decide, by decide⟩ rfl), ?_⟩
    refine fx_cons h (fx_qi_m fun x7 S6 h => ?_)
    obtain ⟨hS6, h⟩ := h
    exact h
  · replace h := h.2 hc
    refine ⟨(hS1.is ⟨by decide, by decide⟩ rfl), ?_⟩
    refine fx_cons h (fx_qi_m fun x9 S8 h => ?_)
    obtain ⟨hS8, h⟩ := h
    exact h
theorem bs_M_fail_0 {G : fx_G} {S : fx_S} {Q : fx_R → fx_S → Prop} (hS : shM S) (v1 : Int32)  (h : ∀ S1, S1 = fx_setI S 85 0 0 → (v1 < 0 → Q (.inl (some (.int 0))) S1) ∧ (¬ v1 < 0 → (v1 ≤ 20 → ∀ S2, S2 = fx_setI S1 85 5 v1 → Q (.inl (some (.int 1))) S2) ∧ (¬ v1 ≤ 20 → Q (.inl (some (.int 0))) S1))) :
    fx_Go G (0, 0) mm_M_fail 0 [(0, fx_r G 85), (1, .int v1)] [] S Q := by
  refine bk_M_fail_0 85 v1 ?_
  refine ⟨(hS.is ⟨by decide, by decide⟩ rfl), ?_⟩
  intro S1 eS1
  replace h := h S1 eS1
  have hS1 : shM S1 := by rw [eS1]; exact hS
  refine ⟨fun hc => ?_, fun hc => ?_⟩
  · replace h := h.1 hc
    exact h
  · replace h := h.2 hc
    refine ⟨fun hc => ?_, fun hc => ?_⟩
    · replace h := h.1 hc
      intro S2 eS2
      replace h := h S2 eS2
      have hS2 : shM S2 := by rw [eS2]; exact hS1
      exact h
    · replace h := h.2 hc
      exact h
theorem bs_M_leadsUp_0 {G : fx_G} {S : fx_S} {Q : fx_R → fx_S → Prop} (hS : shM S) (v1 : Int32)  (h : fx_Go G (1, 15) mm_M_leadsUp 4 [(0, fx_r G 85), (2, .int v1), (3, .int 0)] [] S Q) :
    fx_Go G (1, 15) mm_M_leadsUp 0 [(0, fx_r G 85), (1, .int v1)] [] S Q := by
  refine bk_M_leadsUp_0 85 v1 ?_
  exact h
theorem bs_M_leadsUp_4 {G : fx_G} {S : fx_S} {Q : fx_R → fx_S → Prop} (hS : shM S) (v2 : Int32) (v3 : Int32)  (h : (12 < v3 → (¬ v2 = 0 → Q (.inl (some (.int 0))) S) ∧ (v2 = 0 → Q (.inl (some (.int 1))) S)) ∧ (¬ 12 < v3 → (v2 = 0 → (¬ v2 = 0 → Q (.inl (some (.int 0))) S) ∧ (v2 = 0 → Q (.inl (some (.int 1))) S)) ∧ (¬ v2 = 0 → fx_Go G (0, 0) mm_M_byteOf 0 [(0, fx_r G 85), (1, .int v2), (2, .int 1)] [] S (fx_qi (fun x2 S1 => shM S1 ∧ (12 ≤ x2 → Q (.inl (some (.int 0))) S1) ∧ (¬ 12 ≤ x2 → vp_in x2 12 ∧ ((fx_I S1 87 (x2.toNatClampNeg)) = 0 → Q (.inl (some (.int 0))) S1) ∧ (¬ (fx_I S1 87 (x2.toNatClampNeg)) = 0 → fx_Go G (0, 0) mm_M_byteOf 0 [(0, fx_r G 85), (1, .int x2), (2, .int 0)] [] S1 (fx_qi (fun x6 S5 => shM S5 ∧ (x6 = 2 → fx_Go G (1, 15) mm_M_leadsUp 4 [(0, fx_r G 85), (2, .int x2), (3, .int (v3 + Int32.ofInt 1))] [] S5 Q) ∧ (¬ x6 = 2 → Q (.inl (some (.int 0))) S5)) Q)))) Q)))) :
    fx_Go G (1, 15) mm_M_leadsUp 4 [(0, fx_r G 85), (2, .int v2), (3, .int v3)] [] S Q := by
  refine bk_M_leadsUp_4 85 v2 v3 ?_
  refine ⟨fun hc => ?_, fun hc => ?_⟩
  · replace h := h.1 hc
    refine ⟨fun hc => ?_, fun hc => ?_⟩
    · replace h := h.1 hc
      exact h
    · replace h := h.2 hc
      exact h
  · replace h := h.2 hc
    refine ⟨fun hc => ?_, fun hc => ?_⟩
    · replace h := h.1 hc
      refine ⟨fun hc => ?_, fun hc => ?_⟩
      · replace h := h.1 hc
        exact h
      · replace h := h.2 hc
        exact h
    · replace h := h.2 hc
      refine ⟨(hS.is ⟨by decide, by decide⟩ rfl), ?_⟩
      refine fx_cons h (fx_qi_m fun x2 S1 h => ?_)
      obtain ⟨hS1, h⟩ := h
      refine ⟨fun hc => ?_, fun hc => ?_⟩
      · replace h := h.1 hc
        exact h
      · replace h := h.2 hc
        refine ⟨(hS1.is ⟨by decide, by decide⟩ rfl), ?_⟩
        refine ⟨_, (hS1.P ⟨by decide, by decide⟩ rfl), ?_⟩
        refine ⟨(hS1.is ⟨by decide, by decide⟩ rfl), ?_⟩
        obtain ⟨w4, h⟩ := h
        refine ⟨(hS1.vin ⟨by decide, by decide⟩ rfl w4), ?_⟩
        refine ⟨fun hc => ?_, fun hc => ?_⟩
        · replace h := h.1 hc
          exact h
        · replace h := h.2 hc
          refine fx_cons h (fx_qi_m fun x6 S5 h => ?_)
          obtain ⟨hS5, h⟩ := h
          refine ⟨fun hc => ?_, fun hc => ?_⟩
          · replace h := h.1 hc
            exact h
          · replace h := h.2 hc
            exact h
theorem bs_M_mendRoot_0 {G : fx_G} {S : fx_S} {Q : fx_R → fx_S → Prop} (hS : shM S)   (h : vp_in 0 12 ∧ ((fx_I S 87 ((0 : Int32).toNatClampNeg)) = 0 → ∀ S3, S3 = fx_setI S 85 14 0 → fx_Go G (0, 0) mm_M_begin 0 [(0, fx_r G 85), (1, .int 2), (2, .int 0)] [] S3 (fx_qv (fun S4 => shM S4 ∧ fx_Go G (1, 13) mm_M_putList 0 [(0, fx_r G 85)] [] S4 (fx_qv (fun S5 => shM S5 ∧ ∀ S6, S6 = fx_setI S5 85 16 ((fx_I S5 85 16) + 1) → fx_Go G (1, 15) mm_M_store 0 [(0, fx_r G 85), (1, .int 0)] [] S6 (fx_qi (fun x8 S7 => shM S7 ∧ narrow .boolean (.int x8) = .int x8 ∧ Q (.inl (some (.int x8))) S7) Q)) Q)) Q)) ∧ (¬ (fx_I S 87 ((0 : Int32).toNatClampNeg)) = 0 → Q (.inl (some (.int 1))) S)) :
    fx_Go G (2, 31) mm_M_mendRoot 0 [(0, fx_r G 85)] [] S Q := by
  refine bk_M_mendRoot_0 85 ?_
  refine ⟨(hS.is ⟨by decide, by decide⟩ rfl), ?_⟩
  refine ⟨_, (hS.P ⟨by decide, by decide⟩ rfl), ?_⟩
  refine ⟨(hS.is ⟨by decide, by decide⟩ rfl), ?_⟩
  obtain ⟨w2, h⟩ := h
  refine ⟨(hS.vin ⟨by decide, by decide⟩ rfl w2), ?_⟩
  refine ⟨fun hc => ?_, fun hc => ?_⟩
  · replace h := h.1 hc
    intro S3 eS3
    replace h := h S3 eS3
    have hS3 : shM S3 := by rw [eS3]; exact hS
    refine fx_cons h (fx_qv_m fun S4 h => ?_)
    obtain ⟨hS4, h⟩ := h
    refine ⟨(hS4.is ⟨by decide, by decide⟩ rfl), ?_⟩
    refine fx_cons h (fx_qv_m fun S5 h => ?_)
    obtain ⟨hS5, h⟩ := h
    refine ⟨(hS5.is ⟨by decide, by decide⟩ rfl), ?_⟩
    intro S6 eS6
    replace h := h S6 eS6
    have hS6 : shM S6 := by rw [eS6]; exact hS5
    refine fx_cons h (fx_qi_m fun x8 S7 h => ?_)
    obtain ⟨hS7, h⟩ := h
    exact h
  · replace h := h.2 hc
    exact h
theorem bs_M_mendParents_0 {G : fx_G} {S : fx_S} {Q : fx_R → fx_S → Prop} (hS : shM S)   (h : fx_Go G (2, 31) mm_M_mendParents 2 [(0, fx_r G 85), (1, .int 1)] [] S Q) :
    fx_Go G (2, 31) mm_M_mendParents 0 [(0, fx_r G 85)] [] S Q := by
  refine bk_M_mendParents_0 85 ?_
  exact h
theorem bs_M_mendParents_2 {G : fx_G} {S : fx_S} {Q : fx_R → fx_S → Prop} (hS : shM S) (v1 : Int32)  (h : (12 ≤ v1 → Q (.inl (some (.int 1))) S) ∧ (¬ 12 ≤ v1 → vp_in v1 12 ∧ ((fx_I S 87 (v1.toNatClampNeg)) = 0 → fx_Go G (2, 31) mm_M_mendParents 2 [(0, fx_r G 85), (1, .int (v1 + Int32.ofInt 1))] [] S Q) ∧ (¬ (fx_I S 87 (v1.toNatClampNeg)) = 0 → fx_Go G (1, 15) mm_M_leadsUp 0 [(0, fx_r G 85), (1, .int v1)] [] S (fx_qi (fun x4 S3 => shM S3 ∧ (x4 = 0 → fx_Go G (2, 31) mm_M_mendParents 30 [(0, fx_r G 85), (1, .int v1), (2, .int 0)] [] S3 Q) ∧ (¬ x4 = 0 → fx_Go G (2, 31) mm_M_mendParents 2 [(0, fx_r G 85), (1, .int (v1 + Int32.ofInt 1))] [] S3 Q)) Q)))) :
    fx_Go G (2, 31) mm_M_mendParents 2 [(0, fx_r G 85), (1, .int v1)] [] S Q := by
  refine bk_M_mendParents_2 85 v1 ?_
  refine ⟨fun hc => ?_, fun hc => ?_⟩
  · replace h := h.1 hc
    exact h
  · replace h := h.2 hc
    refine ⟨(hS.is ⟨by decide, by decide⟩ rfl), ?_⟩
    refine ⟨_, (hS.P ⟨by decide, by decide⟩ rfl), ?_⟩
    refine ⟨(hS.is ⟨by decide, by decide⟩ rfl), ?_⟩
    obtain ⟨w2, h⟩ := h
    refine ⟨(hS.vin ⟨by decide, by decide⟩ rfl w2), ?_⟩
    refine ⟨fun hc => ?_, fun hc => ?_⟩
    · replace h := h.1 hc
      exact h
    · replace h := h.2 hc
      refine fx_cons h (fx_qi_m fun x4 S3 h => ?_)
      obtain ⟨hS3, h⟩ := h
      refine ⟨fun hc => ?_, fun hc => ?_⟩
      · replace h := h.1 hc
        exact h
      · replace h := h.2 hc
        exact h
theorem bs_M_mendParents_30 {G : fx_G} {S : fx_S} {Q : fx_R → fx_S → Prop} (hS : shM S) (v1 : Int32) (v2 : Int32)  (h : (64 ≤ v2 → vp_in 1 64 ∧ ∀ S3, S3 = fx_setI S 90 ((1 : Int32).toNatClampNeg) 0 → vp_in 8 64 ∧ ∀ S6, S6 = fx_setI S3 85 9 (10 + (fx_I S3 90 ((8 : Int32).toNatClampNeg))) → ∀ S7, S7 = fx_setI S6 85 16 ((fx_I S6 85 16) + 1) → fx_Go G (1, 15) mm_M_store 0 [(0, fx_r G 85), (1, .int v1)] [] S7 (fx_qi (fun x9 S8 => shM S8 ∧ (¬ x9 = 0 → fx_Go G (2, 31) mm_M_mendParents 2 [(0, fx_r G 85), (1, .int (v1 + Int32.ofInt 1))] [] S8 Q) ∧ (x9 = 0 → Q (.inl (some (.int 0))) S8)) Q)) ∧ (¬ 64 ≤ v2 → fx_Go G (0, 0) mm_M_byteOf 0 [(0, fx_r G 85), (1, .int v1), (2, .int v2)] [] S (fx_qi (fun x12 S11 => shM S11 ∧ vp_in v2 64 ∧ ∀ S14, S14 = fx_setI S11 90 (v2.toNatClampNeg) x12 → fx_Go G (2, 31) mm_M_mendParents 30 [(0, fx_r G 85), (1, .int v1), (2, .int (v2 + Int32.ofInt 1))] [] S14 Q) Q))) :
    fx_Go G (2, 31) mm_M_mendParents 30 [(0, fx_r G 85), (1, .int v1), (2, .int v2)] [] S Q := by
  refine bk_M_mendParents_30 85 v1 v2 ?_
  refine ⟨fun hc => ?_, fun hc => ?_⟩
  · replace h := h.1 hc
    refine ⟨(hS.is ⟨by decide, by decide⟩ rfl), ?_⟩
    refine ⟨_, (hS.P ⟨by decide, by decide⟩ rfl), ?_⟩
    refine ⟨(hS.is ⟨by decide, by decide⟩ rfl), ?_⟩
    obtain ⟨w2, h⟩ := h
    refine ⟨(hS.vin ⟨by decide, by decide⟩ rfl w2), ?_⟩
    intro S3 eS3
    replace h := h S3 eS3
    have hS3 : shM S3 := by rw [eS3]; exact hS
    refine ⟨_, (hS3.P ⟨by decide, by decide⟩ rfl), ?_⟩
    refine ⟨(hS3.is ⟨by decide, by decide⟩ rfl), ?_⟩
    obtain ⟨w5, h⟩ := h
    refine ⟨(hS3.vin ⟨by decide, by decide⟩ rfl w5), ?_⟩
    intro S6 eS6
    replace h := h S6 eS6
    have hS6 : shM S6 := by rw [eS6]; exact hS3
    intro S7 eS7
    replace h := h S7 eS7
    have hS7 : shM S7 := by rw [eS7]; exact hS6
    refine fx_cons h (fx_qi_m fun x9 S8 h => ?_)
    obtain ⟨hS8, h⟩ := h
    refine ⟨fun hc => ?_, fun hc => ?_⟩
    · replace h := h.1 hc
      exact h
    · replace h := h.2 hc
      exact h
  · replace h := h.2 hc
    refine ⟨(hS.is ⟨by decide, by decide⟩ rfl), ?_⟩
    refine ⟨_, (hS.P ⟨by decide, by decide⟩ rfl), ?_⟩
    refine fx_cons h (fx_qi_m fun x12 S11 h => ?_)
    obtain ⟨hS11, h⟩ := h
    refine ⟨(hS11.is ⟨by decide, by decide⟩ rfl), ?_⟩
    obtain ⟨w13, h⟩ := h
    refine ⟨(hS11.vin ⟨by decide, by decide⟩ rfl w13), ?_⟩
    intro S14 eS14
    replace h := h S14 eS14
    have hS14 : shM S14 := by rw [eS14]; exact hS11
    exact h
theorem bs_M_mendLists_0 {G : fx_G} {S : fx_S} {Q : fx_R → fx_S → Prop} (hS : shM S)   (h : fx_Go G (6, 90) mm_M_mendLists 2 [(0, fx_r G 85), (1, .int 0)] [] S Q) :
    fx_Go G (6, 90) mm_M_mendLists 0 [(0, fx_r G 85)] [] S Q := by
  refine bk_M_mendLists_0 85 ?_
  exact h
theorem bs_M_mendLists_2 {G : fx_G} {S : fx_S} {Q : fx_R → fx_S → Prop} (hS : shM S) (v1 : Int32)  (h : (12 ≤ v1 → Q (.inl (some (.int 1))) S) ∧ (¬ 12 ≤ v1 → vp_in v1 12 ∧ ((fx_I S 87 (v1.toNatClampNeg)) = 0 → fx_Go G (6, 90) mm_M_mendLists 2 [(0, fx_r G 85), (1, .int (v1 + Int32.ofInt 1))] [] S Q) ∧ (¬ (fx_I S 87 (v1.toNatClampNeg)) = 0 → fx_Go G (0, 0) mm_M_byteOf 0 [(0, fx_r G 85), (1, .int v1), (2, .int 0)] [] S (fx_qi (fun x4 S3 => shM S3 ∧ (x4 = 2 → ∀ S5, S5 = fx_setI S3 85 14 0 → fx_Go G (6, 90) mm_M_mendLists 37 [(0, fx_r G 85), (1, .int v1), (2, .int 1)] [] S5 Q) ∧ (¬ x4 = 2 → fx_Go G (6, 90) mm_M_mendLists 2 [(0, fx_r G 85), (1, .int (v1 + Int32.ofInt 1))] [] S3 Q)) Q)))) :
    fx_Go G (6, 90) mm_M_mendLists 2 [(0, fx_r G 85), (1, .int v1)] [] S Q := by
  refine bk_M_mendLists_2 85 v1 ?_
  refine ⟨fun hc => ?_, fun hc => ?_⟩
  · replace h := h.1 hc
    exact h
  · replace h := h.2 hc
    refine ⟨(hS.is ⟨by decide, by decide⟩ rfl), ?_⟩
    refine ⟨_, (hS.P ⟨by decide, by decide⟩ rfl), ?_⟩
    refine ⟨(hS.is ⟨by decide, by decide⟩ rfl), ?_⟩
    obtain ⟨w2, h⟩ := h
    refine ⟨(hS.vin ⟨by decide, by decide⟩ rfl w2), ?_⟩
    refine ⟨fun hc => ?_, fun hc => ?_⟩
    · replace h := h.1 hc
      exact h
    · replace h := h.2 hc
      refine fx_cons h (fx_qi_m fun x4 S3 h => ?_)
      obtain ⟨hS3, h⟩ := h
      refine ⟨fun hc => ?_, fun hc => ?_⟩
      · replace h := h.1 hc
        refine ⟨(hS3.is ⟨by decide, by decide⟩ rfl), ?_⟩
        intro S5 eS5
        replace h := h S5 eS5
        have hS5 : shM S5 := by rw [eS5]; exact hS3
        exact h
      · replace h := h.2 hc
        exact h
theorem bs_M_mendLists_37 {G : fx_G} {S : fx_S} {Q : fx_R → fx_S → Prop} (hS : shM S) (v1 : Int32) (v2 : Int32)  (h : (12 ≤ v2 → fx_Go G (2, 34) mm_M_listLength 0 [(0, fx_r G 85), (1, .int v1)] [] S (fx_qi (fun x2 S1 => shM S1 ∧ (¬ (fx_I S 85 14) = x2 → fx_Go G (6, 90) mm_M_mendLists 93 [(0, fx_r G 85), (1, .int v1), (2, .int 0), (3, .int 0)] [] S1 Q) ∧ ((fx_I S 85 14) = x2 → fx_Go G (6, 90) mm_M_mendLists 93 [(0, fx_r G 85), (1, .int v1), (2, .int 1), (3, .int 0)] [] S1 Q)) Q)) ∧ (¬ 12 ≤ v2 → vp_in v2 12 ∧ ((fx_I S 87 (v2.toNatClampNeg)) = 0 → fx_Go G (6, 90) mm_M_mendLists 37 [(0, fx_r G 85), (1, .int v1), (2, .int (v2 + Int32.ofInt 1))] [] S Q) ∧ (¬ (fx_I S 87 (v2.toNatClampNeg)) = 0 → fx_Go G (0, 0) mm_M_byteOf 0 [(0, fx_r G 85), (1, .int v2), (2, .int 1)] [] S (fx_qi (fun x6 S5 => shM S5 ∧ (¬ x6 = v1 → fx_Go G (6, 90) mm_M_mendLists 37 [(0, fx_r G 85), (1, .int v1), (2, .int (v2 + Int32.ofInt 1))] [] S5 Q) ∧ (x6 = v1 → fx_Go G (5, 76) mm_M_join 0 [(0, fx_r G 85), (1, .int v2)] [] S5 (fx_qv (fun S7 => shM S7 ∧ fx_Go G (6, 90) mm_M_mendLists 37 [(0, fx_r G 85), (1, .int v1), (2, .int (v2 + Int32.ofInt 1))] [] S7 Q) Q))) Q)))) :
    fx_Go G (6, 90) mm_M_mendLists 37 [(0, fx_r G 85), (1, .int v1), (2, .int v2)] [] S Q := by
  refine bk_M_mendLists_37 85 v1 v2 ?_
  refine ⟨fun hc => ?_, fun hc => ?_⟩
  · replace h := h.1 hc
    refine ⟨(hS.is ⟨by decide, by decide⟩ rfl), ?_⟩
    refine fx_cons h (fx_qi_m fun x2 S1 h => ?_)
    obtain ⟨hS1, h⟩ := h
    refine ⟨fun hc => ?_, fun hc => ?_⟩
    · replace h := h.1 hc
      exact h
    · replace h := h.2 hc
      exact h
  · replace h := h.2 hc
    refine ⟨(hS.is ⟨by decide, by decide⟩ rfl), ?_⟩
    refine ⟨_, (hS.P ⟨by decide, by decide⟩ rfl), ?_⟩
    refine ⟨(hS.is ⟨by decide, by decide⟩ rfl), ?_⟩
    obtain ⟨w4, h⟩ := h
    refine ⟨(hS.vin ⟨by decide, by decide⟩ rfl w4), ?_⟩
    refine ⟨fun hc => ?_, fun hc => ?_⟩
    · replace h := h.1 hc
      exact h
    · replace h := h.2 hc
      refine fx_cons h (fx_qi_m fun x6 S5 h => ?_)
      obtain ⟨hS5, h⟩ := h
      refine ⟨fun hc => ?_, fun hc => ?_⟩
      · replace h := h.1 hc
        exact h
      · replace h := h.2 hc
        refine ⟨(hS5.is ⟨by decide, by decide⟩ rfl), ?_⟩
        refine fx_cons h (fx_qv_m fun S7 h => ?_)
        obtain ⟨hS7, h⟩ := h
        exact h
theorem bs_M_mendLists_93 {G : fx_G} {S : fx_S} {Q : fx_R → fx_S → Prop} (hS : shM S) (v1 : Int32) (v2 : Int32) (v3 : Int32)  (h : ((fx_I S 85 14) ≤ v3 → fx_Go G (6, 90) mm_M_mendLists 132 [(0, fx_r G 85), (1, .int v1), (2, .int v2)] [] S Q) ∧ (¬ (fx_I S 85 14) ≤ v3 → (v2 = 0 → fx_Go G (6, 90) mm_M_mendLists 132 [(0, fx_r G 85), (1, .int v1), (2, .int v2)] [] S Q) ∧ (¬ v2 = 0 → fx_Go G (2, 34) mm_M_entry 0 [(0, fx_r G 85), (1, .int v1), (2, .int v3)] [] S (fx_qi (fun x2 S1 => shM S1 ∧ vp_in v3 12 ∧ (¬ x2 = (fx_I S1 94 (v3.toNatClampNeg)) → fx_Go G (6, 90) mm_M_mendLists 93 [(0, fx_r G 85), (1, .int v1), (2, .int 0), (3, .int (v3 + Int32.ofInt 1))] [] S1 Q) ∧ (x2 = (fx_I S1 94 (v3.toNatClampNeg)) → fx_Go G (6, 90) mm_M_mendLists 93 [(0, fx_r G 85), (1, .int v1), (2, .int 1), (3, .int (v3 + Int32.ofInt 1))] [] S1 Q)) Q)))) :
    fx_Go G (6, 90) mm_M_mendLists 93 [(0, fx_r G 85), (1, .int v1), (2, .int v2), (3, .int v3)] [] S Q := by
  refine bk_M_mendLists_93 85 v1 v2 v3 ?_
  refine ⟨(hS.is ⟨by decide, by decide⟩ rfl), ?_⟩
  refine ⟨fun hc => ?_, fun hc => ?_⟩
  · replace h := h.1 hc
    exact h
  · replace h := h.2 hc
    refine ⟨fun hc => ?_, fun hc => ?_⟩
    · replace h := h.1 hc
      exact h
    · replace h := h.2 hc
      refine fx_cons h (fx_qi_m fun x2 S1 h => ?_)
      obtain ⟨hS1, h⟩ := h
      refine ⟨(hS1.is ⟨by decide, by decide⟩ rfl), ?_⟩
      refine ⟨_, (hS1.P ⟨by decide, by decide⟩ rfl), ?_⟩
      refine ⟨(hS1.is ⟨by decide, by decide⟩ rfl), ?_⟩
      obtain ⟨w4, h⟩ := h
      refine ⟨(hS1.vin ⟨by decide, by decide⟩ rfl w4), ?_⟩
      refine ⟨fun hc => ?_, fun hc => ?_⟩
      · replace h := h.1 hc
        exact h
      · replace h := h.2 hc
        exact h
theorem bs_M_mendLists_132 {G : fx_G} {S : fx_S} {Q : fx_R → fx_S → Prop} (hS : shM S) (v1 : Int32) (v2 : Int32)  (h : (v2 = 0 → ∀ S1, S1 = fx_setI S 85 16 ((fx_I S 85 16) + 1) → fx_Go G (0, 0) mm_M_byteOf 0 [(0, fx_r G 85), (1, .int v1), (2, .int 1)] [] S1 (fx_qi (fun x3 S2 => shM S2 ∧ fx_Go G (4, 60) mm_M_storeList 0 [(0, fx_r G 85), (1, .int v1), (2, .int x3)] [] S2 (fx_qi (fun x5 S4 => shM S4 ∧ (¬ x5 = 0 → fx_Go G (6, 90) mm_M_mendLists 2 [(0, fx_r G 85), (1, .int (v1 + Int32.ofInt 1))] [] S4 Q) ∧ (x5 = 0 → Q (.inl (some (.int 0))) S4)) Q)) Q)) ∧ (¬ v2 = 0 → fx_Go G (6, 90) mm_M_mendLists 2 [(0, fx_r G 85), (1, .int (v1 + Int32.ofInt 1))] [] S Q)) :
    fx_Go G (6, 90) mm_M_mendLists 132 [(0, fx_r G 85), (1, .int v1), (2, .int v2)] [] S Q := by
  refine bk_M_mendLists_132 85 v1 v2 ?_
  refine ⟨fun hc => ?_, fun hc => ?_⟩
  · replace h := h.1 hc
    refine ⟨(hS.is ⟨by decide, by decide⟩ rfl), ?_⟩
    intro S1 eS1
    replace h := h S1 eS1
    have hS1 : shM S1 := by rw [eS1]; exact hS
    refine fx_cons h (fx_qi_m fun x3 S2 h => ?_)
    obtain ⟨hS2, h⟩ := h
    refine ⟨(hS2.is ⟨by decide, by decide⟩ rfl), ?_⟩
    refine fx_cons h (fx_qi_m fun x5 S4 h => ?_)
    obtain ⟨hS4, h⟩ := h
    refine ⟨fun hc => ?_, fun hc => ?_⟩
    · replace h := h.1 hc
      exact h
    · replace h := h.2 hc
      exact h
  · replace h := h.2 hc
    exact h
theorem bs_M_mount_0 {G : fx_G} {S : fx_S} {Q : fx_R → fx_S → Prop} (hS : shM S)   (h : ∀ S1, S1 = fx_setI S 85 0 0 → ∀ S2, S2 = fx_setI S1 85 4 0 → ∀ S3, S3 = fx_setI S2 85 16 0 → fx_Go G (7, 105) mm_M_mount 17 [(0, fx_r G 85), (1, .int 0)] [] S3 Q) :
    fx_Go G (7, 105) mm_M_mount 0 [(0, fx_r G 85)] [] S Q := by
  refine bk_M_mount_0 85 ?_
  refine ⟨(hS.is ⟨by decide, by decide⟩ rfl), ?_⟩
  intro S1 eS1
  replace h := h S1 eS1
  have hS1 : shM S1 := by rw [eS1]; exact hS
  intro S2 eS2
  replace h := h S2 eS2
  have hS2 : shM S2 := by rw [eS2]; exact hS1
  intro S3 eS3
  replace h := h S3 eS3
  have hS3 : shM S3 := by rw [eS3]; exact hS2
  exact h
theorem bs_M_mount_17 {G : fx_G} {S : fx_S} {Q : fx_R → fx_S → Prop} (hS : shM S) (v1 : Int32)  (h : (12 ≤ v1 → fx_Go G (2, 31) mm_M_mendRoot 0 [(0, fx_r G 85)] [] S (fx_qi (fun x2 S1 => shM S1 ∧ (x2 = 0 → fx_Go G (0, 0) mm_M_refuse 0 [(0, fx_r G 85), (1, .int 1)] [] S1 (fx_qi (fun x4 S3 => shM S3 ∧ Q (.inl (some (.int x4))) S3) Q)) ∧ (¬ x2 = 0 → fx_Go G (2, 31) mm_M_mendParents 0 [(0, fx_r G 85)] [] S1 (fx_qi (fun x6 S5 => shM S5 ∧ (x6 = 0 → fx_Go G (0, 0) mm_M_refuse 0 [(0, fx_r G 85), (1, .int 1)] [] S5 (fx_qi (fun x8 S7 => shM S7 ∧ Q (.inl (some (.int x8))) S7) Q)) ∧ (¬ x6 = 0 → fx_Go G (6, 90) mm_M_mendLists 0 [(0, fx_r G 85)] [] S5 (fx_qi (fun x10 S9 => shM S9 ∧ (¬ x10 = 0 → fx_Go G (7, 105) mm_M_mount 97 [(0, fx_r G 85), (1, .int 0)] [] S9 Q) ∧ (x10 = 0 → fx_Go G (0, 0) mm_M_refuse 0 [(0, fx_r G 85), (1, .int 1)] [] S9 (fx_qi (fun x12 S11 => shM S11 ∧ Q (.inl (some (.int x12))) S11) Q))) Q))) Q))) Q)) ∧ (¬ 12 ≤ v1 → vp_in (64 * v1) 2048 ∧ fx_Go G (1, 13) mm_M_isTorn 0 [(0, fx_r G 85), (1, .int v1)] [] S (fx_qi (fun x17 S16 => shM S16 ∧ (¬ x17 = 0 → vp_in v1 12 ∧ ∀ S19, S19 = fx_setI S16 87 (v1.toNatClampNeg) (vp_nar .boolean 0) → fx_Go G (7, 105) mm_M_mount 17 [(0, fx_r G 85), (1, .int (v1 + Int32.ofInt 1))] [] S19 Q) ∧ (x17 = 0 → ((fx_I S 86 ((64 * v1).toNatClampNeg)) = 1 → vp_in v1 12 ∧ ∀ S21, S21 = fx_setI S16 87 (v1.toNatClampNeg) (vp_nar .boolean 1) → fx_Go G (7, 105) mm_M_mount 17 [(0, fx_r G 85), (1, .int (v1 + Int32.ofInt 1))] [] S21 Q) ∧ (¬ (fx_I S 86 ((64 * v1).toNatClampNeg)) = 1 → (¬ (fx_I S 86 ((64 * v1).toNatClampNeg)) = 2 → vp_in v1 12 ∧ ∀ S23, S23 = fx_setI S16 87 (v1.toNatClampNeg) (vp_nar .boolean 0) → fx_Go G (7, 105) mm_M_mount 17 [(0, fx_r G 85), (1, .int (v1 + Int32.ofInt 1))] [] S23 Q) ∧ ((fx_I S 86 ((64 * v1).toNatClampNeg)) = 2 → vp_in v1 12 ∧ ∀ S25, S25 = fx_setI S16 87 (v1.toNatClampNeg) (vp_nar .boolean 1) → fx_Go G (7, 105) mm_M_mount 17 [(0, fx_r G 85), (1, .int (v1 + Int32.ofInt 1))] [] S25 Q)))) Q))) :
    fx_Go G (7, 105) mm_M_mount 17 [(0, fx_r G 85), (1, .int v1)] [] S Q := by
  refine bk_M_mount_17 85 v1 ?_
  refine ⟨fun hc => ?_, fun hc => ?_⟩
  · replace h := h.1 hc
    refine ⟨(hS.is ⟨by decide, by decide⟩ rfl), ?_⟩
    refine fx_cons h (fx_qi_m fun x2 S1 h => ?_)
    obtain ⟨hS1, h⟩ := h
    refine ⟨fun hc => ?_, fun hc => ?_⟩
    · replace h := h.1 hc
      refine ⟨(hS1.is ⟨by decide, by decide⟩ rfl), ?_⟩
      refine fx_cons h (fx_qi_m fun x4 S3 h => ?_)
      obtain ⟨hS3, h⟩ := h
      exact h
    · replace h := h.2 hc
      refine ⟨(hS1.is ⟨by decide, by decide⟩ rfl), ?_⟩
      refine fx_cons h (fx_qi_m fun x6 S5 h => ?_)
      obtain ⟨hS5, h⟩ := h
      refine ⟨fun hc => ?_, fun hc => ?_⟩
      · replace h := h.1 hc
        refine ⟨(hS5.is ⟨by decide, by decide⟩ rfl), ?_⟩
        refine fx_cons h (fx_qi_m fun x8 S7 h => ?_)
        obtain ⟨hS7, h⟩ := h
        exact h
      · replace h := h.2 hc
        refine ⟨(hS5.is ⟨by decide, by decide⟩ rfl), ?_⟩
        refine fx_cons h (fx_qi_m fun x10 S9 h => ?_)
        obtain ⟨hS9, h⟩ := h
        refine ⟨fun hc => ?_, fun hc => ?_⟩
        · replace h := h.1 hc
          exact h
        · replace h := h.2 hc
          refine ⟨(hS9.is ⟨by decide, by decide⟩ rfl), ?_⟩
          refine fx_cons h (fx_qi_m fun x12 S11 h => ?_)
          obtain ⟨hS11, h⟩ := h
          exact h
  · replace h := h.2 hc
    refine ⟨(hS.is ⟨by decide, by decide⟩ rfl), ?_⟩
    refine ⟨_, (hS.P ⟨by decide, by decide⟩ rfl), ?_⟩
    refine ⟨(hS.is ⟨by decide, by decide⟩ rfl), ?_⟩
    obtain ⟨w14, h⟩ := h
    refine ⟨(hS.vin ⟨by decide, by decide⟩ rfl w14), ?_⟩
    refine ⟨_, (hS.P ⟨by decide, by decide⟩ rfl), ?_⟩
    refine fx_cons h (fx_qi_m fun x17 S16 h => ?_)
    obtain ⟨hS16, h⟩ := h
    refine ⟨fun hc => ?_, fun hc => ?_⟩
    · replace h := h.1 hc
      refine ⟨(hS16.is ⟨by decide, by decide⟩ rfl), ?_⟩
      obtain ⟨w18, h⟩ := h
      refine ⟨(hS16.vin ⟨by decide, by decide⟩ rfl w18), ?_⟩
      intro S19 eS19
      replace h := h S19 eS19
      have hS19 : shM S19 := by rw [eS19]; exact hS16
      exact h
    · replace h := h.2 hc
      refine ⟨fun hc => ?_, fun hc => ?_⟩
      · replace h := h.1 hc
        refine ⟨(hS16.is ⟨by decide, by decide⟩ rfl), ?_⟩
        obtain ⟨w20, h⟩ := h
        refine ⟨(hS16.vin ⟨by decide, by decide⟩ rfl w20), ?_⟩
        intro S21 eS21
        replace h := h S21 eS21
        have hS21 : shM S21 := by rw [eS21]; exact hS16
        exact h
      · replace h := h.2 hc
        refine ⟨fun hc => ?_, fun hc => ?_⟩
        · replace h := h.1 hc
          refine ⟨(hS16.is ⟨by decide, by decide⟩ rfl), ?_⟩
          obtain ⟨w22, h⟩ := h
          refine ⟨(hS16.vin ⟨by decide, by decide⟩ rfl w22), ?_⟩
          intro S23 eS23
          replace h := h S23 eS23
          have hS23 : shM S23 := by rw [eS23]; exact hS16
          exact h
        · replace h := h.2 hc
          refine ⟨(hS16.is ⟨by decide, by decide⟩ rfl), ?_⟩
          obtain ⟨w24, h⟩ := h
          refine ⟨(hS16.vin ⟨by decide, by decide⟩ rfl w24), ?_⟩
          intro S25 eS25
          replace h := h S25 eS25
          have hS25 : shM S25 := by rw [eS25]; exact hS16
          exact h
theorem bs_M_mount_97 {G : fx_G} {S : fx_S} {Q : fx_R → fx_S → Prop} (hS : shM S) (v1 : Int32)  (h : (128 ≤ v1 → fx_Go G (7, 105) mm_M_mount 119 [(0, fx_r G 85), (1, .int 0)] [] S Q) ∧ (¬ 128 ≤ v1 → vp_in v1 128 ∧ ∀ S3, S3 = fx_setI S 88 (v1.toNatClampNeg) (vp_nar .boolean 0) → fx_Go G (7, 105) mm_M_mount 97 [(0, fx_r G 85), (1, .int (v1 + Int32.ofInt 1))] [] S3 Q)) :
    fx_Go G (7, 105) mm_M_mount 97 [(0, fx_r G 85), (1, .int v1)] [] S Q := by
  refine bk_M_mount_97 85 v1 ?_
  refine ⟨fun hc => ?_, fun hc => ?_⟩
  · replace h := h.1 hc
    exact h
  · replace h := h.2 hc
    refine ⟨(hS.is ⟨by decide, by decide⟩ rfl), ?_⟩
    refine ⟨_, (hS.P ⟨by decide, by decide⟩ rfl), ?_⟩
    refine ⟨(hS.is ⟨by decide, by decide⟩ rfl), ?_⟩
    obtain ⟨w2, h⟩ := h
    refine ⟨(hS.vin ⟨by decide, by decide⟩ rfl w2), ?_⟩
    intro S3 eS3
    replace h := h S3 eS3
    have hS3 : shM S3 := by rw [eS3]; exact hS
    exact h
theorem bs_M_mount_119 {G : fx_G} {S : fx_S} {Q : fx_R → fx_S → Prop} (hS : shM S) (v1 : Int32)  (h : (12 ≤ v1 → ∀ S1, S1 = fx_setI S 85 4 1 → Q (.inl (some (.int (fx_I S1 85 16)))) S1) ∧ (¬ 12 ≤ v1 → vp_in v1 12 ∧ ((fx_I S 87 (v1.toNatClampNeg)) = 0 → fx_Go G (7, 105) mm_M_mount 119 [(0, fx_r G 85), (1, .int (v1 + Int32.ofInt 1))] [] S Q) ∧ (¬ (fx_I S 87 (v1.toNatClampNeg)) = 0 → fx_Go G (0, 0) mm_M_byteOf 0 [(0, fx_r G 85), (1, .int v1), (2, .int 0)] [] S (fx_qi (fun x5 S4 => shM S4 ∧ (x5 = 1 → fx_Go G (2, 32) mm_M_loadMap 0 [(0, fx_r G 85), (1, .int v1)] [] S4 (fx_qv (fun S6 => shM S6 ∧ fx_Go G (7, 105) mm_M_mount 154 [(0, fx_r G 85), (1, .int v1), (2, .int 0)] [] S6 Q) Q)) ∧ (¬ x5 = 1 → fx_Go G (7, 105) mm_M_mount 119 [(0, fx_r G 85), (1, .int (v1 + Int32.ofInt 1))] [] S4 Q)) Q)))) :
    fx_Go G (7, 105) mm_M_mount 119 [(0, fx_r G 85), (1, .int v1)] [] S Q := by
  refine bk_M_mount_119 85 v1 ?_
  refine ⟨fun hc => ?_, fun hc => ?_⟩
  · replace h := h.1 hc
    refine ⟨(hS.is ⟨by decide, by decide⟩ rfl), ?_⟩
    intro S1 eS1
    replace h := h S1 eS1
    have hS1 : shM S1 := by rw [eS1]; exact hS
    exact h
  · replace h := h.2 hc
    refine ⟨(hS.is ⟨by decide, by decide⟩ rfl), ?_⟩
    refine ⟨_, (hS.P ⟨by decide, by decide⟩ rfl), ?_⟩
    refine ⟨(hS.is ⟨by decide, by decide⟩ rfl), ?_⟩
    obtain ⟨w3, h⟩ := h
    refine ⟨(hS.vin ⟨by decide, by decide⟩ rfl w3), ?_⟩
    refine ⟨fun hc => ?_, fun hc => ?_⟩
    · replace h := h.1 hc
      exact h
    · replace h := h.2 hc
      refine fx_cons h (fx_qi_m fun x5 S4 h => ?_)
      obtain ⟨hS4, h⟩ := h
      refine ⟨fun hc => ?_, fun hc => ?_⟩
      · replace h := h.1 hc
        refine ⟨(hS4.is ⟨by decide, by decide⟩ rfl), ?_⟩
        refine fx_cons h (fx_qv_m fun S6 h => ?_)
        obtain ⟨hS6, h⟩ := h
        exact h
      · replace h := h.2 hc
        exact h
theorem bs_M_mount_154 {G : fx_G} {S : fx_S} {Q : fx_R → fx_S → Prop} (hS : shM S) (v1 : Int32) (v2 : Int32)  (h : ((fx_I S 85 10) ≤ v2 → fx_Go G (7, 105) mm_M_mount 119 [(0, fx_r G 85), (1, .int (v1 + Int32.ofInt 1))] [] S Q) ∧ (¬ (fx_I S 85 10) ≤ v2 → vp_in v2 64 ∧ ((fx_I S 91 (v2.toNatClampNeg)) < 0 → fx_Go G (7, 105) mm_M_mount 154 [(0, fx_r G 85), (1, .int v1), (2, .int (v2 + Int32.ofInt 1))] [] S Q) ∧ (¬ (fx_I S 91 (v2.toNatClampNeg)) < 0 → vp_in v2 64 ∧ vp_in (fx_I S 91 (v2.toNatClampNeg)) 128 ∧ ∀ S7, S7 = fx_setI S 88 ((fx_I S 91 (v2.toNatClampNeg)).toNatClampNeg) (vp_nar .boolean 1) → fx_Go G (7, 105) mm_M_mount 154 [(0, fx_r G 85), (1, .int v1), (2, .int (v2 + Int32.ofInt 1))] [] S7 Q))) :
    fx_Go G (7, 105) mm_M_mount 154 [(0, fx_r G 85), (1, .int v1), (2, .int v2)] [] S Q := by
  refine bk_M_mount_154 85 v1 v2 ?_
  refine ⟨(hS.is ⟨by decide, by decide⟩ rfl), ?_⟩
  refine ⟨fun hc => ?_, fun hc => ?_⟩
  · replace h := h.1 hc
    exact h
  · replace h := h.2 hc
    refine ⟨_, (hS.P ⟨by decide, by decide⟩ rfl), ?_⟩
    refine ⟨(hS.is ⟨by decide, by decide⟩ rfl), ?_⟩
    obtain ⟨w2, h⟩ := h
    refine ⟨(hS.vin ⟨by decide, by decide⟩ rfl w2), ?_⟩
    refine ⟨fun hc => ?_, fun hc => ?_⟩
    · replace h := h.1 hc
      exact h
    · replace h := h.2 hc
      refine ⟨_, (hS.P ⟨by decide, by decide⟩ rfl), ?_⟩
      refine ⟨_, (hS.P ⟨by decide, by decide⟩ rfl), ?_⟩
      refine ⟨(hS.is ⟨by decide, by decide⟩ rfl), ?_⟩
      obtain ⟨w5, h⟩ := h
      refine ⟨(hS.vin ⟨by decide, by decide⟩ rfl w5), ?_⟩
      refine ⟨(hS.is ⟨by decide, by decide⟩ rfl), ?_⟩
      obtain ⟨w6, h⟩ := h
      refine ⟨(hS.vin ⟨by decide, by decide⟩ rfl w6), ?_⟩
      intro S7 eS7
      replace h := h S7 eS7
      have hS7 : shM S7 := by rw [eS7]; exact hS
      exact h
theorem bs_M_on_0 {G : fx_G} {S : fx_S} {Q : fx_R → fx_S → Prop} (hS : shM S)   (h : ∀ S1, S1 = fx_setI S 85 0 0 → narrow .boolean (.int (fx_I S1 85 4)) = .int (fx_I S1 85 4) ∧ Q (.inl (some (.int (fx_I S1 85 4)))) S1) :
    fx_Go G (0, 0) mm_M_on 0 [(0, fx_r G 85)] [] S Q := by
  refine bk_M_on_0 85 ?_
  refine ⟨(hS.is ⟨by decide, by decide⟩ rfl), ?_⟩
  intro S1 eS1
  replace h := h S1 eS1
  have hS1 : shM S1 := by rw [eS1]; exact hS
  exact h
theorem bs_M_find_0 {G : fx_G} {S : fx_S} {Q : fx_R → fx_S → Prop} (hS : shM S) (v1 : Int32)  (h : ∀ S1, S1 = fx_setI S 85 0 0 → fx_Go G (1, 15) mm_M_isKind 0 [(0, fx_r G 85), (1, .int v1), (2, .int 2)] [] S1 (fx_qi (fun x3 S2 => shM S2 ∧ (x3 = 0 → ∀ S4, S4 = fx_setI S2 85 6 0 → Q (.inl (some (.int (-1)))) S4) ∧ (¬ x3 = 0 → ((fx_I S2 85 6) ≤ 0 → ∀ S5, S5 = fx_setI S2 85 6 0 → Q (.inl (some (.int (-1)))) S5) ∧ (¬ (fx_I S2 85 6) ≤ 0 → fx_Go G (5, 75) mm_M_findDraft 0 [(0, fx_r G 85), (1, .int v1)] [] S2 (fx_qi (fun x7 S6 => shM S6 ∧ ∀ S8, S8 = fx_setI S6 85 6 0 → Q (.inl (some (.int x7))) S8) Q)))) Q)) :
    fx_Go G (6, 89) mm_M_find 0 [(0, fx_r G 85), (1, .int v1)] [] S Q := by
  refine bk_M_find_0 85 v1 ?_
  refine ⟨(hS.is ⟨by decide, by decide⟩ rfl), ?_⟩
  intro S1 eS1
  replace h := h S1 eS1
  have hS1 : shM S1 := by rw [eS1]; exact hS
  refine fx_cons h (fx_qi_m fun x3 S2 h => ?_)
  obtain ⟨hS2, h⟩ := h
  refine ⟨fun hc => ?_, fun hc => ?_⟩
  · replace h := h.1 hc
    refine ⟨(hS2.is ⟨by decide, by decide⟩ rfl), ?_⟩
    intro S4 eS4
    replace h := h S4 eS4
    have hS4 : shM S4 := by rw [eS4]; exact hS2
    exact h
  · replace h := h.2 hc
    refine ⟨(hS2.is ⟨by decide, by decide⟩ rfl), ?_⟩
    refine ⟨fun hc => ?_, fun hc => ?_⟩
    · replace h := h.1 hc
      intro S5 eS5
      replace h := h S5 eS5
      have hS5 : shM S5 := by rw [eS5]; exact hS2
      exact h
    · replace h := h.2 hc
      refine fx_cons h (fx_qi_m fun x7 S6 h => ?_)
      obtain ⟨hS6, h⟩ := h
      refine ⟨(hS6.is ⟨by decide, by decide⟩ rfl), ?_⟩
      intro S8 eS8
      replace h := h S8 eS8
      have hS8 : shM S8 := by rw [eS8]; exact hS6
      exact h
theorem bs_M_runsOf_0 {G : fx_G} {S : fx_S} {Q : fx_R → fx_S → Prop} (hS : shM S) (v1 : Int32)  (h : fx_Go G (1, 16) mm_M_attribute 0 [(0, fx_r G 85), (1, .int v1), (2, .int 3)] [] S (fx_qi (fun x2 S1 => shM S1 ∧ (0 ≤ x2 → fx_Go G (2, 32) mm_M_runsOf 18 [(0, fx_r G 85), (1, .int v1), (2, .int (x2 + Int32.ofInt 4)), (3, .int 0)] [] S1 Q) ∧ (¬ 0 ≤ x2 → Q (.inl (some (.int 0))) S1)) Q)) :
    fx_Go G (2, 32) mm_M_runsOf 0 [(0, fx_r G 85), (1, .int v1)] [] S Q := by
  refine bk_M_runsOf_0 85 v1 ?_
  refine ⟨(hS.is ⟨by decide, by decide⟩ rfl), ?_⟩
  refine fx_cons h (fx_qi_m fun x2 S1 h => ?_)
  obtain ⟨hS1, h⟩ := h
  refine ⟨fun hc => ?_, fun hc => ?_⟩
  · replace h := h.1 hc
    exact h
  · replace h := h.2 hc
    exact h
theorem bs_M_runsOf_18 {G : fx_G} {S : fx_S} {Q : fx_R → fx_S → Prop} (hS : shM S) (v1 : Int32) (v2 : Int32) (v3 : Int32)  (h : fx_Go G (0, 0) mm_M_byteOf 0 [(0, fx_r G 85), (1, .int v1), (2, .int v2)] [] S (fx_qi (fun x2 S1 => shM S1 ∧ (x2 = 0 → Q (.inl (some (.int v3))) S1) ∧ (¬ x2 = 0 → fx_Go G (0, 0) mm_M_byteOf 0 [(0, fx_r G 85), (1, .int v1), (2, .int v2)] [] S1 (fx_qi (fun x4 S3 => shM S3 ∧ (¬ x4 = 1 → fx_Go G (2, 32) mm_M_runsOf 18 [(0, fx_r G 85), (1, .int v1), (2, .int (v2 + 3)), (3, .int (v3 + Int32.ofInt 1))] [] S3 Q) ∧ (x4 = 1 → fx_Go G (2, 32) mm_M_runsOf 18 [(0, fx_r G 85), (1, .int v1), (2, .int (v2 + 2)), (3, .int (v3 + Int32.ofInt 1))] [] S3 Q)) Q))) Q)) :
    fx_Go G (2, 32) mm_M_runsOf 18 [(0, fx_r G 85), (1, .int v1), (2, .int v2), (3, .int v3)] [] S Q := by
  refine bk_M_runsOf_18 85 v1 v2 v3 ?_
  refine ⟨(hS.is ⟨by decide, by decide⟩ rfl), ?_⟩
  refine fx_cons h (fx_qi_m fun x2 S1 h => ?_)
  obtain ⟨hS1, h⟩ := h
  refine ⟨fun hc => ?_, fun hc => ?_⟩
  · replace h := h.1 hc
    exact h
  · replace h := h.2 hc
    refine ⟨(hS1.is ⟨by decide, by decide⟩ rfl), ?_⟩
    refine fx_cons h (fx_qi_m fun x4 S3 h => ?_)
    obtain ⟨hS3, h⟩ := h
    refine ⟨fun hc => ?_, fun hc => ?_⟩
    · replace h := h.1 hc
      exact h
    · replace h := h.2 hc
      exact h
