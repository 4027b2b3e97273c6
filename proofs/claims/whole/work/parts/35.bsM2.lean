theorem bs_M_record_0 {G : fx_G} {S : fx_S} {Q : fx_R → fx_S → Prop} (hS : shM S) (v1 : Int32) (v2 : Int32)  (h : ∀ S1, S1 = fx_setI S 85 0 0 → fx_Go G (0, 0) mm_M_isRecord 0 [(0, fx_r G 85), (1, .int v1)] [] S1 (fx_qi (fun x3 S2 => shM S2 ∧ (¬ x3 = 0 → fx_Go G (0, 0) mm_M_byteOf 0 [(0, fx_r G 85), (1, .int v1), (2, .int 0)] [] S2 (fx_qi (fun x5 S4 => shM S4 ∧ (¬ x5 = 1 → fx_Go G (3, 47) mm_M_record 30 [(0, fx_r G 85), (1, .int v1), (2, .int v2)] [.int 0] S4 Q) ∧ (x5 = 1 → fx_Go G (3, 47) mm_M_record 30 [(0, fx_r G 85), (1, .int v1), (2, .int v2)] [.int 1] S4 Q)) Q)) ∧ (x3 = 0 → Q (.inl (some (.int (-1)))) S2)) Q)) :
    fx_Go G (3, 47) mm_M_record 0 [(0, fx_r G 85), (1, .int v1), (2, .int v2)] [] S Q := by
  refine bk_M_record_0 85 v1 v2 ?_
  refine ⟨(hS.is ⟨by decide, by decide⟩ rfl), ?_⟩
  intro S1 eS1
  replace h := h S1 eS1
  have hS1 : shM S1 := by rw [eS1]; exact hS
  refine fx_cons h (fx_qi_m fun x3 S2 h => ?_)
  obtain ⟨hS2, h⟩ := h
  refine ⟨fun hc => ?_, fun hc => ?_⟩
  · replace h := h.1 hc
    refine ⟨(hS2.is ⟨by decide, by decide⟩ rfl), ?_⟩
    refine fx_cons h (fx_qi_m fun x5 S4 h => ?_)
    obtain ⟨hS4, h⟩ := h
    refine ⟨fun hc => ?_, fun hc => ?_⟩
    · replace h := h.1 hc
      exact h
    · replace h := h.2 hc
      exact h
  · replace h := h.2 hc
    exact h
theorem bs_M_record_30 {G : fx_G} {S : fx_S} {Q : fx_R → fx_S → Prop} (hS : shM S) (v1 : Int32) (v2 : Int32) (z0 : Int32)  (h : (v2 = 0 → fx_Go G (0, 0) mm_M_byteOf 0 [(0, fx_r G 85), (1, .int v1), (2, .int 0)] [] S (fx_qi (fun x2 S1 => shM S1 ∧ Q (.inl (some (.int x2))) S1) Q)) ∧ (v2 = 1 → fx_Go G (0, 0) mm_M_byteOf 0 [(0, fx_r G 85), (1, .int v1), (2, .int 1)] [] S (fx_qi (fun x4 S3 => shM S3 ∧ Q (.inl (some (.int x4))) S3) Q)) ∧ (v2 = 2 → fx_Go G (0, 0) mm_M_wordAt 0 [(0, fx_r G 85), (1, .int ((64 * v1) + 2))] [] S (fx_qi (fun x6 S5 => shM S5 ∧ Q (.inl (some (.int x6))) S5) Q)) ∧ (v2 = 3 → fx_Go G (0, 0) mm_M_byteOf 0 [(0, fx_r G 85), (1, .int v1), (2, .int 8)] [] S (fx_qi (fun x8 S7 => shM S7 ∧ Q (.inl (some (.int x8))) S7) Q)) ∧ (v2 = 4 → (z0 = 0 → fx_Go G (2, 34) mm_M_listLength 0 [(0, fx_r G 85), (1, .int v1)] [] S (fx_qi (fun x10 S9 => shM S9 ∧ Q (.inl (some (.int x10))) S9) Q)) ∧ (¬ z0 = 0 → fx_Go G (2, 32) mm_M_sizeOf 0 [(0, fx_r G 85), (1, .int v1)] [] S (fx_qi (fun x12 S11 => shM S11 ∧ Q (.inl (some (.int x12))) S11) Q))) ∧ (v2 = 5 → (¬ z0 = 0 → fx_Go G (2, 32) mm_M_isInside 0 [(0, fx_r G 85), (1, .int v1)] [] S (fx_qi (fun x14 S13 => shM S13 ∧ (x14 = 0 → Q (.inl (some (.int 3))) S13) ∧ (¬ x14 = 0 → Q (.inl (some (.int 2))) S13)) Q)) ∧ (z0 = 0 → Q (.inl (some (.int 4))) S)) ∧ (v2 = 6 → (z0 = 0 → Q (.inl (some (.int 0))) S) ∧ (¬ z0 = 0 → fx_Go G (2, 32) mm_M_runsOf 0 [(0, fx_r G 85), (1, .int v1)] [] S (fx_qi (fun x16 S15 => shM S15 ∧ Q (.inl (some (.int x16))) S15) Q))) ∧ (¬ v2 = 0 → ¬ v2 = 1 → ¬ v2 = 2 → ¬ v2 = 3 → ¬ v2 = 4 → ¬ v2 = 5 → ¬ v2 = 6 → Q (.inl (some (.int (-1)))) S)) :
    fx_Go G (3, 47) mm_M_record 30 [(0, fx_r G 85), (1, .int v1), (2, .int v2)] [.int z0] S Q := by
  refine bk_M_record_30 85 v1 v2 z0 ?_
  refine ⟨fun hc => ?_, fun hc => ?_, fun hc => ?_, fun hc => ?_, fun hc => ?_, fun hc => ?_, fun hc => ?_, fun hc0 hc1 hc2 hc3 hc4 hc5 hc6 => ?_⟩
  · replace h := h.1 hc
    refine ⟨(hS.is ⟨by decide, by decide⟩ rfl), ?_⟩
    refine fx_cons h (fx_qi_m fun x2 S1 h => ?_)
    obtain ⟨hS1, h⟩ := h
    exact h
  · replace h := h.2.1 hc
    refine ⟨(hS.is ⟨by decide, by decide⟩ rfl), ?_⟩
    refine fx_cons h (fx_qi_m fun x4 S3 h => ?_)
    obtain ⟨hS3, h⟩ := h
    exact h
  · replace h := h.2.2.1 hc
    refine ⟨(hS.is ⟨by decide, by decide⟩ rfl), ?_⟩
    refine fx_cons h (fx_qi_m fun x6 S5 h => ?_)
    obtain ⟨hS5, h⟩ := h
    exact h
  · replace h := h.2.2.2.1 hc
    refine ⟨(hS.is ⟨by decide, by decide⟩ rfl), ?_⟩
    refine fx_cons h (fx_qi_m fun x8 S7 h => ?_)
    obtain ⟨hS7, h⟩ := h
    exact h
  · replace h := h.2.2.2.2.1 hc
    refine ⟨fun hc => ?_, fun hc => ?_⟩
    · replace h := h.1 hc
      refine ⟨(hS.is ⟨by decide, by decide⟩ rfl), ?_⟩
      refine fx_cons h (fx_qi_m fun x10 S9 h => ?_)
      obtain ⟨hS9, h⟩ := h
      exact h
    · replace h := h.2 hc
      refine ⟨(hS.is ⟨by decide, by decide⟩ rfl), ?_⟩
      refine fx_cons h (fx_qi_m fun x12 S11 h => ?_)
      obtain ⟨hS11, h⟩ := h
      exact h
  · replace h := h.2.2.2.2.2.1 hc
    refine ⟨fun hc => ?_, fun hc => ?_⟩
    · replace h := h.1 hc
      refine ⟨(hS.is ⟨by decide, by decide⟩ rfl), ?_⟩
      refine fx_cons h (fx_qi_m fun x14 S13 h => ?_)
      obtain ⟨hS13, h⟩ := h
      refine ⟨fun hc => ?_, fun hc => ?_⟩
      · replace h := h.1 hc
        exact h
      · replace h := h.2 hc
        exact h
    · replace h := h.2 hc
      exact h
  · replace h := h.2.2.2.2.2.2.1 hc
    refine ⟨fun hc => ?_, fun hc => ?_⟩
    · replace h := h.1 hc
      exact h
    · replace h := h.2 hc
      refine ⟨(hS.is ⟨by decide, by decide⟩ rfl), ?_⟩
      refine fx_cons h (fx_qi_m fun x16 S15 h => ?_)
      obtain ⟨hS15, h⟩ := h
      exact h
  · replace h := h.2.2.2.2.2.2.2 hc0 hc1 hc2 hc3 hc4 hc5 hc6
    exact h
theorem bs_M_read_0 {G : fx_G} {S : fx_S} {Q : fx_R → fx_S → Prop} (hS : shM S) (v1 : Int32) (v2 : Int32)  (h : ∀ S1, S1 = fx_setI S 85 0 0 → fx_Go G (0, 0) mm_M_isRecord 0 [(0, fx_r G 85), (1, .int v1)] [] S1 (fx_qi (fun x3 S2 => shM S2 ∧ (x3 = 0 → Q (.inl (some (.int (-1)))) S2) ∧ (¬ x3 = 0 → (0 ≤ v2 → fx_Go G (0, 0) mm_M_byteOf 0 [(0, fx_r G 85), (1, .int v1), (2, .int 0)] [] S2 (fx_qi (fun x5 S4 => shM S4 ∧ (¬ x5 = 2 → fx_Go G (2, 32) mm_M_sizeOf 0 [(0, fx_r G 85), (1, .int v1)] [] S4 (fx_qi (fun x7 S6 => shM S6 ∧ (v2 < x7 → fx_Go G (2, 32) mm_M_isInside 0 [(0, fx_r G 85), (1, .int v1)] [] S6 (fx_qi (fun x9 S8 => shM S8 ∧ (x9 = 0 → fx_Go G (2, 32) mm_M_loadMap 0 [(0, fx_r G 85), (1, .int v1)] [] S8 (fx_qv (fun S10 => shM S10 ∧ vp_in (v2 / 16) 64 ∧ (0 ≤ (fx_I S10 91 ((v2 / 16).toNatClampNeg)) → vp_in (v2 / 16) 64 ∧ vp_in ((16 * (fx_I S10 91 ((v2 / 16).toNatClampNeg))) + (v2 - v2 / 16 * 16)) 2048 ∧ Q (.inl (some (.int (fx_I S10 86 (((16 * (fx_I S10 91 ((v2 / 16).toNatClampNeg))) + (v2 - v2 / 16 * 16)).toNatClampNeg))))) S10) ∧ (¬ 0 ≤ (fx_I S10 91 ((v2 / 16).toNatClampNeg)) → Q (.inl (some (.int 0))) S10)) Q)) ∧ (¬ x9 = 0 → fx_Go G (1, 16) mm_M_attribute 0 [(0, fx_r G 85), (1, .int v1), (2, .int 2)] [] S8 (fx_qi (fun x18 S17 => shM S17 ∧ fx_Go G (0, 0) mm_M_byteOf 0 [(0, fx_r G 85), (1, .int v1), (2, .int ((x18 + 2) + v2))] [] S17 (fx_qi (fun x20 S19 => shM S19 ∧ Q (.inl (some (.int x20))) S19) Q)) Q))) Q)) ∧ (¬ v2 < x7 → Q (.inl (some (.int (-1)))) S6)) Q)) ∧ (x5 = 2 → fx_Go G (2, 34) mm_M_listLength 0 [(0, fx_r G 85), (1, .int v1)] [] S4 (fx_qi (fun x22 S21 => shM S21 ∧ (x22 ≤ v2 → Q (.inl (some (.int (-1)))) S21) ∧ (¬ x22 ≤ v2 → fx_Go G (2, 34) mm_M_entry 0 [(0, fx_r G 85), (1, .int v1), (2, .int v2)] [] S21 (fx_qi (fun x24 S23 => shM S23 ∧ Q (.inl (some (.int x24))) S23) Q))) Q))) Q)) ∧ (¬ 0 ≤ v2 → Q (.inl (some (.int (-1)))) S2))) Q)) :
    fx_Go G (3, 50) mm_M_read 0 [(0, fx_r G 85), (1, .int v1), (2, .int v2)] [] S Q := by
  refine bk_M_read_0 85 v1 v2 ?_
  refine ⟨(hS.is ⟨by decide, by decide⟩ rfl), ?_⟩
  intro S1 eS1
  replace h := h S1 eS1
  have hS1 : shM S1 := by rw [eS1]; exact hS
  refine fx_cons h (fx_qi_m fun x3 S2 h => ?_)
  obtain ⟨hS2, h⟩ := h
  refine ⟨fun hc => ?_, fun hc => ?_⟩
  · replace h := h.1 hc
    exact h
  · replace h := h.2 hc
    refine ⟨fun hc => ?_, fun hc => ?_⟩
    · replace h := h.1 hc
      refine ⟨(hS2.is ⟨by decide, by decide⟩ rfl), ?_⟩
      refine fx_cons h (fx_qi_m fun x5 S4 h => ?_)
      obtain ⟨hS4, h⟩ := h
      refine ⟨fun hc => ?_, fun hc => ?_⟩
      · replace h := h.1 hc
        refine ⟨(hS4.is ⟨by decide, by decide⟩ rfl), ?_⟩
        refine fx_cons h (fx_qi_m fun x7 S6 h => ?_)
        obtain ⟨hS6, h⟩ := h
        refine ⟨fun hc => ?_, fun hc => ?_⟩
        · replace h := h.1 hc
          refine ⟨(hS6.is ⟨by decide, by decide⟩ rfl), ?_⟩
          refine fx_cons h (fx_qi_m fun x9 S8 h => ?_)
          obtain ⟨hS8, h⟩ := h
          refine ⟨fun hc => ?_, fun hc => ?_⟩
          · replace h := h.1 hc
            refine ⟨(hS8.is ⟨by decide, by decide⟩ rfl), ?_⟩
            refine fx_cons h (fx_qv_m fun S10 h => ?_)
            obtain ⟨hS10, h⟩ := h
            refine ⟨(hS10.is ⟨by decide, by decide⟩ rfl), ?_⟩
            refine ⟨_, (hS10.P ⟨by decide, by decide⟩ rfl), ?_⟩
            refine ⟨(hS10.is ⟨by decide, by decide⟩ rfl), ?_⟩
            obtain ⟨w12, h⟩ := h
            refine ⟨(hS10.vin ⟨by decide, by decide⟩ rfl w12), ?_⟩
            refine ⟨fun hc => ?_, fun hc => ?_⟩
            · replace h := h.1 hc
              refine ⟨_, (hS10.P ⟨by decide, by decide⟩ rfl), ?_⟩
              refine ⟨_, (hS10.P ⟨by decide, by decide⟩ rfl), ?_⟩
              refine ⟨(hS10.is ⟨by decide, by decide⟩ rfl), ?_⟩
              obtain ⟨w15, h⟩ := h
              refine ⟨(hS10.vin ⟨by decide, by decide⟩ rfl w15), ?_⟩
              refine ⟨(hS10.is ⟨by decide, by decide⟩ rfl), ?_⟩
              obtain ⟨w16, h⟩ := h
              refine ⟨(hS10.vin ⟨by decide, by decide⟩ rfl w16), ?_⟩
              exact h
            · replace h := h.2 hc
              exact h
          · replace h := h.2 hc
            refine ⟨(hS8.is ⟨by decide, by decide⟩ rfl), ?_⟩
            refine fx_cons h (fx_qi_m fun x18 S17 h => ?_)
            obtain ⟨hS17, h⟩ := h
            refine ⟨(hS17.is ⟨by decide, by decide⟩ rfl), ?_⟩
            refine fx_cons h (fx_qi_m fun x20 S19 h => ?_)
            obtain ⟨hS19, h⟩ := h
            exact h
        · replace h := h.2 hc
          exact h
      · replace h := h.2 hc
        refine ⟨(hS4.is ⟨by decide, by decide⟩ rfl), ?_⟩
        refine fx_cons h (fx_qi_m fun x22 S21 h => ?_)
        obtain ⟨hS21, h⟩ := h
        refine ⟨fun hc => ?_, fun hc => ?_⟩
        · replace h := h.1 hc
          exact h
        · replace h := h.2 hc
          refine ⟨(hS21.is ⟨by decide, by decide⟩ rfl), ?_⟩
          refine fx_cons h (fx_qi_m fun x24 S23 h => ?_)
          obtain ⟨hS23, h⟩ := h
          exact h
    · replace h := h.2 hc
      exact h
theorem bs_M_run_0 {G : fx_G} {S : fx_S} {Q : fx_R → fx_S → Prop} (hS : shM S) (v1 : Int32) (v2 : Int32) (v3 : Int32)  (h : ∀ S1, S1 = fx_setI S 85 0 0 → fx_Go G (1, 15) mm_M_isKind 0 [(0, fx_r G 85), (1, .int v1), (2, .int 1)] [] S1 (fx_qi (fun x3 S2 => shM S2 ∧ (x3 = 0 → Q (.inl (some (.int (-1)))) S2) ∧ (¬ x3 = 0 → (v2 < 0 → Q (.inl (some (.int (-1)))) S2) ∧ (¬ v2 < 0 → (v3 < 0 → Q (.inl (some (.int (-1)))) S2) ∧ (¬ v3 < 0 → (v3 ≤ 1 → fx_Go G (2, 32) mm_M_runsOf 0 [(0, fx_r G 85), (1, .int v1)] [] S2 (fx_qi (fun x5 S4 => shM S4 ∧ (v2 < x5 → fx_Go G (1, 16) mm_M_attribute 0 [(0, fx_r G 85), (1, .int v1), (2, .int 3)] [] S4 (fx_qi (fun x7 S6 => shM S6 ∧ fx_Go G (3, 48) mm_M_run 57 [(0, fx_r G 85), (1, .int v1), (2, .int v2), (3, .int v3), (4, .int (x7 + 4)), (5, .int 48), (6, .int 0)] [] S6 Q) Q)) ∧ (¬ v2 < x5 → Q (.inl (some (.int (-1)))) S4)) Q)) ∧ (¬ v3 ≤ 1 → Q (.inl (some (.int (-1)))) S2))))) Q)) :
    fx_Go G (3, 48) mm_M_run 0 [(0, fx_r G 85), (1, .int v1), (2, .int v2), (3, .int v3)] [] S Q := by
  refine bk_M_run_0 85 v1 v2 v3 ?_
  refine ⟨(hS.is ⟨by decide, by decide⟩ rfl), ?_⟩
  intro S1 eS1
  replace h := h S1 eS1
  have hS1 : shM S1 := by rw [eS1]; exact hS
  refine fx_cons h (fx_qi_m fun x3 S2 h => ?_)
  obtain ⟨hS2, h⟩ := h
  refine ⟨fun hc => ?_, fun hc => ?_⟩
  · replace h := h.1 hc
    exact h
  · replace h := h.2 hc
    refine ⟨fun hc => ?_, fun hc => ?_⟩
    · replace h := h.1 hc
      exact h
    · replace h := h.2 hc
      refine ⟨fun hc => ?_, fun hc => ?_⟩
      · replace h := h.1 hc
        exact h
      · replace h := h.2 hc
        refine ⟨fun hc => ?_, fun hc => ?_⟩
        · replace h := h.1 hc
          refine ⟨(hS2.is ⟨by decide, by decide⟩ rfl), ?_⟩
          refine fx_cons h (fx_qi_m fun x5 S4 h => ?_)
          obtain ⟨hS4, h⟩ := h
          refine ⟨fun hc => ?_, fun hc => ?_⟩
          · replace h := h.1 hc
            refine ⟨(hS4.is ⟨by decide, by decide⟩ rfl), ?_⟩
            refine fx_cons h (fx_qi_m fun x7 S6 h => ?_)
            obtain ⟨hS6, h⟩ := h
            exact h
          · replace h := h.2 hc
            exact h
        · replace h := h.2 hc
          exact h
theorem bs_M_run_57 {G : fx_G} {S : fx_S} {Q : fx_R → fx_S → Prop} (hS : shM S) (v1 : Int32) (v2 : Int32) (v3 : Int32) (v4 : Int32) (v5 : Int32) (v6 : Int32)  (h : fx_Go G (0, 0) mm_M_byteOf 0 [(0, fx_r G 85), (1, .int v1), (2, .int v4)] [] S (fx_qi (fun x2 S1 => shM S1 ∧ (¬ x2 = 1 → (¬ (0 : Int32) = 0 → fx_Go G (3, 48) mm_M_run 98 [(0, fx_r G 85), (1, .int v1), (2, .int v2), (3, .int v3), (4, .int v4), (5, .int v5), (6, .int v6), (7, .int 0)] [] S1 Q) ∧ ((0 : Int32) = 0 → fx_Go G (0, 0) mm_M_byteOf 0 [(0, fx_r G 85), (1, .int v1), (2, .int (v4 + 2))] [] S1 (fx_qi (fun x4 S3 => shM S3 ∧ fx_Go G (3, 48) mm_M_run 98 [(0, fx_r G 85), (1, .int v1), (2, .int v2), (3, .int v3), (4, .int v4), (5, .int ((v5 + x4) &&& 255)), (6, .int v6), (7, .int 0)] [] S3 Q) Q))) ∧ (x2 = 1 → (¬ (1 : Int32) = 0 → fx_Go G (3, 48) mm_M_run 98 [(0, fx_r G 85), (1, .int v1), (2, .int v2), (3, .int v3), (4, .int v4), (5, .int v5), (6, .int v6), (7, .int 1)] [] S1 Q) ∧ ((1 : Int32) = 0 → fx_Go G (0, 0) mm_M_byteOf 0 [(0, fx_r G 85), (1, .int v1), (2, .int (v4 + 2))] [] S1 (fx_qi (fun x6 S5 => shM S5 ∧ fx_Go G (3, 48) mm_M_run 98 [(0, fx_r G 85), (1, .int v1), (2, .int v2), (3, .int v3), (4, .int v4), (5, .int ((v5 + x6) &&& 255)), (6, .int v6), (7, .int 1)] [] S5 Q) Q)))) Q)) :
    fx_Go G (3, 48) mm_M_run 57 [(0, fx_r G 85), (1, .int v1), (2, .int v2), (3, .int v3), (4, .int v4), (5, .int v5), (6, .int v6)] [] S Q := by
  refine bk_M_run_57 85 v1 v2 v3 v4 v5 v6 ?_
  refine ⟨(hS.is ⟨by decide, by decide⟩ rfl), ?_⟩
  refine fx_cons h (fx_qi_m fun x2 S1 h => ?_)
  obtain ⟨hS1, h⟩ := h
  refine ⟨fun hc => ?_, fun hc => ?_⟩
  · replace h := h.1 hc
    refine ⟨fun hc => ?_, fun hc => ?_⟩
    · replace h := h.1 hc
      exact h
    · replace h := h.2 hc
      refine ⟨(hS1.is ⟨by decide, by decide⟩ rfl), ?_⟩
      refine fx_cons h (fx_qi_m fun x4 S3 h => ?_)
      obtain ⟨hS3, h⟩ := h
      exact h
  · replace h := h.2 hc
    refine ⟨fun hc => ?_, fun hc => ?_⟩
    · replace h := h.1 hc
      exact h
    · replace h := h.2 hc
      refine ⟨(hS1.is ⟨by decide, by decide⟩ rfl), ?_⟩
      refine fx_cons h (fx_qi_m fun x6 S5 h => ?_)
      obtain ⟨hS5, h⟩ := h
      exact h
theorem bs_M_run_98 {G : fx_G} {S : fx_S} {Q : fx_R → fx_S → Prop} (hS : shM S) (v1 : Int32) (v2 : Int32) (v3 : Int32) (v4 : Int32) (v5 : Int32) (v6 : Int32) (v7 : Int32)  (h : (¬ v6 = v2 → (v7 = 0 → fx_Go G (3, 48) mm_M_run 57 [(0, fx_r G 85), (1, .int v1), (2, .int v2), (3, .int v3), (4, .int (v4 + 3)), (5, .int v5), (6, .int (v6 + Int32.ofInt 1))] [] S Q) ∧ (¬ v7 = 0 → fx_Go G (3, 48) mm_M_run 57 [(0, fx_r G 85), (1, .int v1), (2, .int v2), (3, .int v3), (4, .int (v4 + 2)), (5, .int v5), (6, .int (v6 + Int32.ofInt 1))] [] S Q)) ∧ (v6 = v2 → (¬ v3 = 0 → (v7 = 0 → Q (.inl (some (.int v5))) S) ∧ (¬ v7 = 0 → Q (.inl (some (.int (-1)))) S)) ∧ (v3 = 0 → fx_Go G (0, 0) mm_M_byteOf 0 [(0, fx_r G 85), (1, .int v1), (2, .int (v4 + 1))] [] S (fx_qi (fun x2 S1 => shM S1 ∧ Q (.inl (some (.int x2))) S1) Q)))) :
    fx_Go G (3, 48) mm_M_run 98 [(0, fx_r G 85), (1, .int v1), (2, .int v2), (3, .int v3), (4, .int v4), (5, .int v5), (6, .int v6), (7, .int v7)] [] S Q := by
  refine bk_M_run_98 85 v1 v2 v3 v4 v5 v6 v7 ?_
  refine ⟨fun hc => ?_, fun hc => ?_⟩
  · replace h := h.1 hc
    refine ⟨fun hc => ?_, fun hc => ?_⟩
    · replace h := h.1 hc
      exact h
    · replace h := h.2 hc
      exact h
  · replace h := h.2 hc
    refine ⟨fun hc => ?_, fun hc => ?_⟩
    · replace h := h.1 hc
      refine ⟨fun hc => ?_, fun hc => ?_⟩
      · replace h := h.1 hc
        exact h
      · replace h := h.2 hc
        exact h
    · replace h := h.2 hc
      refine ⟨(hS.is ⟨by decide, by decide⟩ rfl), ?_⟩
      refine fx_cons h (fx_qi_m fun x2 S1 h => ?_)
      obtain ⟨hS1, h⟩ := h
      exact h
theorem bs_M_free_0 {G : fx_G} {S : fx_S} {Q : fx_R → fx_S → Prop} (hS : shM S)   (h : ∀ S1, S1 = fx_setI S 85 0 0 → ((fx_I S1 85 4) = 0 → Q (.inl (some (.int 0))) S1) ∧ (¬ (fx_I S1 85 4) = 0 → fx_Go G (0, 0) mm_M_freeClusters 0 [(0, fx_r G 85)] [] S1 (fx_qi (fun x3 S2 => shM S2 ∧ Q (.inl (some (.int x3))) S2) Q))) :
    fx_Go G (1, 14) mm_M_free 0 [(0, fx_r G 85)] [] S Q := by
  refine bk_M_free_0 85 ?_
  refine ⟨(hS.is ⟨by decide, by decide⟩ rfl), ?_⟩
  intro S1 eS1
  replace h := h S1 eS1
  have hS1 : shM S1 := by rw [eS1]; exact hS
  refine ⟨fun hc => ?_, fun hc => ?_⟩
  · replace h := h.1 hc
    exact h
  · replace h := h.2 hc
    refine fx_cons h (fx_qi_m fun x3 S2 h => ?_)
    obtain ⟨hS2, h⟩ := h
    exact h
theorem bs_M_at_0 {G : fx_G} {S : fx_S} {Q : fx_R → fx_S → Prop} (hS : shM S) (v1 : Int32)  (h : ∀ S1, S1 = fx_setI S 85 0 0 → (v1 < 0 → Q (.inl (some (.int (-1)))) S1) ∧ (¬ v1 < 0 → (v1 ≤ 2047 → vp_in v1 2048 ∧ Q (.inl (some (.int (fx_I S1 86 (v1.toNatClampNeg))))) S1) ∧ (¬ v1 ≤ 2047 → Q (.inl (some (.int (-1)))) S1))) :
    fx_Go G (0, 0) mm_M_at 0 [(0, fx_r G 85), (1, .int v1)] [] S Q := by
  refine bk_M_at_0 85 v1 ?_
  refine ⟨(hS.is ⟨by decide, by decide⟩ rfl), ?_⟩
  intro S1 eS1
  replace h := h S1 eS1
  have hS1 : shM S1 := by rw [eS1]; exact hS
  refine ⟨fun hc => ?_, fun hc => ?_⟩
  · replace h := h.1 hc
    exact h
  · replace h := h.2 hc
    refine ⟨fun hc => ?_, fun hc => ?_⟩
    · replace h := h.1 hc
      refine ⟨_, (hS1.P ⟨by decide, by decide⟩ rfl), ?_⟩
      refine ⟨(hS1.is ⟨by decide, by decide⟩ rfl), ?_⟩
      obtain ⟨w3, h⟩ := h
      refine ⟨(hS1.vin ⟨by decide, by decide⟩ rfl w3), ?_⟩
      exact h
    · replace h := h.2 hc
      exact h
