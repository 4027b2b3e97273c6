theorem bs_V_type_0 {G : fx_G} {S : fx_S} {Q : fx_R → fx_S → Prop} (hS : shC S) (v1 : Int32)  (h : fx_Go G (0, 0) mm_N_append 0 [(0, fx_r G 77), (1, .int v1)] [] S (fx_qi (fun x3 S2 => shC S2 ∧ narrow .boolean (.int x3) = .int x3 ∧ Q (.inl (some (.int x3))) S2) Q)) :
    fx_Go G (1, 14) mm_V_type 0 [(0, fx_r G 0), (1, .int v1)] [] S Q := by
  refine bk_V_type_0 0 v1 ?_
  refine ⟨(hS.is (by decide) rfl), ?_⟩
  refine ⟨_, (hS.P (by decide) rfl), ?_⟩
  refine ⟨(hS.is (by decide) rfl), ?_⟩
  refine fx_cons h (fx_qi_m fun x3 S2 h => ?_)
  obtain ⟨hS2, h⟩ := h
  exact h
theorem bs_V_create_0 {G : fx_G} {S : fx_S} {Q : fx_R → fx_S → Prop} (hS : shC S) (v1 : Int32) (v2 : Int32)  (h : fx_Go G (1, 18) mm_N_copyFrom 0 [(0, fx_r G 79), (1, fx_r G 77)] [] S (fx_qv (fun S3 => shC S3 ∧ fx_Go G (0, 0) mm_N_clear 0 [(0, fx_r G 77)] [] S3 (fx_qv (fun S5 => shC S5 ∧ fx_Go G (6, 82) mm_V_requireRunning 0 [(0, fx_r G 0)] [] S5 (fx_qv (fun S6 => shC S6 ∧ fx_Go G (1, 13) mm_V_isDirectory 0 [(0, fx_r G 0), (1, .int v1)] [] S6 (fx_qi (fun x8 S7 => shC S7 ∧ (x8 = 0 → fx_Go G (8, 109) mm_V_create 58 [(0, fx_r G 0), (1, .int v1), (2, .int v2)] [.int 0] S7 Q) ∧ (¬ x8 = 0 → ((fx_I S7 79 1) ≤ 0 → fx_Go G (8, 109) mm_V_create 58 [(0, fx_r G 0), (1, .int v1), (2, .int v2)] [.int 0] S7 Q) ∧ (¬ (fx_I S7 79 1) ≤ 0 → fx_Go G (2, 28) mm_V_entryNamed 0 [(0, fx_r G 0), (1, .int v1), (2, fx_r G 79)] [] S7 (fx_qi (fun x12 S11 => shC S11 ∧ (¬ x12 = (-1) → fx_Go G (8, 109) mm_V_create 58 [(0, fx_r G 0), (1, .int v1), (2, .int v2)] [.int 0] S11 Q) ∧ (x12 = (-1) → fx_Go G (8, 109) mm_V_create 58 [(0, fx_r G 0), (1, .int v1), (2, .int v2)] [.int 1] S11 Q)) Q)))) Q)) Q)) Q)) Q)) :
    fx_Go G (8, 109) mm_V_create 0 [(0, fx_r G 0), (1, .int v1), (2, .int v2)] [] S Q := by
  refine bk_V_create_0 0 v1 v2 ?_
  refine ⟨(hS.is (by decide) rfl), ?_⟩
  refine ⟨_, (hS.P (by decide) rfl), ?_⟩
  refine ⟨_, (hS.P (by decide) rfl), ?_⟩
  refine ⟨(hS.is (by decide) rfl), ?_⟩
  refine fx_cons h (fx_qv_m fun S3 h => ?_)
  obtain ⟨hS3, h⟩ := h
  refine ⟨(hS3.is (by decide) rfl), ?_⟩
  refine ⟨_, (hS3.P (by decide) rfl), ?_⟩
  refine ⟨(hS3.is (by decide) rfl), ?_⟩
  refine fx_cons h (fx_qv_m fun S5 h => ?_)
  obtain ⟨hS5, h⟩ := h
  refine ⟨(hS5.is (by decide) rfl), ?_⟩
  refine fx_cons h (fx_qv_m fun S6 h => ?_)
  obtain ⟨hS6, h⟩ := h
  refine ⟨(hS6.is (by decide) rfl), ?_⟩
  refine fx_cons h (fx_qi_m fun x8 S7 h => ?_)
  obtain ⟨hS7, h⟩ := h
  refine ⟨fun hc => ?_, fun hc => ?_⟩
  · replace h := h.1 hc
    exact h
  · replace h := h.2 hc
    refine ⟨(hS7.is (by decide) rfl), ?_⟩
    refine ⟨_, (hS7.P (by decide) rfl), ?_⟩
    refine ⟨(hS7.is (by decide) rfl), ?_⟩
    refine ⟨fun hc => ?_, fun hc => ?_⟩
    · replace h := h.1 hc
      exact h
    · replace h := h.2 hc
      refine ⟨_, (hS7.P (by decide) rfl), ?_⟩
      refine fx_cons h (fx_qi_m fun x12 S11 h => ?_)
      obtain ⟨hS11, h⟩ := h
      refine ⟨fun hc => ?_, fun hc => ?_⟩
      · replace h := h.1 hc
        exact h
      · replace h := h.2 hc
        exact h
theorem bs_V_create_58 {G : fx_G} {S : fx_S} {Q : fx_R → fx_S → Prop} (hS : shC S) (v1 : Int32) (v2 : Int32) (z0 : Int32)  (h : fx_Go G (6, 82) mm_V_require 0 [(0, .int z0)] [] S (fx_qv (fun S1 => shC S1 ∧ fx_Go G (1, 13) mm_V_lowestFreeRecord 0 [(0, fx_r G 0)] [] S1 (fx_qi (fun x3 S2 => shC S2 ∧ (¬ x3 = (-1) → vp_in x3 12 ∧ (v2 = 0 → fx_Go G (8, 109) mm_V_create 96 [(0, fx_r G 0), (1, .int v1), (3, .int x3)] [.int 2, fx_r G (4 + 6 * (x3.toNatClampNeg))] S2 Q) ∧ (¬ v2 = 0 → fx_Go G (8, 109) mm_V_create 96 [(0, fx_r G 0), (1, .int v1), (3, .int x3)] [.int 1, fx_r G (4 + 6 * (x3.toNatClampNeg))] S2 Q)) ∧ (x3 = (-1) → fx_roomx S2 ∧ Q (.inr 3) (fx_exc S2))) Q)) Q)) :
    fx_Go G (8, 109) mm_V_create 58 [(0, fx_r G 0), (1, .int v1), (2, .int v2)] [.int z0] S Q := by
  refine bk_V_create_58 0 v1 v2 z0 ?_
  refine fx_cons h (fx_qv_m fun S1 h => ?_)
  obtain ⟨hS1, h⟩ := h
  refine ⟨(hS1.is (by decide) rfl), ?_⟩
  refine fx_cons h (fx_qi_m fun x3 S2 h => ?_)
  obtain ⟨hS2, h⟩ := h
  refine ⟨fun hc => ?_, fun hc => ?_⟩
  · replace h := h.1 hc
    refine ⟨(hS2.is (by decide) rfl), ?_⟩
    refine ⟨_, (hS2.P (by decide) rfl), ?_⟩
    refine ⟨(hS2.is (by decide) rfl), ?_⟩
    obtain ⟨w5, h⟩ := h
    refine ⟨(hS2.vin (by decide) rfl w5), _, hS2.P (by decide) (sheet_at _ (vin_lt w5)), ?_⟩
    refine ⟨fun hc => ?_, fun hc => ?_⟩
    · replace h := h.1 hc
      exact h
    · replace h := h.2 hc
      exact h
  · replace h := h.2 hc
    exact h
theorem bs_V_create_96 {G : fx_G} {S : fx_S} {Q : fx_R → fx_S → Prop} (hS : shC S) (v1 : Int32) (v3 : Int32) (z0 : Int32) (z1 : Nat) (hz1 : isH z1) (h : fx_Go G (1, 12) mm_H_become 0 [(0, fx_r G z1), (1, .int z0), (2, .int v1)] [] S (fx_qv (fun S1 => shC S1 ∧ vp_in v3 12 ∧ fx_Go G (1, 18) mm_N_copyFrom 0 [(0, fx_r G ((4 + 6 * (v3.toNatClampNeg)) + 1)), (1, fx_r G 79)] [] S1 (fx_qv (fun S7 => shC S7 ∧ fx_Go G (7, 96) mm_V_store 0 [(0, fx_r G 0), (1, .int v3)] [] S7 (fx_qv (fun S8 => shC S8 ∧ fx_Go G (3, 45) mm_V_enter 0 [(0, fx_r G 0), (1, .int v1), (2, .int v3)] [] S8 (fx_qv (fun S9 => shC S9 ∧ fx_Go G (7, 96) mm_V_store 0 [(0, fx_r G 0), (1, .int v1)] [] S9 (fx_qv (fun S10 => shC S10 ∧ Q (.inl (some (.int v3))) S10) Q)) Q)) Q)) Q)) Q)) :
    fx_Go G (8, 109) mm_V_create 96 [(0, fx_r G 0), (1, .int v1), (3, .int v3)] [.int z0, fx_r G z1] S Q := by
  refine bk_V_create_96 0 v1 v3 z0 z1 ?_
  refine ⟨(hS.iH hz1), ?_⟩
  refine fx_cons h (fx_qv_m fun S1 h => ?_)
  obtain ⟨hS1, h⟩ := h
  refine ⟨(hS1.is (by decide) rfl), ?_⟩
  refine ⟨_, (hS1.P (by decide) rfl), ?_⟩
  refine ⟨(hS1.is (by decide) rfl), ?_⟩
  obtain ⟨w3, h⟩ := h
  refine ⟨(hS1.vin (by decide) rfl w3), _, hS1.P (by decide) (sheet_at _ (vin_lt w3)), ?_⟩
  refine ⟨(hS1.iH (isH_at _ (vin_lt w3))), ?_⟩
  refine ⟨_, (hS1.pHn (isH_at _ (vin_lt w3))), ?_⟩
  refine ⟨_, (hS1.P (by decide) rfl), ?_⟩
  refine ⟨(hS1.iN (isH.n (isH_at _ (vin_lt w3)))), ?_⟩
  refine fx_cons h (fx_qv_m fun S7 h => ?_)
  obtain ⟨hS7, h⟩ := h
  refine ⟨(hS7.is (by decide) rfl), ?_⟩
  refine fx_cons h (fx_qv_m fun S8 h => ?_)
  obtain ⟨hS8, h⟩ := h
  refine ⟨(hS8.is (by decide) rfl), ?_⟩
  refine fx_cons h (fx_qv_m fun S9 h => ?_)
  obtain ⟨hS9, h⟩ := h
  refine ⟨(hS9.is (by decide) rfl), ?_⟩
  refine fx_cons h (fx_qv_m fun S10 h => ?_)
  obtain ⟨hS10, h⟩ := h
  exact h
theorem bs_V_write_0 {G : fx_G} {S : fx_S} {Q : fx_R → fx_S → Prop} (hS : shC S) (v1 : Int32) (v2 : Int32) (v3 : Int32) (v4 : Int32)  (h : fx_Go G (6, 82) mm_V_requireRunning 0 [(0, fx_r G 0)] [] S (fx_qv (fun S1 => shC S1 ∧ fx_Go G (1, 13) mm_V_isFile 0 [(0, fx_r G 0), (1, .int v1)] [] S1 (fx_qi (fun x3 S2 => shC S2 ∧ (x3 = 0 → fx_Go G (8, 109) mm_V_write 48 [(0, fx_r G 0), (1, .int v1), (2, .int v2), (3, .int v3), (4, .int v4)] [.int 0] S2 Q) ∧ (¬ x3 = 0 → (v2 < 0 → fx_Go G (8, 109) mm_V_write 48 [(0, fx_r G 0), (1, .int v1), (2, .int v2), (3, .int v3), (4, .int v4)] [.int 0] S2 Q) ∧ (¬ v2 < 0 → (1000 < v2 → fx_Go G (8, 109) mm_V_write 48 [(0, fx_r G 0), (1, .int v1), (2, .int v2), (3, .int v3), (4, .int v4)] [.int 0] S2 Q) ∧ (¬ 1000 < v2 → (v3 < 1 → fx_Go G (8, 109) mm_V_write 48 [(0, fx_r G 0), (1, .int v1), (2, .int v2), (3, .int v3), (4, .int v4)] [.int 0] S2 Q) ∧ (¬ v3 < 1 → (60 < v3 → fx_Go G (8, 109) mm_V_write 48 [(0, fx_r G 0), (1, .int v1), (2, .int v2), (3, .int v3), (4, .int v4)] [.int 0] S2 Q) ∧ (¬ 60 < v3 → (1000 < (v2 + v3) → fx_Go G (8, 109) mm_V_write 48 [(0, fx_r G 0), (1, .int v1), (2, .int v2), (3, .int v3), (4, .int v4)] [.int 0] S2 Q) ∧ (¬ 1000 < (v2 + v3) → fx_Go G (8, 109) mm_V_write 48 [(0, fx_r G 0), (1, .int v1), (2, .int v2), (3, .int v3), (4, .int v4)] [.int 1] S2 Q))))))) Q)) Q)) :
    fx_Go G (8, 109) mm_V_write 0 [(0, fx_r G 0), (1, .int v1), (2, .int v2), (3, .int v3), (4, .int v4)] [] S Q := by
  refine bk_V_write_0 0 v1 v2 v3 v4 ?_
  refine ⟨(hS.is (by decide) rfl), ?_⟩
  refine fx_cons h (fx_qv_m fun S1 h => ?_)
  obtain ⟨hS1, h⟩ := h
  refine ⟨(hS1.is (by decide) rfl), ?_⟩
  refine fx_cons h (fx_qi_m fun x3 S2 h => ?_)
  obtain ⟨hS2, h⟩ := h
  refine ⟨fun hc => ?_, fun hc => ?_⟩
  · replace h := h.1 hc
    exact h
  · replace h := h.2 hc
    refine ⟨fun hc => ?_, fun hc => ?_⟩
    · replace h := h.1 hc
      exact h
    · replace h := h.2 hc
      refine ⟨fun hc => ?_, fun hc => ?_⟩
      · replace h := h.1 hc
        exact h
      · replace h := h.2 hc
        refine ⟨fun hc => ?_, fun hc => ?_⟩
        · replace h := h.1 hc
          exact h
        · replace h := h.2 hc
          refine ⟨fun hc => ?_, fun hc => ?_⟩
          · replace h := h.1 hc
            exact h
          · replace h := h.2 hc
            refine ⟨fun hc => ?_, fun hc => ?_⟩
            · replace h := h.1 hc
              exact h
            · replace h := h.2 hc
              exact h
theorem bs_V_write_48 {G : fx_G} {S : fx_S} {Q : fx_R → fx_S → Prop} (hS : shC S) (v1 : Int32) (v2 : Int32) (v3 : Int32) (v4 : Int32) (z0 : Int32)  (h : fx_Go G (6, 82) mm_V_require 0 [(0, .int z0)] [] S (fx_qv (fun S1 => shC S1 ∧ vp_in v1 12 ∧ (¬ (fx_I S1 (4 + 6 * (v1.toNatClampNeg)) 3) = 2 → fx_Go G (8, 109) mm_V_write 105 [(0, fx_r G 0), (1, .int v1), (2, .int v2), (3, .int v3), (4, .int v4), (5, fx_r G (4 + 6 * (v1.toNatClampNeg))), (6, .int (if (fx_I S1 (4 + 6 * (v1.toNatClampNeg)) 4) < (v2 + v3) then (v2 + v3) else (fx_I S1 (4 + 6 * (v1.toNatClampNeg)) 4)))] [] S1 Q) ∧ ((fx_I S1 (4 + 6 * (v1.toNatClampNeg)) 3) = 2 → fx_Go G (1, 13) mm_H_mostInside 0 [(0, fx_r G (4 + 6 * (v1.toNatClampNeg)))] [] S1 (fx_qi (fun x6 S5 => shC S5 ∧ (x6 < (if (fx_I S1 (4 + 6 * (v1.toNatClampNeg)) 4) < (v2 + v3) then (v2 + v3) else (fx_I S1 (4 + 6 * (v1.toNatClampNeg)) 4)) → fx_Go G (8, 109) mm_V_write 105 [(0, fx_r G 0), (1, .int v1), (2, .int v2), (3, .int v3), (4, .int v4), (5, fx_r G (4 + 6 * (v1.toNatClampNeg))), (6, .int (if (fx_I S1 (4 + 6 * (v1.toNatClampNeg)) 4) < (v2 + v3) then (v2 + v3) else (fx_I S1 (4 + 6 * (v1.toNatClampNeg)) 4)))] [] S5 Q) ∧ (¬ x6 < (if (fx_I S1 (4 + 6 * (v1.toNatClampNeg)) 4) < (v2 + v3) then (v2 + v3) else (fx_I S1 (4 + 6 * (v1.toNatClampNeg)) 4)) → fx_Go G (0, 0) mm_H_putInside 0 [(0, fx_r G (4 + 6 * (v1.toNatClampNeg))), (1, .int v2), (2, .int v3), (3, .int v4), (4, .int (if (fx_I S1 (4 + 6 * (v1.toNatClampNeg)) 4) < (v2 + v3) then (v2 + v3) else (fx_I S1 (4 + 6 * (v1.toNatClampNeg)) 4)))] [] S5 (fx_qv (fun S7 => shC S7 ∧ fx_Go G (7, 96) mm_V_store 0 [(0, fx_r G 0), (1, .int v1)] [] S7 (fx_qv (fun S8 => shC S8 ∧ Q (.inl (some (.int (if (fx_I S1 (4 + 6 * (v1.toNatClampNeg)) 4) < (v2 + v3) then (v2 + v3) else (fx_I S1 (4 + 6 * (v1.toNatClampNeg)) 4))))) S8) Q)) Q))) Q))) Q)) :
    fx_Go G (8, 109) mm_V_write 48 [(0, fx_r G 0), (1, .int v1), (2, .int v2), (3, .int v3), (4, .int v4)] [.int z0] S Q := by
  refine bk_V_write_48 0 v1 v2 v3 v4 z0 ?_
  refine fx_cons h (fx_qv_m fun S1 h => ?_)
  obtain ⟨hS1, h⟩ := h
  refine ⟨(hS1.is (by decide) rfl), ?_⟩
  refine ⟨_, (hS1.P (by decide) rfl), ?_⟩
  refine ⟨(hS1.is (by decide) rfl), ?_⟩
  obtain ⟨w3, h⟩ := h
  refine ⟨(hS1.vin (by decide) rfl w3), _, hS1.P (by decide) (sheet_at _ (vin_lt w3)), ?_⟩
  refine ⟨(hS1.iH (isH_at _ (vin_lt w3))), ?_⟩
  refine ⟨fun hc => ?_, fun hc => ?_⟩
  · replace h := h.1 hc
    exact h
  · replace h := h.2 hc
    refine fx_cons h (fx_qi_m fun x6 S5 h => ?_)
    obtain ⟨hS5, h⟩ := h
    refine ⟨fun hc => ?_, fun hc => ?_⟩
    · replace h := h.1 hc
      exact h
    · replace h := h.2 hc
      refine ⟨(hS5.iH (isH_at _ (vin_lt w3))), ?_⟩
      refine fx_cons h (fx_qv_m fun S7 h => ?_)
      obtain ⟨hS7, h⟩ := h
      refine ⟨(hS7.is (by decide) rfl), ?_⟩
      refine fx_cons h (fx_qv_m fun S8 h => ?_)
      obtain ⟨hS8, h⟩ := h
      exact h
theorem bs_V_write_105 {G : fx_G} {S : fx_S} {Q : fx_R → fx_S → Prop} (hS : shC S) (v1 : Int32) (v2 : Int32) (v3 : Int32) (v4 : Int32) (v5 : Nat) (v6 : Int32) (hv5 : isH v5) (h : fx_Go G (2, 29) mm_V_makePlan 0 [(0, fx_r G 0), (1, fx_r G v5), (2, .int v2), (3, .int v3), (4, .int v6)] [] S (fx_qi (fun x2 S1 => shC S1 ∧ (¬ x2 = 0 → fx_Go G (4, 59) mm_V_putOutside 0 [(0, fx_r G 0), (1, fx_r G v5), (2, .int v2), (3, .int v3), (4, .int v4), (5, .int v6)] [] S1 (fx_qv (fun S3 => shC S3 ∧ fx_Go G (7, 96) mm_V_store 0 [(0, fx_r G 0), (1, .int v1)] [] S3 (fx_qv (fun S4 => shC S4 ∧ Q (.inl (some (.int v6))) S4) Q)) Q)) ∧ (x2 = 0 → fx_roomx S1 ∧ Q (.inr 3) (fx_exc S1))) Q)) :
    fx_Go G (8, 109) mm_V_write 105 [(0, fx_r G 0), (1, .int v1), (2, .int v2), (3, .int v3), (4, .int v4), (5, fx_r G v5), (6, .int v6)] [] S Q := by
  refine bk_V_write_105 0 v1 v2 v3 v4 v5 v6 ?_
  refine ⟨(hS.is (by decide) rfl), ?_⟩
  refine fx_cons h (fx_qi_m fun x2 S1 h => ?_)
  obtain ⟨hS1, h⟩ := h
  refine ⟨fun hc => ?_, fun hc => ?_⟩
  · replace h := h.1 hc
    refine ⟨(hS1.is (by decide) rfl), ?_⟩
    refine fx_cons h (fx_qv_m fun S3 h => ?_)
    obtain ⟨hS3, h⟩ := h
    refine ⟨(hS3.is (by decide) rfl), ?_⟩
    refine fx_cons h (fx_qv_m fun S4 h => ?_)
    obtain ⟨hS4, h⟩ := h
    exact h
  · replace h := h.2 hc
    exact h
theorem bs_V_cut_0 {G : fx_G} {S : fx_S} {Q : fx_R → fx_S → Prop} (hS : shC S) (v1 : Int32) (v2 : Int32)  (h : fx_Go G (6, 82) mm_V_requireRunning 0 [(0, fx_r G 0)] [] S (fx_qv (fun S1 => shC S1 ∧ fx_Go G (1, 13) mm_V_isFile 0 [(0, fx_r G 0), (1, .int v1)] [] S1 (fx_qi (fun x3 S2 => shC S2 ∧ (x3 = 0 → fx_Go G (8, 109) mm_V_cut 34 [(0, fx_r G 0), (1, .int v1), (2, .int v2)] [.int 0] S2 Q) ∧ (¬ x3 = 0 → (v2 < 0 → fx_Go G (8, 109) mm_V_cut 34 [(0, fx_r G 0), (1, .int v1), (2, .int v2)] [.int 0] S2 Q) ∧ (¬ v2 < 0 → vp_in v1 12 ∧ ((fx_I S2 (4 + 6 * (v1.toNatClampNeg)) 4) < v2 → fx_Go G (8, 109) mm_V_cut 34 [(0, fx_r G 0), (1, .int v1), (2, .int v2)] [.int 0] S2 Q) ∧ (¬ (fx_I S2 (4 + 6 * (v1.toNatClampNeg)) 4) < v2 → fx_Go G (8, 109) mm_V_cut 34 [(0, fx_r G 0), (1, .int v1), (2, .int v2)] [.int 1] S2 Q)))) Q)) Q)) :
    fx_Go G (8, 109) mm_V_cut 0 [(0, fx_r G 0), (1, .int v1), (2, .int v2)] [] S Q := by
  refine bk_V_cut_0 0 v1 v2 ?_
  refine ⟨(hS.is (by decide) rfl), ?_⟩
  refine fx_cons h (fx_qv_m fun S1 h => ?_)
  obtain ⟨hS1, h⟩ := h
  refine ⟨(hS1.is (by decide) rfl), ?_⟩
  refine fx_cons h (fx_qi_m fun x3 S2 h => ?_)
  obtain ⟨hS2, h⟩ := h
  refine ⟨fun hc => ?_, fun hc => ?_⟩
  · replace h := h.1 hc
    exact h
  · replace h := h.2 hc
    refine ⟨fun hc => ?_, fun hc => ?_⟩
    · replace h := h.1 hc
      exact h
    · replace h := h.2 hc
      refine ⟨(hS2.is (by decide) rfl), ?_⟩
      refine ⟨_, (hS2.P (by decide) rfl), ?_⟩
      refine ⟨(hS2.is (by decide) rfl), ?_⟩
      obtain ⟨w5, h⟩ := h
      refine ⟨(hS2.vin (by decide) rfl w5), _, hS2.P (by decide) (sheet_at _ (vin_lt w5)), ?_⟩
      refine ⟨(hS2.iH (isH_at _ (vin_lt w5))), ?_⟩
      refine ⟨fun hc => ?_, fun hc => ?_⟩
      · replace h := h.1 hc
        exact h
      · replace h := h.2 hc
        exact h
theorem bs_V_cut_34 {G : fx_G} {S : fx_S} {Q : fx_R → fx_S → Prop} (hS : shC S) (v1 : Int32) (v2 : Int32) (z0 : Int32)  (h : fx_Go G (6, 82) mm_V_require 0 [(0, .int z0)] [] S (fx_qv (fun S1 => shC S1 ∧ vp_in v1 12 ∧ ∀ S5, S5 = fx_setI S1 (4 + 6 * (v1.toNatClampNeg)) 4 v2 → (¬ (fx_I S5 (4 + 6 * (v1.toNatClampNeg)) 3) = 3 → fx_Go G (7, 96) mm_V_store 0 [(0, fx_r G 0), (1, .int v1)] [] S5 (fx_qv (fun S6 => shC S6 ∧ Q (.inl (some (.int (fx_I S1 (4 + 6 * (v1.toNatClampNeg)) 4)))) S6) Q)) ∧ ((fx_I S5 (4 + 6 * (v1.toNatClampNeg)) 3) = 3 → fx_Go G (0, 0) mm_V_clustersFor 0 [(0, .int v2)] [] S5 (fx_qi (fun x9 S8 => shC S8 ∧ fx_Go G (1, 14) mm_V_releaseFrom 0 [(0, fx_r G 0), (1, fx_r G ((4 + 6 * (v1.toNatClampNeg)) + 4)), (2, .int x9)] [] S8 (fx_qi (fun x11 S10 => shC S10 ∧ fx_Go G (1, 12) mm_V_endOfLastCluster 0 [(0, .int v2)] [] S10 (fx_qi (fun x15 S14 => shC S14 ∧ fx_Go G (2, 29) mm_D_clearFile 0 [(0, fx_r G 1), (1, fx_r G ((4 + 6 * (v1.toNatClampNeg)) + 4)), (2, .int v2), (3, .int x15)] [] S14 (fx_qv (fun S16 => shC S16 ∧ (¬ v2 = 0 → fx_Go G (7, 96) mm_V_store 0 [(0, fx_r G 0), (1, .int v1)] [] S16 (fx_qv (fun S17 => shC S17 ∧ Q (.inl (some (.int (fx_I S1 (4 + 6 * (v1.toNatClampNeg)) 4)))) S17) Q)) ∧ (v2 = 0 → ∀ S18, S18 = fx_setI S16 (4 + 6 * (v1.toNatClampNeg)) 3 2 → fx_Go G (7, 96) mm_V_store 0 [(0, fx_r G 0), (1, .int v1)] [] S18 (fx_qv (fun S19 => shC S19 ∧ Q (.inl (some (.int (fx_I S1 (4 + 6 * (v1.toNatClampNeg)) 4)))) S19) Q))) Q)) Q)) Q)) Q))) Q)) :
    fx_Go G (8, 109) mm_V_cut 34 [(0, fx_r G 0), (1, .int v1), (2, .int v2)] [.int z0] S Q := by
  refine bk_V_cut_34 0 v1 v2 z0 ?_
  refine fx_cons h (fx_qv_m fun S1 h => ?_)
  obtain ⟨hS1, h⟩ := h
  refine ⟨(hS1.is (by decide) rfl), ?_⟩
  refine ⟨_, (hS1.P (by decide) rfl), ?_⟩
  refine ⟨(hS1.is (by decide) rfl), ?_⟩
  obtain ⟨w3, h⟩ := h
  refine ⟨(hS1.vin (by decide) rfl w3), _, hS1.P (by decide) (sheet_at _ (vin_lt w3)), ?_⟩
  refine ⟨(hS1.iH (isH_at _ (vin_lt w3))), ?_⟩
  intro S5 eS5
  replace h := h S5 eS5
  have hS5 : shC S5 := by rw [eS5]; exact hS1
  refine ⟨fun hc => ?_, fun hc => ?_⟩
  · replace h := h.1 hc
    refine fx_cons h (fx_qv_m fun S6 h => ?_)
    obtain ⟨hS6, h⟩ := h
    exact h
  · replace h := h.2 hc
    refine ⟨_, (hS5.pHy (isH_at _ (vin_lt w3))), ?_⟩
    refine fx_cons h (fx_qi_m fun x9 S8 h => ?_)
    obtain ⟨hS8, h⟩ := h
    refine ⟨(hS8.is (by decide) rfl), ?_⟩
    refine fx_cons h (fx_qi_m fun x11 S10 h => ?_)
    obtain ⟨hS10, h⟩ := h
    refine ⟨(hS10.is (by decide) rfl), ?_⟩
    refine ⟨_, (hS10.P (by decide) rfl), ?_⟩
    refine ⟨(hS10.iH (isH_at _ (vin_lt w3))), ?_⟩
    refine ⟨_, (hS10.pHy (isH_at _ (vin_lt w3))), ?_⟩
    refine fx_cons h (fx_qi_m fun x15 S14 h => ?_)
    obtain ⟨hS14, h⟩ := h
    refine ⟨(hS14.is (by decide) rfl), ?_⟩
    refine fx_cons h (fx_qv_m fun S16 h => ?_)
    obtain ⟨hS16, h⟩ := h
    refine ⟨fun hc => ?_, fun hc => ?_⟩
    · replace h := h.1 hc
      refine ⟨(hS16.is (by decide) rfl), ?_⟩
      refine fx_cons h (fx_qv_m fun S17 h => ?_)
      obtain ⟨hS17, h⟩ := h
      exact h
    · replace h := h.2 hc
      refine ⟨(hS16.iH (isH_at _ (vin_lt w3))), ?_⟩
      intro S18 eS18
      replace h := h S18 eS18
      have hS18 : shC S18 := by rw [eS18]; exact hS16
      refine ⟨(hS18.is (by decide) rfl), ?_⟩
      refine fx_cons h (fx_qv_m fun S19 h => ?_)
      obtain ⟨hS19, h⟩ := h
      exact h
theorem bs_V_remove_0 {G : fx_G} {S : fx_S} {Q : fx_R → fx_S → Prop} (hS : shC S) (v1 : Int32)  (h : fx_Go G (6, 82) mm_V_requireRunning 0 [(0, fx_r G 0)] [] S (fx_qv (fun S1 => shC S1 ∧ fx_Go G (0, 0) mm_V_isUsed 0 [(0, fx_r G 0), (1, .int v1)] [] S1 (fx_qi (fun x3 S2 => shC S2 ∧ (x3 = 0 → fx_Go G (8, 109) mm_V_remove 41 [(0, fx_r G 0), (1, .int v1)] [.int 0] S2 Q) ∧ (¬ x3 = 0 → (v1 = 0 → fx_Go G (8, 109) mm_V_remove 41 [(0, fx_r G 0), (1, .int v1)] [.int 0] S2 Q) ∧ (¬ v1 = 0 → fx_Go G (1, 13) mm_V_isDirectory 0 [(0, fx_r G 0), (1, .int v1)] [] S2 (fx_qi (fun x5 S4 => shC S4 ∧ (x5 = 0 → fx_Go G (8, 109) mm_V_remove 41 [(0, fx_r G 0), (1, .int v1)] [.int 1] S4 Q) ∧ (¬ x5 = 0 → vp_in v1 12 ∧ (0 < (fx_I S4 (4 + 6 * (v1.toNatClampNeg)) 4) → fx_Go G (8, 109) mm_V_remove 41 [(0, fx_r G 0), (1, .int v1)] [.int 0] S4 Q) ∧ (¬ 0 < (fx_I S4 (4 + 6 * (v1.toNatClampNeg)) 4) → fx_Go G (8, 109) mm_V_remove 41 [(0, fx_r G 0), (1, .int v1)] [.int 1] S4 Q))) Q)))) Q)) Q)) :
    fx_Go G (8, 109) mm_V_remove 0 [(0, fx_r G 0), (1, .int v1)] [] S Q := by
  refine bk_V_remove_0 0 v1 ?_
  refine ⟨(hS.is (by decide) rfl), ?_⟩
  refine fx_cons h (fx_qv_m fun S1 h => ?_)
  obtain ⟨hS1, h⟩ := h
  refine ⟨(hS1.is (by decide) rfl), ?_⟩
  refine fx_cons h (fx_qi_m fun x3 S2 h => ?_)
  obtain ⟨hS2, h⟩ := h
  refine ⟨fun hc => ?_, fun hc => ?_⟩
  · replace h := h.1 hc
    exact h
  · replace h := h.2 hc
    refine ⟨fun hc => ?_, fun hc => ?_⟩
    · replace h := h.1 hc
      exact h
    · replace h := h.2 hc
      refine ⟨(hS2.is (by decide) rfl), ?_⟩
      refine fx_cons h (fx_qi_m fun x5 S4 h => ?_)
      obtain ⟨hS4, h⟩ := h
      refine ⟨fun hc => ?_, fun hc => ?_⟩
      · replace h := h.1 hc
        exact h
      · replace h := h.2 hc
        refine ⟨(hS4.is (by decide) rfl), ?_⟩
        refine ⟨_, (hS4.P (by decide) rfl), ?_⟩
        refine ⟨(hS4.is (by decide) rfl), ?_⟩
        obtain ⟨w7, h⟩ := h
        refine ⟨(hS4.vin (by decide) rfl w7), _, hS4.P (by decide) (sheet_at _ (vin_lt w7)), ?_⟩
        refine ⟨(hS4.iH (isH_at _ (vin_lt w7))), ?_⟩
        refine ⟨fun hc => ?_, fun hc => ?_⟩
        · replace h := h.1 hc
          exact h
        · replace h := h.2 hc
          exact h
theorem bs_V_remove_41 {G : fx_G} {S : fx_S} {Q : fx_R → fx_S → Prop} (hS : shC S) (v1 : Int32) (z0 : Int32)  (h : fx_Go G (6, 82) mm_V_require 0 [(0, .int z0)] [] S (fx_qv (fun S1 => shC S1 ∧ vp_in v1 12 ∧ fx_Go G (0, 0) mm_V_leave 0 [(0, fx_r G 0), (1, .int (fx_I S1 (4 + 6 * (v1.toNatClampNeg)) 1)), (2, .int v1)] [] S1 (fx_qv (fun S5 => shC S5 ∧ fx_Go G (7, 96) mm_V_store 0 [(0, fx_r G 0), (1, .int (fx_I S1 (4 + 6 * (v1.toNatClampNeg)) 1))] [] S5 (fx_qv (fun S6 => shC S6 ∧ fx_Go G (1, 14) mm_V_releaseFrom 0 [(0, fx_r G 0), (1, fx_r G ((4 + 6 * (v1.toNatClampNeg)) + 4)), (2, .int 0)] [] S6 (fx_qi (fun x9 S8 => shC S8 ∧ fx_Go G (1, 12) mm_H_become 0 [(0, fx_r G (4 + 6 * (v1.toNatClampNeg))), (1, .int 0), (2, .int 0)] [] S8 (fx_qv (fun S10 => shC S10 ∧ fx_Go G (7, 96) mm_V_store 0 [(0, fx_r G 0), (1, .int v1)] [] S10 (fx_qv (fun S11 => shC S11 ∧ Q (.inl (some (.int x9))) S11) Q)) Q)) Q)) Q)) Q)) Q)) :
    fx_Go G (8, 109) mm_V_remove 41 [(0, fx_r G 0), (1, .int v1)] [.int z0] S Q := by
  refine bk_V_remove_41 0 v1 z0 ?_
  refine fx_cons h (fx_qv_m fun S1 h => ?_)
  obtain ⟨hS1, h⟩ := h
  refine ⟨(hS1.is (by decide) rfl), ?_⟩
  refine ⟨_, (hS1.P (by decide) rfl), ?_⟩
  refine ⟨(hS1.is (by decide) rfl), ?_⟩
  obtain ⟨w3, h⟩ := h
  refine ⟨(hS1.vin (by decide) rfl w3), _, hS1.P (by decide) (sheet_at _ (vin_lt w3)), ?_⟩
  refine ⟨(hS1.iH (isH_at _ (vin_lt w3))), ?_⟩
  refine fx_cons h (fx_qv_m fun S5 h => ?_)
  obtain ⟨hS5, h⟩ := h
  refine ⟨(hS5.is (by decide) rfl), ?_⟩
  refine fx_cons h (fx_qv_m fun S6 h => ?_)
  obtain ⟨hS6, h⟩ := h
  refine ⟨(hS6.iH (isH_at _ (vin_lt w3))), ?_⟩
  refine ⟨_, (hS6.pHy (isH_at _ (vin_lt w3))), ?_⟩
  refine ⟨(hS6.is (by decide) rfl), ?_⟩
  refine fx_cons h (fx_qi_m fun x9 S8 h => ?_)
  obtain ⟨hS8, h⟩ := h
  refine ⟨(hS8.iH (isH_at _ (vin_lt w3))), ?_⟩
  refine fx_cons h (fx_qv_m fun S10 h => ?_)
  obtain ⟨hS10, h⟩ := h
  refine ⟨(hS10.is (by decide) rfl), ?_⟩
  refine fx_cons h (fx_qv_m fun S11 h => ?_)
  obtain ⟨hS11, h⟩ := h
  exact h
theorem bs_V_move_0 {G : fx_G} {S : fx_S} {Q : fx_R → fx_S → Prop} (hS : shC S) (v1 : Int32) (v2 : Int32)  (h : fx_Go G (6, 82) mm_V_requireRunning 0 [(0, fx_r G 0)] [] S (fx_qv (fun S1 => shC S1 ∧ fx_Go G (0, 0) mm_V_isUsed 0 [(0, fx_r G 0), (1, .int v1)] [] S1 (fx_qi (fun x3 S2 => shC S2 ∧ (x3 = 0 → fx_Go G (8, 109) mm_V_move 56 [(0, fx_r G 0), (1, .int v1), (2, .int v2)] [.int 0] S2 Q) ∧ (¬ x3 = 0 → (v1 = 0 → fx_Go G (8, 109) mm_V_move 56 [(0, fx_r G 0), (1, .int v1), (2, .int v2)] [.int 0] S2 Q) ∧ (¬ v1 = 0 → fx_Go G (1, 13) mm_V_isDirectory 0 [(0, fx_r G 0), (1, .int v2)] [] S2 (fx_qi (fun x5 S4 => shC S4 ∧ (x5 = 0 → fx_Go G (8, 109) mm_V_move 56 [(0, fx_r G 0), (1, .int v1), (2, .int v2)] [.int 0] S4 Q) ∧ (¬ x5 = 0 → fx_Go G (1, 13) mm_V_isAtOrBelow 0 [(0, fx_r G 0), (1, .int v2), (2, .int v1)] [] S4 (fx_qi (fun x7 S6 => shC S6 ∧ (¬ x7 = 0 → fx_Go G (8, 109) mm_V_move 56 [(0, fx_r G 0), (1, .int v1), (2, .int v2)] [.int 0] S6 Q) ∧ (x7 = 0 → vp_in v1 12 ∧ fx_Go G (2, 28) mm_V_entryNamed 0 [(0, fx_r G 0), (1, .int v2), (2, fx_r G ((4 + 6 * (v1.toNatClampNeg)) + 1))] [] S6 (fx_qi (fun x13 S12 => shC S12 ∧ (¬ x13 = (-1) → fx_Go G (8, 109) mm_V_move 56 [(0, fx_r G 0), (1, .int v1), (2, .int v2)] [.int 0] S12 Q) ∧ (x13 = (-1) → fx_Go G (8, 109) mm_V_move 56 [(0, fx_r G 0), (1, .int v1), (2, .int v2)] [.int 1] S12 Q)) Q))) Q))) Q)))) Q)) Q)) :
    fx_Go G (8, 109) mm_V_move 0 [(0, fx_r G 0), (1, .int v1), (2, .int v2)] [] S Q := by
  refine bk_V_move_0 0 v1 v2 ?_
  refine ⟨(hS.is (by decide) rfl), ?_⟩
  refine fx_cons h (fx_qv_m fun S1 h => ?_)
  obtain ⟨hS1, h⟩ := h
  refine ⟨(hS1.is (by decide) rfl), ?_⟩
  refine fx_cons h (fx_qi_m fun x3 S2 h => ?_)
  obtain ⟨hS2, h⟩ := h
  refine ⟨fun hc => ?_, fun hc => ?_⟩
  · replace h := h.1 hc
    exact h
  · replace h := h.2 hc
    refine ⟨fun hc => ?_, fun hc => ?_⟩
    · replace h := h.1 hc
      exact h
    · replace h := h.2 hc
      refine ⟨(hS2.is (by decide) rfl), ?_⟩
      refine fx_cons h (fx_qi_m fun x5 S4 h => ?_)
      obtain ⟨hS4, h⟩ := h
      refine ⟨fun hc => ?_, fun hc => ?_⟩
      · replace h := h.1 hc
        exact h
      · replace h := h.2 hc
        refine ⟨(hS4.is (by decide) rfl), ?_⟩
        refine fx_cons h (fx_qi_m fun x7 S6 h => ?_)
        obtain ⟨hS6, h⟩ := h
        refine ⟨fun hc => ?_, fun hc => ?_⟩
        · replace h := h.1 hc
          exact h
        · replace h := h.2 hc
          refine ⟨(hS6.is (by decide) rfl), ?_⟩
          refine ⟨_, (hS6.P (by decide) rfl), ?_⟩
          refine ⟨(hS6.is (by decide) rfl), ?_⟩
          obtain ⟨w9, h⟩ := h
          refine ⟨(hS6.vin (by decide) rfl w9), _, hS6.P (by decide) (sheet_at _ (vin_lt w9)), ?_⟩
          refine ⟨(hS6.iH (isH_at _ (vin_lt w9))), ?_⟩
          refine ⟨_, (hS6.pHn (isH_at _ (vin_lt w9))), ?_⟩
          refine fx_cons h (fx_qi_m fun x13 S12 h => ?_)
          obtain ⟨hS12, h⟩ := h
          refine ⟨fun hc => ?_, fun hc => ?_⟩
          · replace h := h.1 hc
            exact h
          · replace h := h.2 hc
            exact h
theorem bs_V_move_56 {G : fx_G} {S : fx_S} {Q : fx_R → fx_S → Prop} (hS : shC S) (v1 : Int32) (v2 : Int32) (z0 : Int32)  (h : fx_Go G (6, 82) mm_V_require 0 [(0, .int z0)] [] S (fx_qv (fun S1 => shC S1 ∧ vp_in v1 12 ∧ vp_in v1 12 ∧ ∀ S8, S8 = fx_setI S1 (4 + 6 * (v1.toNatClampNeg)) 1 v2 → fx_Go G (7, 96) mm_V_store 0 [(0, fx_r G 0), (1, .int v1)] [] S8 (fx_qv (fun S9 => shC S9 ∧ fx_Go G (0, 0) mm_V_leave 0 [(0, fx_r G 0), (1, .int (fx_I S1 (4 + 6 * (v1.toNatClampNeg)) 1)), (2, .int v1)] [] S9 (fx_qv (fun S10 => shC S10 ∧ fx_Go G (7, 96) mm_V_store 0 [(0, fx_r G 0), (1, .int (fx_I S1 (4 + 6 * (v1.toNatClampNeg)) 1))] [] S10 (fx_qv (fun S11 => shC S11 ∧ fx_Go G (3, 45) mm_V_enter 0 [(0, fx_r G 0), (1, .int v2), (2, .int v1)] [] S11 (fx_qv (fun S12 => shC S12 ∧ fx_Go G (7, 96) mm_V_store 0 [(0, fx_r G 0), (1, .int v2)] [] S12 (fx_qv (fun S13 => shC S13 ∧ Q (.inl none) S13) Q)) Q)) Q)) Q)) Q)) Q)) :
    fx_Go G (8, 109) mm_V_move 56 [(0, fx_r G 0), (1, .int v1), (2, .int v2)] [.int z0] S Q := by
  refine bk_V_move_56 0 v1 v2 z0 ?_
  refine fx_cons h (fx_qv_m fun S1 h => ?_)
  obtain ⟨hS1, h⟩ := h
  refine ⟨(hS1.is (by decide) rfl), ?_⟩
  refine ⟨_, (hS1.P (by decide) rfl), ?_⟩
  refine ⟨(hS1.is (by decide) rfl), ?_⟩
  obtain ⟨w3, h⟩ := h
  refine ⟨(hS1.vin (by decide) rfl w3), _, hS1.P (by decide) (sheet_at _ (vin_lt w3)), ?_⟩
  refine ⟨(hS1.iH (isH_at _ (vin_lt w3))), ?_⟩
  refine ⟨_, (hS1.P (by decide) rfl), ?_⟩
  refine ⟨(hS1.is (by decide) rfl), ?_⟩
  obtain ⟨w6, h⟩ := h
  refine ⟨(hS1.vin (by decide) rfl w6), _, hS1.P (by decide) (sheet_at _ (vin_lt w6)), ?_⟩
  refine ⟨(hS1.iH (isH_at _ (vin_lt w6))), ?_⟩
  intro S8 eS8
  replace h := h S8 eS8
  have hS8 : shC S8 := by rw [eS8]; exact hS1
  refine fx_cons h (fx_qv_m fun S9 h => ?_)
  obtain ⟨hS9, h⟩ := h
  refine ⟨(hS9.is (by decide) rfl), ?_⟩
  refine fx_cons h (fx_qv_m fun S10 h => ?_)
  obtain ⟨hS10, h⟩ := h
  refine ⟨(hS10.is (by decide) rfl), ?_⟩
  refine fx_cons h (fx_qv_m fun S11 h => ?_)
  obtain ⟨hS11, h⟩ := h
  refine ⟨(hS11.is (by decide) rfl), ?_⟩
  refine fx_cons h (fx_qv_m fun S12 h => ?_)
  obtain ⟨hS12, h⟩ := h
  refine ⟨(hS12.is (by decide) rfl), ?_⟩
  refine fx_cons h (fx_qv_m fun S13 h => ?_)
  obtain ⟨hS13, h⟩ := h
  exact h
theorem bs_V_fail_0 {G : fx_G} {S : fx_S} {Q : fx_R → fx_S → Prop} (hS : shC S) (v1 : Int32)  (h : (v1 < 0 → Q (.inl (some (.int 0))) S) ∧ (¬ v1 < 0 → (v1 ≤ 20 → ∀ S2, S2 = fx_setI S 1 1 v1 → Q (.inl (some (.int 1))) S2) ∧ (¬ v1 ≤ 20 → Q (.inl (some (.int 0))) S))) :
    fx_Go G (0, 0) mm_V_fail 0 [(0, fx_r G 0), (1, .int v1)] [] S Q := by
  refine bk_V_fail_0 0 v1 ?_
  refine ⟨fun hc => ?_, fun hc => ?_⟩
  · replace h := h.1 hc
    exact h
  · replace h := h.2 hc
    refine ⟨fun hc => ?_, fun hc => ?_⟩
    · replace h := h.1 hc
      refine ⟨(hS.is (by decide) rfl), ?_⟩
      refine ⟨_, (hS.P (by decide) rfl), ?_⟩
      refine ⟨(hS.is (by decide) rfl), ?_⟩
      intro S2 eS2
      replace h := h S2 eS2
      have hS2 : shC S2 := by rw [eS2]; exact hS
      exact h
    · replace h := h.2 hc
      exact h
theorem bs_V_mount_0 {G : fx_G} {S : fx_S} {Q : fx_R → fx_S → Prop} (hS : shC S)   (h : fx_Go G (9, 125) mm_V_mount 2 [(0, fx_r G 0), (1, .int 0)] [] S Q) :
    fx_Go G (9, 125) mm_V_mount 0 [(0, fx_r G 0)] [] S Q := by
  refine bk_V_mount_0 0 ?_
  exact h
theorem bs_V_mount_2 {G : fx_G} {S : fx_S} {Q : fx_R → fx_S → Prop} (hS : shC S) (v1 : Int32)  (h : (12 ≤ v1 → fx_Go G (8, 109) mm_V_restoreRoot 0 [(0, fx_r G 0)] [] S (fx_qi (fun x2 S1 => shC S1 ∧ fx_Go G (8, 109) mm_V_adoptStrays 0 [(0, fx_r G 0)] [] S1 (fx_qi (fun x4 S3 => shC S3 ∧ fx_Go G (8, 109) mm_V_mendLists 0 [(0, fx_r G 0)] [] S3 (fx_qi (fun x6 S5 => shC S5 ∧ fx_Go G (1, 12) mm_V_noteTaken 0 [(0, fx_r G 0)] [] S5 (fx_qv (fun S7 => shC S7 ∧ ∀ S8, S8 = fx_setI S7 0 4 1 → Q (.inl (some (.int ((x2 + x4) + x6)))) S8) Q)) Q)) Q)) Q)) ∧ (¬ 12 ≤ v1 → fx_Go G (1, 18) mm_D_liftRecord 0 [(0, fx_r G 1), (1, .int v1), (2, fx_r G 83)] [] S (fx_qv (fun S11 => shC S11 ∧ vp_in v1 12 ∧ fx_Go G (4, 65) mm_H_decode 0 [(0, fx_r G (4 + 6 * (v1.toNatClampNeg))), (1, fx_r G 83)] [] S11 (fx_qv (fun S16 => shC S16 ∧ fx_Go G (9, 125) mm_V_mount 2 [(0, fx_r G 0), (1, .int (v1 + Int32.ofInt 1))] [] S16 Q) Q)) Q))) :
    fx_Go G (9, 125) mm_V_mount 2 [(0, fx_r G 0), (1, .int v1)] [] S Q := by
  refine bk_V_mount_2 0 v1 ?_
  refine ⟨fun hc => ?_, fun hc => ?_⟩
  · replace h := h.1 hc
    refine ⟨(hS.is (by decide) rfl), ?_⟩
    refine fx_cons h (fx_qi_m fun x2 S1 h => ?_)
    obtain ⟨hS1, h⟩ := h
    refine ⟨(hS1.is (by decide) rfl), ?_⟩
    refine fx_cons h (fx_qi_m fun x4 S3 h => ?_)
    obtain ⟨hS3, h⟩ := h
    refine ⟨(hS3.is (by decide) rfl), ?_⟩
    refine fx_cons h (fx_qi_m fun x6 S5 h => ?_)
    obtain ⟨hS5, h⟩ := h
    refine ⟨(hS5.is (by decide) rfl), ?_⟩
    refine fx_cons h (fx_qv_m fun S7 h => ?_)
    obtain ⟨hS7, h⟩ := h
    refine ⟨(hS7.is (by decide) rfl), ?_⟩
    intro S8 eS8
    replace h := h S8 eS8
    have hS8 : shC S8 := by rw [eS8]; exact hS7
    exact h
  · replace h := h.2 hc
    refine ⟨(hS.is (by decide) rfl), ?_⟩
    refine ⟨_, (hS.P (by decide) rfl), ?_⟩
    refine ⟨_, (hS.P (by decide) rfl), ?_⟩
    refine ⟨(hS.is (by decide) rfl), ?_⟩
    refine fx_cons h (fx_qv_m fun S11 h => ?_)
    obtain ⟨hS11, h⟩ := h
    refine ⟨(hS11.is (by decide) rfl), ?_⟩
    refine ⟨_, (hS11.P (by decide) rfl), ?_⟩
    refine ⟨(hS11.is (by decide) rfl), ?_⟩
    obtain ⟨w13, h⟩ := h
    refine ⟨(hS11.vin (by decide) rfl w13), _, hS11.P (by decide) (sheet_at _ (vin_lt w13)), ?_⟩
    refine ⟨_, (hS11.P (by decide) rfl), ?_⟩
    refine ⟨(hS11.iH (isH_at _ (vin_lt w13))), ?_⟩
    refine fx_cons h (fx_qv_m fun S16 h => ?_)
    obtain ⟨hS16, h⟩ := h
    exact h
theorem bs_V_on_0 {G : fx_G} {S : fx_S} {Q : fx_R → fx_S → Prop} (hS : shC S)   (h : narrow .boolean (.int (fx_I S 0 4)) = .int (fx_I S 0 4) ∧ Q (.inl (some (.int (fx_I S 0 4)))) S) :
    fx_Go G (0, 0) mm_V_on 0 [(0, fx_r G 0)] [] S Q := by
  refine bk_V_on_0 0 ?_
  refine ⟨(hS.is (by decide) rfl), ?_⟩
  exact h
theorem bs_V_find_0 {G : fx_G} {S : fx_S} {Q : fx_R → fx_S → Prop} (hS : shC S) (v1 : Int32)  (h : ((fx_I S 0 4) = 0 → fx_Go G (0, 0) mm_N_clear 0 [(0, fx_r G 77)] [] S (fx_qv (fun S2 => shC S2 ∧ Q (.inl (some (.int (-1)))) S2) Q)) ∧ (¬ (fx_I S 0 4) = 0 → fx_Go G (1, 13) mm_V_isDirectory 0 [(0, fx_r G 0), (1, .int v1)] [] S (fx_qi (fun x4 S3 => shC S3 ∧ (x4 = 0 → fx_Go G (0, 0) mm_N_clear 0 [(0, fx_r G 77)] [] S3 (fx_qv (fun S6 => shC S6 ∧ Q (.inl (some (.int (-1)))) S6) Q)) ∧ (¬ x4 = 0 → fx_Go G (2, 28) mm_V_entryNamed 0 [(0, fx_r G 0), (1, .int v1), (2, fx_r G 77)] [] S3 (fx_qi (fun x9 S8 => shC S8 ∧ fx_Go G (0, 0) mm_N_clear 0 [(0, fx_r G 77)] [] S8 (fx_qv (fun S11 => shC S11 ∧ Q (.inl (some (.int x9))) S11) Q)) Q))) Q))) :
    fx_Go G (3, 44) mm_V_find 0 [(0, fx_r G 0), (1, .int v1)] [] S Q := by
  refine bk_V_find_0 0 v1 ?_
  refine ⟨(hS.is (by decide) rfl), ?_⟩
  refine ⟨fun hc => ?_, fun hc => ?_⟩
  · replace h := h.1 hc
    refine ⟨_, (hS.P (by decide) rfl), ?_⟩
    refine ⟨(hS.is (by decide) rfl), ?_⟩
    refine fx_cons h (fx_qv_m fun S2 h => ?_)
    obtain ⟨hS2, h⟩ := h
    exact h
  · replace h := h.2 hc
    refine fx_cons h (fx_qi_m fun x4 S3 h => ?_)
    obtain ⟨hS3, h⟩ := h
    refine ⟨fun hc => ?_, fun hc => ?_⟩
    · replace h := h.1 hc
      refine ⟨(hS3.is (by decide) rfl), ?_⟩
      refine ⟨_, (hS3.P (by decide) rfl), ?_⟩
      refine ⟨(hS3.is (by decide) rfl), ?_⟩
      refine fx_cons h (fx_qv_m fun S6 h => ?_)
      obtain ⟨hS6, h⟩ := h
      exact h
    · replace h := h.2 hc
      refine ⟨(hS3.is (by decide) rfl), ?_⟩
      refine ⟨_, (hS3.P (by decide) rfl), ?_⟩
      refine fx_cons h (fx_qi_m fun x9 S8 h => ?_)
      obtain ⟨hS8, h⟩ := h
      refine ⟨(hS8.is (by decide) rfl), ?_⟩
      refine ⟨_, (hS8.P (by decide) rfl), ?_⟩
      refine ⟨(hS8.is (by decide) rfl), ?_⟩
      refine fx_cons h (fx_qv_m fun S11 h => ?_)
      obtain ⟨hS11, h⟩ := h
      exact h
theorem bs_V_record_0 {G : fx_G} {S : fx_S} {Q : fx_R → fx_S → Prop} (hS : shC S) (v1 : Int32) (v2 : Int32)  (h : ((fx_I S 0 4) = 0 → Q (.inl (some (.int (-1)))) S) ∧ (¬ (fx_I S 0 4) = 0 → fx_Go G (0, 0) mm_V_isUsed 0 [(0, fx_r G 0), (1, .int v1)] [] S (fx_qi (fun x2 S1 => shC S1 ∧ (¬ x2 = 0 → vp_in v1 12 ∧ (v2 = 0 → Q (.inl (some (.int (fx_I S1 (4 + 6 * (v1.toNatClampNeg)) 0)))) S1) ∧ (v2 = 1 → Q (.inl (some (.int (fx_I S1 (4 + 6 * (v1.toNatClampNeg)) 1)))) S1) ∧ (v2 = 2 → Q (.inl (some (.int (fx_I S1 (4 + 6 * (v1.toNatClampNeg)) 2)))) S1) ∧ (v2 = 3 → fx_Go G (3, 40) mm_H_attributeBytes 0 [(0, fx_r G (4 + 6 * (v1.toNatClampNeg)))] [] S1 (fx_qi (fun x7 S6 => shC S6 ∧ Q (.inl (some (.int x7))) S6) Q)) ∧ (v2 = 4 → Q (.inl (some (.int (fx_I S1 (4 + 6 * (v1.toNatClampNeg)) 4)))) S1) ∧ (v2 = 5 → Q (.inl (some (.int (fx_I S1 (4 + 6 * (v1.toNatClampNeg)) 3)))) S1) ∧ (v2 = 6 → fx_Go G (1, 13) mm_Y_runCount 0 [(0, fx_r G ((4 + 6 * (v1.toNatClampNeg)) + 4))] [] S1 (fx_qi (fun x10 S9 => shC S9 ∧ Q (.inl (some (.int x10))) S9) Q)) ∧ (¬ v2 = 0 → ¬ v2 = 1 → ¬ v2 = 2 → ¬ v2 = 3 → ¬ v2 = 4 → ¬ v2 = 5 → ¬ v2 = 6 → Q (.inl (some (.int (-1)))) S1)) ∧ (x2 = 0 → Q (.inl (some (.int (-1)))) S1)) Q))) :
    fx_Go G (4, 52) mm_V_record 0 [(0, fx_r G 0), (1, .int v1), (2, .int v2)] [] S Q := by
  refine bk_V_record_0 0 v1 v2 ?_
  refine ⟨(hS.is (by decide) rfl), ?_⟩
  refine ⟨fun hc => ?_, fun hc => ?_⟩
  · replace h := h.1 hc
    exact h
  · replace h := h.2 hc
    refine fx_cons h (fx_qi_m fun x2 S1 h => ?_)
    obtain ⟨hS1, h⟩ := h
    refine ⟨fun hc => ?_, fun hc => ?_⟩
    · replace h := h.1 hc
      refine ⟨(hS1.is (by decide) rfl), ?_⟩
      refine ⟨_, (hS1.P (by decide) rfl), ?_⟩
      refine ⟨(hS1.is (by decide) rfl), ?_⟩
      obtain ⟨w4, h⟩ := h
      refine ⟨(hS1.vin (by decide) rfl w4), _, hS1.P (by decide) (sheet_at _ (vin_lt w4)), ?_⟩
      refine ⟨fun hc => ?_, fun hc => ?_, fun hc => ?_, fun hc => ?_, fun hc => ?_, fun hc => ?_, fun hc => ?_, fun hc0 hc1 hc2 hc3 hc4 hc5 hc6 => ?_⟩
      · replace h := h.1 hc
        refine ⟨(hS1.iH (isH_at _ (vin_lt w4))), ?_⟩
        exact h
      · replace h := h.2.1 hc
        refine ⟨(hS1.iH (isH_at _ (vin_lt w4))), ?_⟩
        exact h
      · replace h := h.2.2.1 hc
        refine ⟨(hS1.iH (isH_at _ (vin_lt w4))), ?_⟩
        exact h
      · replace h := h.2.2.2.1 hc
        refine ⟨(hS1.iH (isH_at _ (vin_lt w4))), ?_⟩
        refine fx_cons h (fx_qi_m fun x7 S6 h => ?_)
        obtain ⟨hS6, h⟩ := h
        exact h
      · replace h := h.2.2.2.2.1 hc
        refine ⟨(hS1.iH (isH_at _ (vin_lt w4))), ?_⟩
        exact h
      · replace h := h.2.2.2.2.2.1 hc
        refine ⟨(hS1.iH (isH_at _ (vin_lt w4))), ?_⟩
        exact h
      · replace h := h.2.2.2.2.2.2.1 hc
        refine ⟨(hS1.iH (isH_at _ (vin_lt w4))), ?_⟩
        refine ⟨_, (hS1.pHy (isH_at _ (vin_lt w4))), ?_⟩
        refine ⟨(hS1.iY (isH.y (isH_at _ (vin_lt w4)))), ?_⟩
        refine fx_cons h (fx_qi_m fun x10 S9 h => ?_)
        obtain ⟨hS9, h⟩ := h
        exact h
      · replace h := h.2.2.2.2.2.2.2 hc0 hc1 hc2 hc3 hc4 hc5 hc6
        exact h
    · replace h := h.2 hc
      exact h
theorem bs_V_read_0 {G : fx_G} {S : fx_S} {Q : fx_R → fx_S → Prop} (hS : shC S) (v1 : Int32) (v2 : Int32)  (h : ((fx_I S 0 4) = 0 → Q (.inl (some (.int (-1)))) S) ∧ (¬ (fx_I S 0 4) = 0 → fx_Go G (0, 0) mm_V_isUsed 0 [(0, fx_r G 0), (1, .int v1)] [] S (fx_qi (fun x2 S1 => shC S1 ∧ (x2 = 0 → Q (.inl (some (.int (-1)))) S1) ∧ (¬ x2 = 0 → (v2 < 0 → Q (.inl (some (.int (-1)))) S1) ∧ (¬ v2 < 0 → vp_in v1 12 ∧ (v2 < (fx_I S1 (4 + 6 * (v1.toNatClampNeg)) 4) → vp_in v1 12 ∧ (¬ (fx_I S1 (4 + 6 * (v1.toNatClampNeg)) 3) = 3 → vp_in v2 54 ∧ Q (.inl (some (.int (fx_I S1 ((4 + 6 * (v1.toNatClampNeg)) + 3) (v2.toNatClampNeg))))) S1) ∧ ((fx_I S1 (4 + 6 * (v1.toNatClampNeg)) 3) = 3 → fx_Go G (1, 13) mm_D_fileByte 0 [(0, fx_r G 1), (1, fx_r G ((4 + 6 * (v1.toNatClampNeg)) + 4)), (2, .int v2)] [] S1 (fx_qi (fun x14 S13 => shC S13 ∧ Q (.inl (some (.int x14))) S13) Q))) ∧ (¬ v2 < (fx_I S1 (4 + 6 * (v1.toNatClampNeg)) 4) → Q (.inl (some (.int (-1)))) S1)))) Q))) :
    fx_Go G (2, 28) mm_V_read 0 [(0, fx_r G 0), (1, .int v1), (2, .int v2)] [] S Q := by
  refine bk_V_read_0 0 v1 v2 ?_
  refine ⟨(hS.is (by decide) rfl), ?_⟩
  refine ⟨fun hc => ?_, fun hc => ?_⟩
  · replace h := h.1 hc
    exact h
  · replace h := h.2 hc
    refine fx_cons h (fx_qi_m fun x2 S1 h => ?_)
    obtain ⟨hS1, h⟩ := h
    refine ⟨fun hc => ?_, fun hc => ?_⟩
    · replace h := h.1 hc
      exact h
    · replace h := h.2 hc
      refine ⟨fun hc => ?_, fun hc => ?_⟩
      · replace h := h.1 hc
        exact h
      · replace h := h.2 hc
        refine ⟨(hS1.is (by decide) rfl), ?_⟩
        refine ⟨_, (hS1.P (by decide) rfl), ?_⟩
        refine ⟨(hS1.is (by decide) rfl), ?_⟩
        obtain ⟨w4, h⟩ := h
        refine ⟨(hS1.vin (by decide) rfl w4), _, hS1.P (by decide) (sheet_at _ (vin_lt w4)), ?_⟩
        refine ⟨(hS1.iH (isH_at _ (vin_lt w4))), ?_⟩
        refine ⟨fun hc => ?_, fun hc => ?_⟩
        · replace h := h.1 hc
          refine ⟨_, (hS1.P (by decide) rfl), ?_⟩
          refine ⟨(hS1.is (by decide) rfl), ?_⟩
          obtain ⟨w7, h⟩ := h
          refine ⟨(hS1.vin (by decide) rfl w7), _, hS1.P (by decide) (sheet_at _ (vin_lt w7)), ?_⟩
          refine ⟨(hS1.iH (isH_at _ (vin_lt w7))), ?_⟩
          refine ⟨fun hc => ?_, fun hc => ?_⟩
          · replace h := h.1 hc
            refine ⟨_, (hS1.pHh (isH_at _ (vin_lt w7))), ?_⟩
            refine ⟨(hS1.iHh (isH_at _ (vin_lt w7))), ?_⟩
            obtain ⟨w10, h⟩ := h
            refine ⟨(hS1.vHh (isH_at _ (vin_lt w7)) w10), ?_⟩
            exact h
          · replace h := h.2 hc
            refine ⟨_, (hS1.P (by decide) rfl), ?_⟩
            refine ⟨_, (hS1.pHy (isH_at _ (vin_lt w7))), ?_⟩
            refine ⟨(hS1.is (by decide) rfl), ?_⟩
            refine fx_cons h (fx_qi_m fun x14 S13 h => ?_)
            obtain ⟨hS13, h⟩ := h
            exact h
        · replace h := h.2 hc
          exact h
theorem bs_V_run_0 {G : fx_G} {S : fx_S} {Q : fx_R → fx_S → Prop} (hS : shC S) (v1 : Int32) (v2 : Int32) (v3 : Int32)  (h : ((fx_I S 0 4) = 0 → Q (.inl (some (.int (-1)))) S) ∧ (¬ (fx_I S 0 4) = 0 → fx_Go G (1, 13) mm_V_isFile 0 [(0, fx_r G 0), (1, .int v1)] [] S (fx_qi (fun x2 S1 => shC S1 ∧ (¬ x2 = 0 → vp_in v1 12 ∧ fx_Go G (1, 13) mm_Y_startOfRun 0 [(0, fx_r G ((4 + 6 * (v1.toNatClampNeg)) + 4)), (1, .int v2)] [] S1 (fx_qi (fun x8 S7 => shC S7 ∧ (¬ x8 = (-1) → (v3 = 0 → fx_Go G (1, 13) mm_Y_lengthOfRun 0 [(0, fx_r G ((4 + 6 * (v1.toNatClampNeg)) + 4)), (1, .int x8)] [] S7 (fx_qi (fun x10 S9 => shC S9 ∧ Q (.inl (some (.int x10))) S9) Q)) ∧ (v3 = 1 → fx_Go G (0, 0) mm_Y_placeOf 0 [(0, fx_r G ((4 + 6 * (v1.toNatClampNeg)) + 4)), (1, .int x8)] [] S7 (fx_qi (fun x12 S11 => shC S11 ∧ (¬ x12 = (-1) → fx_Go G (0, 0) mm_Y_placeOf 0 [(0, fx_r G ((4 + 6 * (v1.toNatClampNeg)) + 4)), (1, .int x8)] [] S11 (fx_qi (fun x14 S13 => shC S13 ∧ Q (.inl (some (.int x14))) S13) Q)) ∧ (x12 = (-1) → Q (.inl (some (.int (-1)))) S11)) Q)) ∧ (¬ v3 = 0 → ¬ v3 = 1 → Q (.inl (some (.int (-1)))) S7)) ∧ (x8 = (-1) → Q (.inl (some (.int (-1)))) S7)) Q)) ∧ (x2 = 0 → Q (.inl (some (.int (-1)))) S1)) Q))) :
    fx_Go G (2, 28) mm_V_run 0 [(0, fx_r G 0), (1, .int v1), (2, .int v2), (3, .int v3)] [] S Q := by
  refine bk_V_run_0 0 v1 v2 v3 ?_
  refine ⟨(hS.is (by decide) rfl), ?_⟩
  refine ⟨fun hc => ?_, fun hc => ?_⟩
  · replace h := h.1 hc
    exact h
  · replace h := h.2 hc
    refine fx_cons h (fx_qi_m fun x2 S1 h => ?_)
    obtain ⟨hS1, h⟩ := h
    refine ⟨fun hc => ?_, fun hc => ?_⟩
    · replace h := h.1 hc
      refine ⟨(hS1.is (by decide) rfl), ?_⟩
      refine ⟨_, (hS1.P (by decide) rfl), ?_⟩
      refine ⟨(hS1.is (by decide) rfl), ?_⟩
      obtain ⟨w4, h⟩ := h
      refine ⟨(hS1.vin (by decide) rfl w4), _, hS1.P (by decide) (sheet_at _ (vin_lt w4)), ?_⟩
      refine ⟨(hS1.iH (isH_at _ (vin_lt w4))), ?_⟩
      refine ⟨_, (hS1.pHy (isH_at _ (vin_lt w4))), ?_⟩
      refine ⟨(hS1.iY (isH.y (isH_at _ (vin_lt w4)))), ?_⟩
      refine fx_cons h (fx_qi_m fun x8 S7 h => ?_)
      obtain ⟨hS7, h⟩ := h
      refine ⟨fun hc => ?_, fun hc => ?_⟩
      · replace h := h.1 hc
        refine ⟨fun hc => ?_, fun hc => ?_, fun hc0 hc1 => ?_⟩
        · replace h := h.1 hc
          refine ⟨(hS7.iY (isH.y (isH_at _ (vin_lt w4)))), ?_⟩
          refine fx_cons h (fx_qi_m fun x10 S9 h => ?_)
          obtain ⟨hS9, h⟩ := h
          exact h
        · replace h := h.2.1 hc
          refine ⟨(hS7.iY (isH.y (isH_at _ (vin_lt w4)))), ?_⟩
          refine fx_cons h (fx_qi_m fun x12 S11 h => ?_)
          obtain ⟨hS11, h⟩ := h
          refine ⟨fun hc => ?_, fun hc => ?_⟩
          · replace h := h.1 hc
            refine ⟨(hS11.iY (isH.y (isH_at _ (vin_lt w4)))), ?_⟩
            refine fx_cons h (fx_qi_m fun x14 S13 h => ?_)
            obtain ⟨hS13, h⟩ := h
            exact h
          · replace h := h.2 hc
            exact h
        · replace h := h.2.2 hc0 hc1
          exact h
      · replace h := h.2 hc
        exact h
    · replace h := h.2 hc
      exact h
theorem bs_V_free_0 {G : fx_G} {S : fx_S} {Q : fx_R → fx_S → Prop} (hS : shC S)   (h : (¬ (fx_I S 0 4) = 0 → fx_Go G (0, 0) mm_V_free 14 [(0, fx_r G 0), (1, .int 0), (2, .int 48)] [] S Q) ∧ ((fx_I S 0 4) = 0 → Q (.inl (some (.int 0))) S)) :
    fx_Go G (0, 0) mm_V_free 0 [(0, fx_r G 0)] [] S Q := by
  refine bk_V_free_0 0 ?_
  refine ⟨(hS.is (by decide) rfl), ?_⟩
  refine ⟨fun hc => ?_, fun hc => ?_⟩
  · replace h := h.1 hc
    exact h
  · replace h := h.2 hc
    exact h
theorem bs_V_free_14 {G : fx_G} {S : fx_S} {Q : fx_R → fx_S → Prop} (hS : shC S) (v1 : Int32) (v2 : Int32)  (h : (128 ≤ v2 → Q (.inl (some (.int v1))) S) ∧ (¬ 128 ≤ v2 → vp_in v2 128 ∧ (¬ (fx_I S 76 (v2.toNatClampNeg)) = 0 → fx_Go G (0, 0) mm_V_free 14 [(0, fx_r G 0), (1, .int v1), (2, .int (v2 + Int32.ofInt 1))] [] S Q) ∧ ((fx_I S 76 (v2.toNatClampNeg)) = 0 → fx_Go G (0, 0) mm_V_free 14 [(0, fx_r G 0), (1, .int (v1 + Int32.ofInt 1)), (2, .int (v2 + Int32.ofInt 1))] [] S Q))) :
    fx_Go G (0, 0) mm_V_free 14 [(0, fx_r G 0), (1, .int v1), (2, .int v2)] [] S Q := by
  refine bk_V_free_14 0 v1 v2 ?_
  refine ⟨fun hc => ?_, fun hc => ?_⟩
  · replace h := h.1 hc
    exact h
  · replace h := h.2 hc
    refine ⟨(hS.is (by decide) rfl), ?_⟩
    refine ⟨_, (hS.P (by decide) rfl), ?_⟩
    refine ⟨(hS.is (by decide) rfl), ?_⟩
    obtain ⟨w2, h⟩ := h
    refine ⟨(hS.vin (by decide) rfl w2), ?_⟩
    refine ⟨fun hc => ?_, fun hc => ?_⟩
    · replace h := h.1 hc
      exact h
    · replace h := h.2 hc
      exact h
theorem bs_V_at_0 {G : fx_G} {S : fx_S} {Q : fx_R → fx_S → Prop} (hS : shC S) (v1 : Int32)  (h : (v1 < 0 → Q (.inl (some (.int (-1)))) S) ∧ (¬ v1 < 0 → ((Int32.ofNat (fx_ln S 2)) ≤ v1 → Q (.inl (some (.int (-1)))) S) ∧ (¬ (Int32.ofNat (fx_ln S 2)) ≤ v1 → vp_in v1 2048 ∧ Q (.inl (some (.int (fx_I S 2 (v1.toNatClampNeg))))) S))) :
    fx_Go G (0, 0) mm_V_at 0 [(0, fx_r G 0), (1, .int v1)] [] S Q := by
  refine bk_V_at_0 0 v1 ?_
  refine ⟨fun hc => ?_, fun hc => ?_⟩
  · replace h := h.1 hc
    exact h
  · replace h := h.2 hc
    refine ⟨(hS.is (by decide) rfl), ?_⟩
    refine ⟨_, (hS.P (by decide) rfl), ?_⟩
    refine ⟨(hS.is (by decide) rfl), ?_⟩
    refine ⟨_, (hS.P (by decide) rfl), ?_⟩
    refine ⟨(hS.is (by decide) rfl), ?_⟩
    refine ⟨fun hc => ?_, fun hc => ?_⟩
    · replace h := h.1 hc
      exact h
    · replace h := h.2 hc
      refine ⟨_, (hS.P (by decide) rfl), ?_⟩
      refine ⟨(hS.is (by decide) rfl), ?_⟩
      refine ⟨_, (hS.P (by decide) rfl), ?_⟩
      refine ⟨(hS.is (by decide) rfl), ?_⟩
      obtain ⟨w5, h⟩ := h
      refine ⟨(hS.vin (by decide) rfl w5), ?_⟩
      exact h
theorem bs_V_requireRunning_0 {G : fx_G} {S : fx_S} {Q : fx_R → fx_S → Prop} (hS : shC S)   (h : (¬ (fx_I S 0 4) = 0 → Q (.inl none) S) ∧ ((fx_I S 0 4) = 0 → fx_roomx S ∧ Q (.inr 1) (fx_exc S))) :
    fx_Go G (6, 82) mm_V_requireRunning 0 [(0, fx_r G 0)] [] S Q := by
  refine bk_V_requireRunning_0 0 ?_
  refine ⟨(hS.is (by decide) rfl), ?_⟩
  refine ⟨fun hc => ?_, fun hc => ?_⟩
  · replace h := h.1 hc
    exact h
  · replace h := h.2 hc
    exact h
theorem bs_V_require_0 {G : fx_G} {S : fx_S} {Q : fx_R → fx_S → Prop} (hS : shC S) (v0 : Int32)  (h : (¬ v0 = 0 → Q (.inl none) S) ∧ (v0 = 0 → fx_roomx S ∧ Q (.inr 2) (fx_exc S))) :
    fx_Go G (6, 82) mm_V_require 0 [(0, .int v0)] [] S Q := by
  refine bk_V_require_0 v0 ?_
  refine ⟨fun hc => ?_, fun hc => ?_⟩
  · replace h := h.1 hc
    exact h
  · replace h := h.2 hc
    exact h
theorem bs_V_isUsed_0 {G : fx_G} {S : fx_S} {Q : fx_R → fx_S → Prop} (hS : shC S) (v1 : Int32)  (h : (v1 < 0 → Q (.inl (some (.int 0))) S) ∧ (¬ v1 < 0 → (12 ≤ v1 → Q (.inl (some (.int 0))) S) ∧ (¬ 12 ≤ v1 → vp_in v1 12 ∧ ((fx_I S (4 + 6 * (v1.toNatClampNeg)) 0) = 0 → Q (.inl (some (.int 0))) S) ∧ (¬ (fx_I S (4 + 6 * (v1.toNatClampNeg)) 0) = 0 → Q (.inl (some (.int 1))) S)))) :
    fx_Go G (0, 0) mm_V_isUsed 0 [(0, fx_r G 0), (1, .int v1)] [] S Q := by
  refine bk_V_isUsed_0 0 v1 ?_
  refine ⟨fun hc => ?_, fun hc => ?_⟩
  · replace h := h.1 hc
    exact h
  · replace h := h.2 hc
    refine ⟨fun hc => ?_, fun hc => ?_⟩
    · replace h := h.1 hc
      exact h
    · replace h := h.2 hc
      refine ⟨(hS.is (by decide) rfl), ?_⟩
      refine ⟨_, (hS.P (by decide) rfl), ?_⟩
      refine ⟨(hS.is (by decide) rfl), ?_⟩
      obtain ⟨w2, h⟩ := h
      refine ⟨(hS.vin (by decide) rfl w2), _, hS.P (by decide) (sheet_at _ (vin_lt w2)), ?_⟩
      refine ⟨(hS.iH (isH_at _ (vin_lt w2))), ?_⟩
      refine ⟨fun hc => ?_, fun hc => ?_⟩
      · replace h := h.1 hc
        exact h
      · replace h := h.2 hc
        exact h
theorem bs_V_isFile_0 {G : fx_G} {S : fx_S} {Q : fx_R → fx_S → Prop} (hS : shC S) (v1 : Int32)  (h : fx_Go G (0, 0) mm_V_isUsed 0 [(0, fx_r G 0), (1, .int v1)] [] S (fx_qi (fun x2 S1 => shC S1 ∧ (x2 = 0 → Q (.inl (some (.int 0))) S1) ∧ (¬ x2 = 0 → vp_in v1 12 ∧ (¬ (fx_I S1 (4 + 6 * (v1.toNatClampNeg)) 0) = 1 → Q (.inl (some (.int 0))) S1) ∧ ((fx_I S1 (4 + 6 * (v1.toNatClampNeg)) 0) = 1 → Q (.inl (some (.int 1))) S1))) Q)) :
    fx_Go G (1, 13) mm_V_isFile 0 [(0, fx_r G 0), (1, .int v1)] [] S Q := by
  refine bk_V_isFile_0 0 v1 ?_
  refine ⟨(hS.is (by decide) rfl), ?_⟩
  refine fx_cons h (fx_qi_m fun x2 S1 h => ?_)
  obtain ⟨hS1, h⟩ := h
  refine ⟨fun hc => ?_, fun hc => ?_⟩
  · replace h := h.1 hc
    exact h
  · replace h := h.2 hc
    refine ⟨(hS1.is (by decide) rfl), ?_⟩
    refine ⟨_, (hS1.P (by decide) rfl), ?_⟩
    refine ⟨(hS1.is (by decide) rfl), ?_⟩
    obtain ⟨w4, h⟩ := h
    refine ⟨(hS1.vin (by decide) rfl w4), _, hS1.P (by decide) (sheet_at _ (vin_lt w4)), ?_⟩
    refine ⟨(hS1.iH (isH_at _ (vin_lt w4))), ?_⟩
    refine ⟨fun hc => ?_, fun hc => ?_⟩
    · replace h := h.1 hc
      exact h
    · replace h := h.2 hc
      exact h
theorem bs_V_isDirectory_0 {G : fx_G} {S : fx_S} {Q : fx_R → fx_S → Prop} (hS : shC S) (v1 : Int32)  (h : fx_Go G (0, 0) mm_V_isUsed 0 [(0, fx_r G 0), (1, .int v1)] [] S (fx_qi (fun x2 S1 => shC S1 ∧ (x2 = 0 → Q (.inl (some (.int 0))) S1) ∧ (¬ x2 = 0 → vp_in v1 12 ∧ (¬ (fx_I S1 (4 + 6 * (v1.toNatClampNeg)) 0) = 2 → Q (.inl (some (.int 0))) S1) ∧ ((fx_I S1 (4 + 6 * (v1.toNatClampNeg)) 0) = 2 → Q (.inl (some (.int 1))) S1))) Q)) :
    fx_Go G (1, 13) mm_V_isDirectory 0 [(0, fx_r G 0), (1, .int v1)] [] S Q := by
  refine bk_V_isDirectory_0 0 v1 ?_
  refine ⟨(hS.is (by decide) rfl), ?_⟩
  refine fx_cons h (fx_qi_m fun x2 S1 h => ?_)
  obtain ⟨hS1, h⟩ := h
  refine ⟨fun hc => ?_, fun hc => ?_⟩
  · replace h := h.1 hc
    exact h
  · replace h := h.2 hc
    refine ⟨(hS1.is (by decide) rfl), ?_⟩
    refine ⟨_, (hS1.P (by decide) rfl), ?_⟩
    refine ⟨(hS1.is (by decide) rfl), ?_⟩
    obtain ⟨w4, h⟩ := h
    refine ⟨(hS1.vin (by decide) rfl w4), _, hS1.P (by decide) (sheet_at _ (vin_lt w4)), ?_⟩
    refine ⟨(hS1.iH (isH_at _ (vin_lt w4))), ?_⟩
    refine ⟨fun hc => ?_, fun hc => ?_⟩
    · replace h := h.1 hc
      exact h
    · replace h := h.2 hc
      exact h
theorem bs_V_lowestFreeRecord_0 {G : fx_G} {S : fx_S} {Q : fx_R → fx_S → Prop} (hS : shC S)   (h : fx_Go G (1, 13) mm_V_lowestFreeRecord 2 [(0, fx_r G 0), (1, .int 0)] [] S Q) :
    fx_Go G (1, 13) mm_V_lowestFreeRecord 0 [(0, fx_r G 0)] [] S Q := by
  refine bk_V_lowestFreeRecord_0 0 ?_
  exact h
theorem bs_V_lowestFreeRecord_2 {G : fx_G} {S : fx_S} {Q : fx_R → fx_S → Prop} (hS : shC S) (v1 : Int32)  (h : (12 ≤ v1 → Q (.inl (some (.int (-1)))) S) ∧ (¬ 12 ≤ v1 → fx_Go G (0, 0) mm_V_isUsed 0 [(0, fx_r G 0), (1, .int v1)] [] S (fx_qi (fun x2 S1 => shC S1 ∧ (¬ x2 = 0 → fx_Go G (1, 13) mm_V_lowestFreeRecord 2 [(0, fx_r G 0), (1, .int (v1 + Int32.ofInt 1))] [] S1 Q) ∧ (x2 = 0 → Q (.inl (some (.int v1))) S1)) Q))) :
    fx_Go G (1, 13) mm_V_lowestFreeRecord 2 [(0, fx_r G 0), (1, .int v1)] [] S Q := by
  refine bk_V_lowestFreeRecord_2 0 v1 ?_
  refine ⟨fun hc => ?_, fun hc => ?_⟩
  · replace h := h.1 hc
    exact h
  · replace h := h.2 hc
    refine ⟨(hS.is (by decide) rfl), ?_⟩
    refine fx_cons h (fx_qi_m fun x2 S1 h => ?_)
    obtain ⟨hS1, h⟩ := h
    refine ⟨fun hc => ?_, fun hc => ?_⟩
    · replace h := h.1 hc
      exact h
    · replace h := h.2 hc
      exact h
theorem bs_V_lowestFreeCluster_0 {G : fx_G} {S : fx_S} {Q : fx_R → fx_S → Prop} (hS : shC S) (v1 : Int32)  (h : fx_Go G (0, 0) mm_V_lowestFreeCluster 2 [(0, fx_r G 0), (2, .int v1)] [] S Q) :
    fx_Go G (0, 0) mm_V_lowestFreeCluster 0 [(0, fx_r G 0), (1, .int v1)] [] S Q := by
  refine bk_V_lowestFreeCluster_0 0 v1 ?_
  exact h
theorem bs_V_lowestFreeCluster_2 {G : fx_G} {S : fx_S} {Q : fx_R → fx_S → Prop} (hS : shC S) (v2 : Int32)  (h : (128 ≤ v2 → Q (.inl (some (.int (-1)))) S) ∧ (¬ 128 ≤ v2 → vp_in v2 128 ∧ (¬ (fx_I S 76 (v2.toNatClampNeg)) = 0 → fx_Go G (0, 0) mm_V_lowestFreeCluster 2 [(0, fx_r G 0), (2, .int (v2 + Int32.ofInt 1))] [] S Q) ∧ ((fx_I S 76 (v2.toNatClampNeg)) = 0 → Q (.inl (some (.int v2))) S))) :
    fx_Go G (0, 0) mm_V_lowestFreeCluster 2 [(0, fx_r G 0), (2, .int v2)] [] S Q := by
  refine bk_V_lowestFreeCluster_2 0 v2 ?_
  refine ⟨fun hc => ?_, fun hc => ?_⟩
  · replace h := h.1 hc
    exact h
  · replace h := h.2 hc
    refine ⟨(hS.is (by decide) rfl), ?_⟩
    refine ⟨_, (hS.P (by decide) rfl), ?_⟩
    refine ⟨(hS.is (by decide) rfl), ?_⟩
    obtain ⟨w2, h⟩ := h
    refine ⟨(hS.vin (by decide) rfl w2), ?_⟩
    refine ⟨fun hc => ?_, fun hc => ?_⟩
    · replace h := h.1 hc
      exact h
    · replace h := h.2 hc
      exact h
theorem bs_V_isAtOrBelow_0 {G : fx_G} {S : fx_S} {Q : fx_R → fx_S → Prop} (hS : shC S) (v1 : Int32) (v2 : Int32)  (h : fx_Go G (1, 13) mm_V_isAtOrBelow 5 [(0, fx_r G 0), (2, .int v2), (3, .int v1), (4, .int 0)] [] S Q) :
    fx_Go G (1, 13) mm_V_isAtOrBelow 0 [(0, fx_r G 0), (1, .int v1), (2, .int v2)] [] S Q := by
  refine bk_V_isAtOrBelow_0 0 v1 v2 ?_
  exact h
theorem bs_V_isAtOrBelow_5 {G : fx_G} {S : fx_S} {Q : fx_R → fx_S → Prop} (hS : shC S) (v2 : Int32) (v3 : Int32) (v4 : Int32)  (h : (12 ≤ v4 → Q (.inl (some (.int 0))) S) ∧ (¬ 12 ≤ v4 → fx_Go G (0, 0) mm_V_isUsed 0 [(0, fx_r G 0), (1, .int v3)] [] S (fx_qi (fun x2 S1 => shC S1 ∧ (x2 = 0 → Q (.inl (some (.int 0))) S1) ∧ (¬ x2 = 0 → (¬ v3 = v2 → vp_in v3 12 ∧ fx_Go G (1, 13) mm_V_isAtOrBelow 5 [(0, fx_r G 0), (2, .int v2), (3, .int (fx_I S1 (4 + 6 * (v3.toNatClampNeg)) 1)), (4, .int (v4 + Int32.ofInt 1))] [] S1 Q) ∧ (v3 = v2 → Q (.inl (some (.int 1))) S1))) Q))) :
    fx_Go G (1, 13) mm_V_isAtOrBelow 5 [(0, fx_r G 0), (2, .int v2), (3, .int v3), (4, .int v4)] [] S Q := by
  refine bk_V_isAtOrBelow_5 0 v2 v3 v4 ?_
  refine ⟨fun hc => ?_, fun hc => ?_⟩
  · replace h := h.1 hc
    exact h
  · replace h := h.2 hc
    refine ⟨(hS.is (by decide) rfl), ?_⟩
    refine fx_cons h (fx_qi_m fun x2 S1 h => ?_)
    obtain ⟨hS1, h⟩ := h
    refine ⟨fun hc => ?_, fun hc => ?_⟩
    · replace h := h.1 hc
      exact h
    · replace h := h.2 hc
      refine ⟨fun hc => ?_, fun hc => ?_⟩
      · replace h := h.1 hc
        refine ⟨(hS1.is (by decide) rfl), ?_⟩
        refine ⟨_, (hS1.P (by decide) rfl), ?_⟩
        refine ⟨(hS1.is (by decide) rfl), ?_⟩
        obtain ⟨w4, h⟩ := h
        refine ⟨(hS1.vin (by decide) rfl w4), _, hS1.P (by decide) (sheet_at _ (vin_lt w4)), ?_⟩
        refine ⟨(hS1.iH (isH_at _ (vin_lt w4))), ?_⟩
        exact h
      · replace h := h.2 hc
        exact h
theorem bs_V_leadsToRoot_0 {G : fx_G} {S : fx_S} {Q : fx_R → fx_S → Prop} (hS : shC S) (v1 : Int32)  (h : vp_in v1 12 ∧ fx_Go G (2, 26) mm_V_leadsToRoot 12 [(0, fx_r G 0), (2, .int (fx_I S (4 + 6 * (v1.toNatClampNeg)) 1)), (3, .int 0)] [] S Q) :
    fx_Go G (2, 26) mm_V_leadsToRoot 0 [(0, fx_r G 0), (1, .int v1)] [] S Q := by
  refine bk_V_leadsToRoot_0 0 v1 ?_
  refine ⟨(hS.is (by decide) rfl), ?_⟩
  refine ⟨_, (hS.P (by decide) rfl), ?_⟩
  refine ⟨(hS.is (by decide) rfl), ?_⟩
  obtain ⟨w2, h⟩ := h
  refine ⟨(hS.vin (by decide) rfl w2), _, hS.P (by decide) (sheet_at _ (vin_lt w2)), ?_⟩
  refine ⟨(hS.iH (isH_at _ (vin_lt w2))), ?_⟩
  exact h
theorem bs_V_leadsToRoot_12 {G : fx_G} {S : fx_S} {Q : fx_R → fx_S → Prop} (hS : shC S) (v2 : Int32) (v3 : Int32)  (h : (12 ≤ v3 → Q (.inl (some (.int 0))) S) ∧ (¬ 12 ≤ v3 → fx_Go G (1, 13) mm_V_isDirectory 0 [(0, fx_r G 0), (1, .int v2)] [] S (fx_qi (fun x2 S1 => shC S1 ∧ (x2 = 0 → Q (.inl (some (.int 0))) S1) ∧ (¬ x2 = 0 → (¬ v2 = 0 → vp_in v2 12 ∧ fx_Go G (2, 26) mm_V_leadsToRoot 12 [(0, fx_r G 0), (2, .int (fx_I S1 (4 + 6 * (v2.toNatClampNeg)) 1)), (3, .int (v3 + Int32.ofInt 1))] [] S1 Q) ∧ (v2 = 0 → Q (.inl (some (.int 1))) S1))) Q))) :
    fx_Go G (2, 26) mm_V_leadsToRoot 12 [(0, fx_r G 0), (2, .int v2), (3, .int v3)] [] S Q := by
  refine bk_V_leadsToRoot_12 0 v2 v3 ?_
  refine ⟨fun hc => ?_, fun hc => ?_⟩
  · replace h := h.1 hc
    exact h
  · replace h := h.2 hc
    refine ⟨(hS.is (by decide) rfl), ?_⟩
    refine fx_cons h (fx_qi_m fun x2 S1 h => ?_)
    obtain ⟨hS1, h⟩ := h
    refine ⟨fun hc => ?_, fun hc => ?_⟩
    · replace h := h.1 hc
      exact h
    · replace h := h.2 hc
      refine ⟨fun hc => ?_, fun hc => ?_⟩
      · replace h := h.1 hc
        refine ⟨(hS1.is (by decide) rfl), ?_⟩
        refine ⟨_, (hS1.P (by decide) rfl), ?_⟩
        refine ⟨(hS1.is (by decide) rfl), ?_⟩
        obtain ⟨w4, h⟩ := h
        refine ⟨(hS1.vin (by decide) rfl w4), _, hS1.P (by decide) (sheet_at _ (vin_lt w4)), ?_⟩
        refine ⟨(hS1.iH (isH_at _ (vin_lt w4))), ?_⟩
        exact h
      · replace h := h.2 hc
        exact h
theorem bs_V_entryNamed_0 {G : fx_G} {S : fx_S} {Q : fx_R → fx_S → Prop} (hS : shC S) (v1 : Int32) (v2 : Nat) (hv2 : isN v2) (h : vp_in v1 12 ∧ fx_Go G (2, 28) mm_V_entryNamed 10 [(0, fx_r G 0), (2, fx_r G v2), (3, fx_r G (4 + 6 * (v1.toNatClampNeg))), (4, .int 0)] [] S Q) :
    fx_Go G (2, 28) mm_V_entryNamed 0 [(0, fx_r G 0), (1, .int v1), (2, fx_r G v2)] [] S Q := by
  refine bk_V_entryNamed_0 0 v1 v2 ?_
  refine ⟨(hS.is (by decide) rfl), ?_⟩
  refine ⟨_, (hS.P (by decide) rfl), ?_⟩
  refine ⟨(hS.is (by decide) rfl), ?_⟩
  obtain ⟨w2, h⟩ := h
  refine ⟨(hS.vin (by decide) rfl w2), _, hS.P (by decide) (sheet_at _ (vin_lt w2)), ?_⟩
  exact h
theorem bs_V_entryNamed_10 {G : fx_G} {S : fx_S} {Q : fx_R → fx_S → Prop} (hS : shC S) (v2 : Nat) (v3 : Nat) (v4 : Int32) (hv2 : isN v2) (hv3 : isH v3) (h : ((fx_I S v3 4) ≤ v4 → Q (.inl (some (.int (-1)))) S) ∧ (¬ (fx_I S v3 4) ≤ v4 → vp_in v4 54 ∧ vp_in (fx_I S (v3 + 3) (v4.toNatClampNeg)) 12 ∧ fx_Go G (1, 13) mm_N_compare 0 [(0, fx_r G ((4 + 6 * ((fx_I S (v3 + 3) (v4.toNatClampNeg)).toNatClampNeg)) + 1)), (1, fx_r G v2)] [] S (fx_qi (fun x8 S7 => shC S7 ∧ (¬ x8 = 0 → fx_Go G (2, 28) mm_V_entryNamed 10 [(0, fx_r G 0), (2, fx_r G v2), (3, fx_r G v3), (4, .int (v4 + Int32.ofInt 1))] [] S7 Q) ∧ (x8 = 0 → vp_in v4 54 ∧ Q (.inl (some (.int (fx_I S7 (v3 + 3) (v4.toNatClampNeg))))) S7)) Q))) :
    fx_Go G (2, 28) mm_V_entryNamed 10 [(0, fx_r G 0), (2, fx_r G v2), (3, fx_r G v3), (4, .int v4)] [] S Q := by
  refine bk_V_entryNamed_10 0 v2 v3 v4 ?_
  refine ⟨(hS.iH hv3), ?_⟩
  refine ⟨fun hc => ?_, fun hc => ?_⟩
  · replace h := h.1 hc
    exact h
  · replace h := h.2 hc
    refine ⟨(hS.is (by decide) rfl), ?_⟩
    refine ⟨_, (hS.P (by decide) rfl), ?_⟩
    refine ⟨_, (hS.pHh hv3), ?_⟩
    refine ⟨(hS.iHh hv3), ?_⟩
    obtain ⟨w3, h⟩ := h
    refine ⟨(hS.vHh hv3 w3), ?_⟩
    refine ⟨(hS.is (by decide) rfl), ?_⟩
    obtain ⟨w4, h⟩ := h
    refine ⟨(hS.vin (by decide) rfl w4), _, hS.P (by decide) (sheet_at _ (vin_lt w4)), ?_⟩
    refine ⟨(hS.iH (isH_at _ (vin_lt w4))), ?_⟩
    refine ⟨_, (hS.pHn (isH_at _ (vin_lt w4))), ?_⟩
    refine ⟨(hS.iN (isH.n (isH_at _ (vin_lt w4)))), ?_⟩
    refine fx_cons h (fx_qi_m fun x8 S7 h => ?_)
    obtain ⟨hS7, h⟩ := h
    refine ⟨fun hc => ?_, fun hc => ?_⟩
    · replace h := h.1 hc
      exact h
    · replace h := h.2 hc
      refine ⟨(hS7.iH hv3), ?_⟩
      refine ⟨_, (hS7.pHh hv3), ?_⟩
      refine ⟨(hS7.iHh hv3), ?_⟩
      obtain ⟨w10, h⟩ := h
      refine ⟨(hS7.vHh hv3 w10), ?_⟩
      exact h
theorem bs_V_enter_0 {G : fx_G} {S : fx_S} {Q : fx_R → fx_S → Prop} (hS : shC S) (v1 : Int32) (v2 : Int32)  (h : vp_in v1 12 ∧ fx_Go G (2, 28) mm_V_insertByName 0 [(0, fx_r G 0), (1, fx_r G ((4 + 6 * (v1.toNatClampNeg)) + 3)), (2, .int (fx_I S (4 + 6 * (v1.toNatClampNeg)) 4)), (3, .int v2)] [] S (fx_qi (fun x6 S5 => shC S5 ∧ ∀ S7, S7 = fx_setI S5 (4 + 6 * (v1.toNatClampNeg)) 4 x6 → Q (.inl none) S7) Q)) :
    fx_Go G (3, 45) mm_V_enter 0 [(0, fx_r G 0), (1, .int v1), (2, .int v2)] [] S Q := by
  refine bk_V_enter_0 0 v1 v2 ?_
  refine ⟨(hS.is (by decide) rfl), ?_⟩
  refine ⟨_, (hS.P (by decide) rfl), ?_⟩
  refine ⟨(hS.is (by decide) rfl), ?_⟩
  obtain ⟨w2, h⟩ := h
  refine ⟨(hS.vin (by decide) rfl w2), _, hS.P (by decide) (sheet_at _ (vin_lt w2)), ?_⟩
  refine ⟨(hS.iH (isH_at _ (vin_lt w2))), ?_⟩
  refine ⟨_, (hS.pHh (isH_at _ (vin_lt w2))), ?_⟩
  refine fx_cons h (fx_qi_m fun x6 S5 h => ?_)
  obtain ⟨hS5, h⟩ := h
  refine ⟨(hS5.iH (isH_at _ (vin_lt w2))), ?_⟩
  intro S7 eS7
  replace h := h S7 eS7
  have hS7 : shC S7 := by rw [eS7]; exact hS5
  exact h
theorem bs_V_insertByName_0 {G : fx_G} {S : fx_S} {Q : fx_R → fx_S → Prop} (hS : shC S) (v1 : Nat) (v2 : Int32) (v3 : Int32) {nv1 : Nat} (hv1 : isA v1 nv1) (h : (v2 < 12 → fx_Go G (2, 28) mm_V_insertByName 11 [(0, fx_r G 0), (1, fx_r G v1), (2, .int v2), (3, .int v3), (4, .int v2)] [] S Q) ∧ (¬ v2 < 12 → Q (.inl (some (.int v2))) S)) :
    fx_Go G (2, 28) mm_V_insertByName 0 [(0, fx_r G 0), (1, fx_r G v1), (2, .int v2), (3, .int v3)] [] S Q := by
  refine bk_V_insertByName_0 0 v1 v2 v3 ?_
  refine ⟨fun hc => ?_, fun hc => ?_⟩
  · replace h := h.1 hc
    exact h
  · replace h := h.2 hc
    exact h
theorem bs_V_insertByName_11 {G : fx_G} {S : fx_S} {Q : fx_R → fx_S → Prop} (hS : shC S) (v1 : Nat) (v2 : Int32) (v3 : Int32) (v4 : Int32) {nv1 : Nat} (hv1 : isA v1 nv1) (h : (v4 ≤ 0 → vp_in v4 nv1 ∧ ∀ S2, S2 = fx_setI S v1 (v4.toNatClampNeg) v3 → Q (.inl (some (.int (v2 + 1)))) S2) ∧ (¬ v4 ≤ 0 → vp_in (v4 - 1) nv1 ∧ vp_in (fx_I S v1 ((v4 - 1).toNatClampNeg)) 12 ∧ vp_in v3 12 ∧ fx_Go G (1, 13) mm_N_compare 0 [(0, fx_r G ((4 + 6 * ((fx_I S v1 ((v4 - 1).toNatClampNeg)).toNatClampNeg)) + 1)), (1, fx_r G ((4 + 6 * (v3.toNatClampNeg)) + 1))] [] S (fx_qi (fun x13 S12 => shC S12 ∧ (x13 ≤ 0 → vp_in v4 nv1 ∧ ∀ S15, S15 = fx_setI S12 v1 (v4.toNatClampNeg) v3 → Q (.inl (some (.int (v2 + 1)))) S15) ∧ (¬ x13 ≤ 0 → vp_in (v4 - 1) nv1 ∧ vp_in v4 nv1 ∧ ∀ S18, S18 = fx_setI S12 v1 (v4.toNatClampNeg) (fx_I S12 v1 ((v4 - 1).toNatClampNeg)) → fx_Go G (2, 28) mm_V_insertByName 11 [(0, fx_r G 0), (1, fx_r G v1), (2, .int v2), (3, .int v3), (4, .int (v4 + Int32.ofInt (-1)))] [] S18 Q)) Q))) :
    fx_Go G (2, 28) mm_V_insertByName 11 [(0, fx_r G 0), (1, fx_r G v1), (2, .int v2), (3, .int v3), (4, .int v4)] [] S Q := by
  refine bk_V_insertByName_11 0 v1 v2 v3 v4 ?_
  refine ⟨fun hc => ?_, fun hc => ?_⟩
  · replace h := h.1 hc
    refine ⟨(hS.iA hv1), ?_⟩
    obtain ⟨w1, h⟩ := h
    refine ⟨(hS.vA hv1 w1), ?_⟩
    intro S2 eS2
    replace h := h S2 eS2
    have hS2 : shC S2 := by rw [eS2]; exact hS
    exact h
  · replace h := h.2 hc
    refine ⟨(hS.is (by decide) rfl), ?_⟩
    refine ⟨_, (hS.P (by decide) rfl), ?_⟩
    refine ⟨(hS.iA hv1), ?_⟩
    obtain ⟨w4, h⟩ := h
    refine ⟨(hS.vA hv1 w4), ?_⟩
    refine ⟨(hS.is (by decide) rfl), ?_⟩
    obtain ⟨w5, h⟩ := h
    refine ⟨(hS.vin (by decide) rfl w5), _, hS.P (by decide) (sheet_at _ (vin_lt w5)), ?_⟩
    refine ⟨(hS.iH (isH_at _ (vin_lt w5))), ?_⟩
    refine ⟨_, (hS.pHn (isH_at _ (vin_lt w5))), ?_⟩
    refine ⟨_, (hS.P (by decide) rfl), ?_⟩
    refine ⟨(hS.is (by decide) rfl), ?_⟩
    obtain ⟨w9, h⟩ := h
    refine ⟨(hS.vin (by decide) rfl w9), _, hS.P (by decide) (sheet_at _ (vin_lt w9)), ?_⟩
    refine ⟨(hS.iH (isH_at _ (vin_lt w9))), ?_⟩
    refine ⟨_, (hS.pHn (isH_at _ (vin_lt w9))), ?_⟩
    refine ⟨(hS.iN (isH.n (isH_at _ (vin_lt w5)))), ?_⟩
    refine fx_cons h (fx_qi_m fun x13 S12 h => ?_)
    obtain ⟨hS12, h⟩ := h
    refine ⟨fun hc => ?_, fun hc => ?_⟩
    · replace h := h.1 hc
      refine ⟨(hS12.iA hv1), ?_⟩
      obtain ⟨w14, h⟩ := h
      refine ⟨(hS12.vA hv1 w14), ?_⟩
      intro S15 eS15
      replace h := h S15 eS15
      have hS15 : shC S15 := by rw [eS15]; exact hS12
      exact h
    · replace h := h.2 hc
      refine ⟨(hS12.iA hv1), ?_⟩
      obtain ⟨w16, h⟩ := h
      refine ⟨(hS12.vA hv1 w16), ?_⟩
      obtain ⟨w17, h⟩ := h
      refine ⟨(hS12.vA hv1 w17), ?_⟩
      intro S18 eS18
      replace h := h S18 eS18
      have hS18 : shC S18 := by rw [eS18]; exact hS12
      exact h
theorem bs_V_leave_0 {G : fx_G} {S : fx_S} {Q : fx_R → fx_S → Prop} (hS : shC S) (v1 : Int32) (v2 : Int32)  (h : vp_in v1 12 ∧ fx_Go G (0, 0) mm_V_leave 13 [(2, .int v2), (3, fx_r G (4 + 6 * (v1.toNatClampNeg))), (4, .int 0), (5, .int 0)] [] S Q) :
    fx_Go G (0, 0) mm_V_leave 0 [(0, fx_r G 0), (1, .int v1), (2, .int v2)] [] S Q := by
  refine bk_V_leave_0 0 v1 v2 ?_
  refine ⟨(hS.is (by decide) rfl), ?_⟩
  refine ⟨_, (hS.P (by decide) rfl), ?_⟩
  refine ⟨(hS.is (by decide) rfl), ?_⟩
  obtain ⟨w2, h⟩ := h
  refine ⟨(hS.vin (by decide) rfl w2), _, hS.P (by decide) (sheet_at _ (vin_lt w2)), ?_⟩
  exact h
theorem bs_V_leave_13 {G : fx_G} {S : fx_S} {Q : fx_R → fx_S → Prop} (hS : shC S) (v2 : Int32) (v3 : Nat) (v4 : Int32) (v5 : Int32) (hv3 : isH v3) (h : ((fx_I S v3 4) ≤ v5 → ∀ S1, S1 = fx_setI S v3 4 v4 → Q (.inl none) S1) ∧ (¬ (fx_I S v3 4) ≤ v5 → vp_in v5 54 ∧ ((fx_I S (v3 + 3) (v5.toNatClampNeg)) = v2 → fx_Go G (0, 0) mm_V_leave 13 [(2, .int v2), (3, fx_r G v3), (4, .int v4), (5, .int (v5 + Int32.ofInt 1))] [] S Q) ∧ (¬ (fx_I S (v3 + 3) (v5.toNatClampNeg)) = v2 → vp_in v5 54 ∧ vp_in v4 54 ∧ ∀ S8, S8 = fx_setI S (v3 + 3) (v4.toNatClampNeg) (fx_I S (v3 + 3) (v5.toNatClampNeg)) → fx_Go G (0, 0) mm_V_leave 13 [(2, .int v2), (3, fx_r G v3), (4, .int (v4 + Int32.ofInt 1)), (5, .int (v5 + Int32.ofInt 1))] [] S8 Q))) :
    fx_Go G (0, 0) mm_V_leave 13 [(2, .int v2), (3, fx_r G v3), (4, .int v4), (5, .int v5)] [] S Q := by
  refine bk_V_leave_13 v2 v3 v4 v5 ?_
  refine ⟨(hS.iH hv3), ?_⟩
  refine ⟨fun hc => ?_, fun hc => ?_⟩
  · replace h := h.1 hc
    intro S1 eS1
    replace h := h S1 eS1
    have hS1 : shC S1 := by rw [eS1]; exact hS
    exact h
  · replace h := h.2 hc
    refine ⟨_, (hS.pHh hv3), ?_⟩
    refine ⟨(hS.iHh hv3), ?_⟩
    obtain ⟨w3, h⟩ := h
    refine ⟨(hS.vHh hv3 w3), ?_⟩
    refine ⟨fun hc => ?_, fun hc => ?_⟩
    · replace h := h.1 hc
      exact h
    · replace h := h.2 hc
      refine ⟨_, (hS.pHh hv3), ?_⟩
      refine ⟨_, (hS.pHh hv3), ?_⟩
      refine ⟨(hS.iHh hv3), ?_⟩
      obtain ⟨w6, h⟩ := h
      refine ⟨(hS.vHh hv3 w6), ?_⟩
      refine ⟨(hS.iHh hv3), ?_⟩
      obtain ⟨w7, h⟩ := h
      refine ⟨(hS.vHh hv3 w7), ?_⟩
      intro S8 eS8
      replace h := h S8 eS8
      have hS8 : shC S8 := by rw [eS8]; exact hS
      exact h
theorem bs_V_store_0 {G : fx_G} {S : fx_S} {Q : fx_R → fx_S → Prop} (hS : shC S) (v1 : Int32)  (h : vp_in v1 12 ∧ fx_Go G (0, 0) mm_H_takeNextNumber 0 [(0, fx_r G (4 + 6 * (v1.toNatClampNeg)))] [] S (fx_qv (fun S4 => shC S4 ∧ vp_in v1 12 ∧ fx_Go G (3, 46) mm_H_encode 0 [(0, fx_r G (4 + 6 * (v1.toNatClampNeg))), (1, fx_r G 83)] [] S4 (fx_qv (fun S9 => shC S9 ∧ fx_Go G (6, 82) mm_V_storeSector 0 [(0, fx_r G 0), (1, .int v1), (2, .int 0)] [] S9 (fx_qv (fun S10 => shC S10 ∧ fx_Go G (6, 82) mm_V_storeSector 0 [(0, fx_r G 0), (1, .int v1), (2, .int 1)] [] S10 (fx_qv (fun S11 => shC S11 ∧ Q (.inl none) S11) Q)) Q)) Q)) Q)) :
    fx_Go G (7, 96) mm_V_store 0 [(0, fx_r G 0), (1, .int v1)] [] S Q := by
  refine bk_V_store_0 0 v1 ?_
  refine ⟨(hS.is (by decide) rfl), ?_⟩
  refine ⟨_, (hS.P (by decide) rfl), ?_⟩
  refine ⟨(hS.is (by decide) rfl), ?_⟩
  obtain ⟨w2, h⟩ := h
  refine ⟨(hS.vin (by decide) rfl w2), _, hS.P (by decide) (sheet_at _ (vin_lt w2)), ?_⟩
  refine ⟨(hS.iH (isH_at _ (vin_lt w2))), ?_⟩
  refine fx_cons h (fx_qv_m fun S4 h => ?_)
  obtain ⟨hS4, h⟩ := h
  refine ⟨(hS4.is (by decide) rfl), ?_⟩
  refine ⟨_, (hS4.P (by decide) rfl), ?_⟩
  refine ⟨(hS4.is (by decide) rfl), ?_⟩
  obtain ⟨w6, h⟩ := h
  refine ⟨(hS4.vin (by decide) rfl w6), _, hS4.P (by decide) (sheet_at _ (vin_lt w6)), ?_⟩
  refine ⟨_, (hS4.P (by decide) rfl), ?_⟩
  refine ⟨(hS4.iH (isH_at _ (vin_lt w6))), ?_⟩
  refine fx_cons h (fx_qv_m fun S9 h => ?_)
  obtain ⟨hS9, h⟩ := h
  refine ⟨(hS9.is (by decide) rfl), ?_⟩
  refine fx_cons h (fx_qv_m fun S10 h => ?_)
  obtain ⟨hS10, h⟩ := h
  refine ⟨(hS10.is (by decide) rfl), ?_⟩
  refine fx_cons h (fx_qv_m fun S11 h => ?_)
  obtain ⟨hS11, h⟩ := h
  exact h
theorem bs_V_storeSector_0 {G : fx_G} {S : fx_S} {Q : fx_R → fx_S → Prop} (hS : shC S) (v1 : Int32) (v2 : Int32)  (h : fx_Go G (0, 0) mm_D_isCutNow 0 [(0, fx_r G 1)] [] S (fx_qi (fun x3 S2 => shC S2 ∧ (x3 = 0 → fx_Go G (1, 18) mm_D_laySector 0 [(0, fx_r G 1), (1, .int v1), (2, .int v2), (3, fx_r G 83)] [] S2 (fx_qv (fun S6 => shC S6 ∧ Q (.inl none) S6) Q)) ∧ (¬ x3 = 0 → ∀ S7, S7 = fx_setI S2 0 4 0 → fx_roomx S7 ∧ Q (.inr 1) (fx_exc S7))) Q)) :
    fx_Go G (6, 82) mm_V_storeSector 0 [(0, fx_r G 0), (1, .int v1), (2, .int v2)] [] S Q := by
  refine bk_V_storeSector_0 0 v1 v2 ?_
  refine ⟨(hS.is (by decide) rfl), ?_⟩
  refine ⟨_, (hS.P (by decide) rfl), ?_⟩
  refine ⟨(hS.is (by decide) rfl), ?_⟩
  refine fx_cons h (fx_qi_m fun x3 S2 h => ?_)
  obtain ⟨hS2, h⟩ := h
  refine ⟨fun hc => ?_, fun hc => ?_⟩
  · replace h := h.1 hc
    refine ⟨(hS2.is (by decide) rfl), ?_⟩
    refine ⟨_, (hS2.P (by decide) rfl), ?_⟩
    refine ⟨_, (hS2.P (by decide) rfl), ?_⟩
    refine ⟨(hS2.is (by decide) rfl), ?_⟩
    refine fx_cons h (fx_qv_m fun S6 h => ?_)
    obtain ⟨hS6, h⟩ := h
    exact h
  · replace h := h.2 hc
    refine ⟨(hS2.is (by decide) rfl), ?_⟩
    intro S7 eS7
    replace h := h S7 eS7
    have hS7 : shC S7 := by rw [eS7]; exact hS2
    exact h
theorem bs_V_makePlan_0 {G : fx_G} {S : fx_S} {Q : fx_R → fx_S → Prop} (hS : shC S) (v1 : Nat) (v2 : Int32) (v3 : Int32) (v4 : Int32) (hv1 : isH v1) (h : ∀ S2, S2 = fx_setI S 81 1 0 → fx_Go G (2, 29) mm_V_makePlan 15 [(0, fx_r G 0), (1, fx_r G v1), (2, .int v2), (3, .int v3), (4, .int v4), (5, .int 48), (6, .int 0)] [] S2 Q) :
    fx_Go G (2, 29) mm_V_makePlan 0 [(0, fx_r G 0), (1, fx_r G v1), (2, .int v2), (3, .int v3), (4, .int v4)] [] S Q := by
  refine bk_V_makePlan_0 0 v1 v2 v3 v4 ?_
  refine ⟨(hS.is (by decide) rfl), ?_⟩
  refine ⟨_, (hS.P (by decide) rfl), ?_⟩
  refine ⟨(hS.is (by decide) rfl), ?_⟩
  intro S2 eS2
  replace h := h S2 eS2
  have hS2 : shC S2 := by rw [eS2]; exact hS
  exact h
theorem bs_V_makePlan_15 {G : fx_G} {S : fx_S} {Q : fx_R → fx_S → Prop} (hS : shC S) (v1 : Nat) (v2 : Int32) (v3 : Int32) (v4 : Int32) (v5 : Int32) (v6 : Int32) (hv1 : isH v1) (h : fx_Go G (0, 0) mm_V_clustersFor 0 [(0, .int v4)] [] S (fx_qi (fun x2 S1 => shC S1 ∧ (x2 ≤ v6 → fx_Go G (0, 0) mm_H_nameBytes 0 [(0, fx_r G v1)] [] S1 (fx_qi (fun x4 S3 => shC S3 ∧ fx_Go G (1, 13) mm_Y_attributeBytes 0 [(0, fx_r G 81)] [] S3 (fx_qi (fun x7 S6 => shC S6 ∧ (54 < (x4 + x7) → Q (.inl (some (.int 0))) S6) ∧ (¬ 54 < (x4 + x7) → Q (.inl (some (.int 1))) S6)) Q)) Q)) ∧ (¬ x2 ≤ v6 → fx_Go G (0, 0) mm_Y_placeOf 0 [(0, fx_r G (v1 + 4)), (1, .int v6)] [] S1 (fx_qi (fun x10 S9 => shC S9 ∧ (¬ x10 = (-1) → fx_Go G (0, 0) mm_Y_append 0 [(0, fx_r G 81), (1, .int x10), (2, .int 1)] [] S9 (fx_qv (fun S12 => shC S12 ∧ fx_Go G (2, 29) mm_V_makePlan 15 [(0, fx_r G 0), (1, fx_r G v1), (2, .int v2), (3, .int v3), (4, .int v4), (5, .int v5), (6, .int (v6 + Int32.ofInt 1))] [] S12 Q) Q)) ∧ (x10 = (-1) → fx_Go G (1, 13) mm_V_needsCluster 0 [(0, fx_r G v1), (1, .int v6), (2, .int v2), (3, .int v3)] [] S9 (fx_qi (fun x14 S13 => shC S13 ∧ (x14 = 0 → fx_Go G (0, 0) mm_Y_append 0 [(0, fx_r G 81), (1, .int x10), (2, .int 1)] [] S13 (fx_qv (fun S16 => shC S16 ∧ fx_Go G (2, 29) mm_V_makePlan 15 [(0, fx_r G 0), (1, fx_r G v1), (2, .int v2), (3, .int v3), (4, .int v4), (5, .int v5), (6, .int (v6 + Int32.ofInt 1))] [] S16 Q) Q)) ∧ (¬ x14 = 0 → fx_Go G (0, 0) mm_V_lowestFreeCluster 0 [(0, fx_r G 0), (1, .int v5)] [] S13 (fx_qi (fun x18 S17 => shC S17 ∧ (¬ x18 = (-1) → fx_Go G (0, 0) mm_Y_append 0 [(0, fx_r G 81), (1, .int x18), (2, .int 1)] [] S17 (fx_qv (fun S20 => shC S20 ∧ fx_Go G (2, 29) mm_V_makePlan 15 [(0, fx_r G 0), (1, fx_r G v1), (2, .int v2), (3, .int v3), (4, .int v4), (5, .int (x18 + 1)), (6, .int (v6 + Int32.ofInt 1))] [] S20 Q) Q)) ∧ (x18 = (-1) → Q (.inl (some (.int 0))) S17)) Q))) Q))) Q))) Q)) :
    fx_Go G (2, 29) mm_V_makePlan 15 [(0, fx_r G 0), (1, fx_r G v1), (2, .int v2), (3, .int v3), (4, .int v4), (5, .int v5), (6, .int v6)] [] S Q := by
  refine bk_V_makePlan_15 0 v1 v2 v3 v4 v5 v6 ?_
  refine fx_cons h (fx_qi_m fun x2 S1 h => ?_)
  obtain ⟨hS1, h⟩ := h
  refine ⟨fun hc => ?_, fun hc => ?_⟩
  · replace h := h.1 hc
    refine ⟨(hS1.iH hv1), ?_⟩
    refine fx_cons h (fx_qi_m fun x4 S3 h => ?_)
    obtain ⟨hS3, h⟩ := h
    refine ⟨(hS3.is (by decide) rfl), ?_⟩
    refine ⟨_, (hS3.P (by decide) rfl), ?_⟩
    refine ⟨(hS3.is (by decide) rfl), ?_⟩
    refine fx_cons h (fx_qi_m fun x7 S6 h => ?_)
    obtain ⟨hS6, h⟩ := h
    refine ⟨fun hc => ?_, fun hc => ?_⟩
    · replace h := h.1 hc
      exact h
    · replace h := h.2 hc
      exact h
  · replace h := h.2 hc
    refine ⟨(hS1.iH hv1), ?_⟩
    refine ⟨_, (hS1.pHy hv1), ?_⟩
    refine ⟨(hS1.iY (isH.y hv1)), ?_⟩
    refine fx_cons h (fx_qi_m fun x10 S9 h => ?_)
    obtain ⟨hS9, h⟩ := h
    refine ⟨fun hc => ?_, fun hc => ?_⟩
    · replace h := h.1 hc
      refine ⟨(hS9.is (by decide) rfl), ?_⟩
      refine ⟨_, (hS9.P (by decide) rfl), ?_⟩
      refine ⟨(hS9.is (by decide) rfl), ?_⟩
      refine fx_cons h (fx_qv_m fun S12 h => ?_)
      obtain ⟨hS12, h⟩ := h
      exact h
    · replace h := h.2 hc
      refine fx_cons h (fx_qi_m fun x14 S13 h => ?_)
      obtain ⟨hS13, h⟩ := h
      refine ⟨fun hc => ?_, fun hc => ?_⟩
      · replace h := h.1 hc
        refine ⟨(hS13.is (by decide) rfl), ?_⟩
        refine ⟨_, (hS13.P (by decide) rfl), ?_⟩
        refine ⟨(hS13.is (by decide) rfl), ?_⟩
        refine fx_cons h (fx_qv_m fun S16 h => ?_)
        obtain ⟨hS16, h⟩ := h
        exact h
      · replace h := h.2 hc
        refine ⟨(hS13.is (by decide) rfl), ?_⟩
        refine fx_cons h (fx_qi_m fun x18 S17 h => ?_)
        obtain ⟨hS17, h⟩ := h
        refine ⟨fun hc => ?_, fun hc => ?_⟩
        · replace h := h.1 hc
          refine ⟨(hS17.is (by decide) rfl), ?_⟩
          refine ⟨_, (hS17.P (by decide) rfl), ?_⟩
          refine ⟨(hS17.is (by decide) rfl), ?_⟩
          refine fx_cons h (fx_qv_m fun S20 h => ?_)
          obtain ⟨hS20, h⟩ := h
          exact h
        · replace h := h.2 hc
          exact h
theorem bs_V_needsCluster_0 {G : fx_G} {S : fx_S} {Q : fx_R → fx_S → Prop} (hS : shC S) (v0 : Nat) (v1 : Int32) (v2 : Int32) (v3 : Int32) (hv0 : isH v0) (h : (v1 < (v2 / 16) → fx_Go G (1, 13) mm_V_needsCluster 25 [(0, fx_r G v0), (1, .int v1)] [.int 0] S Q) ∧ (¬ v1 < (v2 / 16) → ((((v2 + v3) - 1) / 16) < v1 → fx_Go G (1, 13) mm_V_needsCluster 25 [(0, fx_r G v0), (1, .int v1)] [.int 0] S Q) ∧ (¬ (((v2 + v3) - 1) / 16) < v1 → fx_Go G (1, 13) mm_V_needsCluster 25 [(0, fx_r G v0), (1, .int v1)] [.int 1] S Q))) :
    fx_Go G (1, 13) mm_V_needsCluster 0 [(0, fx_r G v0), (1, .int v1), (2, .int v2), (3, .int v3)] [] S Q := by
  refine bk_V_needsCluster_0 v0 v1 v2 v3 ?_
  refine ⟨fun hc => ?_, fun hc => ?_⟩
  · replace h := h.1 hc
    exact h
  · replace h := h.2 hc
    refine ⟨fun hc => ?_, fun hc => ?_⟩
    · replace h := h.1 hc
      exact h
    · replace h := h.2 hc
      exact h
theorem bs_V_needsCluster_25 {G : fx_G} {S : fx_S} {Q : fx_R → fx_S → Prop} (hS : shC S) (v0 : Nat) (v1 : Int32) (z0 : Int32) (hv0 : isH v0) (h : (¬ z0 = 0 → Q (.inl (some (.int 1))) S) ∧ (z0 = 0 → (¬ (fx_I S v0 3) = 2 → Q (.inl (some (.int 0))) S) ∧ ((fx_I S v0 3) = 2 → fx_Go G (0, 0) mm_V_clustersFor 0 [(0, .int (fx_I S v0 4))] [] S (fx_qi (fun x2 S1 => shC S1 ∧ (x2 ≤ v1 → Q (.inl (some (.int 0))) S1) ∧ (¬ x2 ≤ v1 → Q (.inl (some (.int 1))) S1)) Q)))) :
    fx_Go G (1, 13) mm_V_needsCluster 25 [(0, fx_r G v0), (1, .int v1)] [.int z0] S Q := by
  refine bk_V_needsCluster_25 v0 v1 z0 ?_
  refine ⟨fun hc => ?_, fun hc => ?_⟩
  · replace h := h.1 hc
    exact h
  · replace h := h.2 hc
    refine ⟨(hS.iH hv0), ?_⟩
    refine ⟨fun hc => ?_, fun hc => ?_⟩
    · replace h := h.1 hc
      exact h
    · replace h := h.2 hc
      refine fx_cons h (fx_qi_m fun x2 S1 h => ?_)
      obtain ⟨hS1, h⟩ := h
      refine ⟨fun hc => ?_, fun hc => ?_⟩
      · replace h := h.1 hc
        exact h
      · replace h := h.2 hc
        exact h
theorem bs_V_putOutside_0 {G : fx_G} {S : fx_S} {Q : fx_R → fx_S → Prop} (hS : shC S) (v1 : Nat) (v2 : Int32) (v3 : Int32) (v4 : Int32) (v5 : Int32) (hv1 : isH v1) (h : fx_Go G (3, 45) mm_V_takePlanned 0 [(0, fx_r G 0)] [] S (fx_qv (fun S1 => shC S1 ∧ (¬ (fx_I S1 v1 3) = 2 → fx_Go G (2, 29) mm_D_clearFile 0 [(0, fx_r G 1), (1, fx_r G 81), (2, .int (fx_I S1 v1 4)), (3, .int v2)] [] S1 (fx_qv (fun S4 => shC S4 ∧ fx_Go G (4, 59) mm_V_putOutside 69 [(0, fx_r G 0), (1, fx_r G v1), (2, .int v2), (3, .int v3), (4, .int v4), (5, .int v5), (6, .int 0)] [] S4 Q) Q)) ∧ ((fx_I S1 v1 3) = 2 → fx_Go G (4, 59) mm_V_putOutside 15 [(0, fx_r G 0), (1, fx_r G v1), (2, .int v2), (3, .int v3), (4, .int v4), (5, .int v5), (6, .int 0)] [] S1 Q)) Q)) :
    fx_Go G (4, 59) mm_V_putOutside 0 [(0, fx_r G 0), (1, fx_r G v1), (2, .int v2), (3, .int v3), (4, .int v4), (5, .int v5)] [] S Q := by
  refine bk_V_putOutside_0 0 v1 v2 v3 v4 v5 ?_
  refine ⟨(hS.is (by decide) rfl), ?_⟩
  refine fx_cons h (fx_qv_m fun S1 h => ?_)
  obtain ⟨hS1, h⟩ := h
  refine ⟨(hS1.iH hv1), ?_⟩
  refine ⟨fun hc => ?_, fun hc => ?_⟩
  · replace h := h.1 hc
    refine ⟨(hS1.is (by decide) rfl), ?_⟩
    refine ⟨_, (hS1.P (by decide) rfl), ?_⟩
    refine ⟨_, (hS1.P (by decide) rfl), ?_⟩
    refine ⟨(hS1.is (by decide) rfl), ?_⟩
    refine fx_cons h (fx_qv_m fun S4 h => ?_)
    obtain ⟨hS4, h⟩ := h
    exact h
  · replace h := h.2 hc
    exact h
theorem bs_V_putOutside_15 {G : fx_G} {S : fx_S} {Q : fx_R → fx_S → Prop} (hS : shC S) (v1 : Nat) (v2 : Int32) (v3 : Int32) (v4 : Int32) (v5 : Int32) (v6 : Int32) (hv1 : isH v1) (h : ((fx_I S v1 4) ≤ v6 → fx_Go G (2, 29) mm_D_clearFile 0 [(0, fx_r G 1), (1, fx_r G 81), (2, .int (fx_I S v1 4)), (3, .int v2)] [] S (fx_qv (fun S3 => shC S3 ∧ fx_Go G (4, 59) mm_V_putOutside 69 [(0, fx_r G 0), (1, fx_r G v1), (2, .int v2), (3, .int v3), (4, .int v4), (5, .int v5), (6, .int 0)] [] S3 Q) Q)) ∧ (¬ (fx_I S v1 4) ≤ v6 → vp_in v6 54 ∧ fx_Go G (1, 13) mm_D_putFileByte 0 [(0, fx_r G 1), (1, fx_r G 81), (2, .int v6), (3, .int (fx_I S (v1 + 3) (v6.toNatClampNeg)))] [] S (fx_qv (fun S8 => shC S8 ∧ fx_Go G (4, 59) mm_V_putOutside 15 [(0, fx_r G 0), (1, fx_r G v1), (2, .int v2), (3, .int v3), (4, .int v4), (5, .int v5), (6, .int (v6 + Int32.ofInt 1))] [] S8 Q) Q))) :
    fx_Go G (4, 59) mm_V_putOutside 15 [(0, fx_r G 0), (1, fx_r G v1), (2, .int v2), (3, .int v3), (4, .int v4), (5, .int v5), (6, .int v6)] [] S Q := by
  refine bk_V_putOutside_15 0 v1 v2 v3 v4 v5 v6 ?_
  refine ⟨(hS.iH hv1), ?_⟩
  refine ⟨fun hc => ?_, fun hc => ?_⟩
  · replace h := h.1 hc
    refine ⟨(hS.is (by decide) rfl), ?_⟩
    refine ⟨_, (hS.P (by decide) rfl), ?_⟩
    refine ⟨_, (hS.P (by decide) rfl), ?_⟩
    refine ⟨(hS.is (by decide) rfl), ?_⟩
    refine fx_cons h (fx_qv_m fun S3 h => ?_)
    obtain ⟨hS3, h⟩ := h
    exact h
  · replace h := h.2 hc
    refine ⟨(hS.is (by decide) rfl), ?_⟩
    refine ⟨_, (hS.P (by decide) rfl), ?_⟩
    refine ⟨_, (hS.P (by decide) rfl), ?_⟩
    refine ⟨_, (hS.pHh hv1), ?_⟩
    refine ⟨(hS.iHh hv1), ?_⟩
    obtain ⟨w7, h⟩ := h
    refine ⟨(hS.vHh hv1 w7), ?_⟩
    refine ⟨(hS.is (by decide) rfl), ?_⟩
    refine fx_cons h (fx_qv_m fun S8 h => ?_)
    obtain ⟨hS8, h⟩ := h
    exact h
theorem bs_V_putOutside_69 {G : fx_G} {S : fx_S} {Q : fx_R → fx_S → Prop} (hS : shC S) (v1 : Nat) (v2 : Int32) (v3 : Int32) (v4 : Int32) (v5 : Int32) (v6 : Int32) (hv1 : isH v1) (h : (v3 ≤ v6 → fx_Go G (1, 12) mm_V_endOfLastCluster 0 [(0, .int v5)] [] S (fx_qi (fun x4 S3 => shC S3 ∧ fx_Go G (2, 29) mm_D_clearFile 0 [(0, fx_r G 1), (1, fx_r G 81), (2, .int v5), (3, .int x4)] [] S3 (fx_qv (fun S5 => shC S5 ∧ ∀ S6, S6 = fx_setI S5 v1 3 3 → ∀ S7, S7 = fx_setI S6 v1 4 v5 → fx_Go G (1, 18) mm_Y_copyFrom 0 [(0, fx_r G (v1 + 4)), (1, fx_r G 81)] [] S7 (fx_qv (fun S10 => shC S10 ∧ Q (.inl none) S10) Q)) Q)) Q)) ∧ (¬ v3 ≤ v6 → fx_Go G (1, 13) mm_D_putFileByte 0 [(0, fx_r G 1), (1, fx_r G 81), (2, .int (v2 + v6)), (3, .int ((v4 + v6) &&& 255))] [] S (fx_qv (fun S13 => shC S13 ∧ fx_Go G (4, 59) mm_V_putOutside 69 [(0, fx_r G 0), (1, fx_r G v1), (2, .int v2), (3, .int v3), (4, .int v4), (5, .int v5), (6, .int (v6 + Int32.ofInt 1))] [] S13 Q) Q))) :
    fx_Go G (4, 59) mm_V_putOutside 69 [(0, fx_r G 0), (1, fx_r G v1), (2, .int v2), (3, .int v3), (4, .int v4), (5, .int v5), (6, .int v6)] [] S Q := by
  refine bk_V_putOutside_69 0 v1 v2 v3 v4 v5 v6 ?_
  refine ⟨fun hc => ?_, fun hc => ?_⟩
  · replace h := h.1 hc
    refine ⟨(hS.is (by decide) rfl), ?_⟩
    refine ⟨_, (hS.P (by decide) rfl), ?_⟩
    refine ⟨_, (hS.P (by decide) rfl), ?_⟩
    refine fx_cons h (fx_qi_m fun x4 S3 h => ?_)
    obtain ⟨hS3, h⟩ := h
    refine ⟨(hS3.is (by decide) rfl), ?_⟩
    refine fx_cons h (fx_qv_m fun S5 h => ?_)
    obtain ⟨hS5, h⟩ := h
    refine ⟨(hS5.iH hv1), ?_⟩
    intro S6 eS6
    replace h := h S6 eS6
    have hS6 : shC S6 := by rw [eS6]; exact hS5
    intro S7 eS7
    replace h := h S7 eS7
    have hS7 : shC S7 := by rw [eS7]; exact hS6
    refine ⟨_, (hS7.pHy hv1), ?_⟩
    refine ⟨(hS7.is (by decide) rfl), ?_⟩
    refine ⟨_, (hS7.P (by decide) rfl), ?_⟩
    refine ⟨(hS7.iY (isH.y hv1)), ?_⟩
    refine fx_cons h (fx_qv_m fun S10 h => ?_)
    obtain ⟨hS10, h⟩ := h
    exact h
  · replace h := h.2 hc
    refine ⟨(hS.is (by decide) rfl), ?_⟩
    refine ⟨_, (hS.P (by decide) rfl), ?_⟩
    refine ⟨_, (hS.P (by decide) rfl), ?_⟩
    refine ⟨(hS.is (by decide) rfl), ?_⟩
    refine fx_cons h (fx_qv_m fun S13 h => ?_)
    obtain ⟨hS13, h⟩ := h
    exact h
theorem bs_V_takePlanned_0 {G : fx_G} {S : fx_S} {Q : fx_R → fx_S → Prop} (hS : shC S)   (h : fx_Go G (3, 45) mm_V_takePlanned 2 [(0, fx_r G 0), (1, .int 0)] [] S Q) :
    fx_Go G (3, 45) mm_V_takePlanned 0 [(0, fx_r G 0)] [] S Q := by
  refine bk_V_takePlanned_0 0 ?_
  exact h
theorem bs_V_takePlanned_2 {G : fx_G} {S : fx_S} {Q : fx_R → fx_S → Prop} (hS : shC S) (v1 : Int32)  (h : ((fx_I S 81 1) ≤ v1 → Q (.inl none) S) ∧ (¬ (fx_I S 81 1) ≤ v1 → vp_in v1 63 ∧ fx_Go G (0, 0) mm_V_isDataCluster 0 [(0, .int (fx_I S (81 + 1) (v1.toNatClampNeg)))] [] S (fx_qi (fun x6 S5 => shC S5 ∧ (x6 = 0 → fx_Go G (3, 45) mm_V_takePlanned 2 [(0, fx_r G 0), (1, .int (v1 + Int32.ofInt 1))] [] S5 Q) ∧ (¬ x6 = 0 → vp_in (fx_I S (81 + 1) (v1.toNatClampNeg)) 128 ∧ (¬ (fx_I S5 76 ((fx_I S (81 + 1) (v1.toNatClampNeg)).toNatClampNeg)) = 0 → fx_Go G (3, 45) mm_V_takePlanned 2 [(0, fx_r G 0), (1, .int (v1 + Int32.ofInt 1))] [] S5 Q) ∧ ((fx_I S5 76 ((fx_I S (81 + 1) (v1.toNatClampNeg)).toNatClampNeg)) = 0 → vp_in (fx_I S (81 + 1) (v1.toNatClampNeg)) 128 ∧ ∀ S11, S11 = fx_setI S5 76 ((fx_I S (81 + 1) (v1.toNatClampNeg)).toNatClampNeg) (vp_nar .boolean 1) → fx_Go G (2, 29) mm_D_clearFile 0 [(0, fx_r G 1), (1, fx_r G 81), (2, .int (v1 * 16)), (3, .int ((v1 + 1) * 16))] [] S11 (fx_qv (fun S14 => shC S14 ∧ fx_Go G (3, 45) mm_V_takePlanned 2 [(0, fx_r G 0), (1, .int (v1 + Int32.ofInt 1))] [] S14 Q) Q)))) Q))) :
    fx_Go G (3, 45) mm_V_takePlanned 2 [(0, fx_r G 0), (1, .int v1)] [] S Q := by
  refine bk_V_takePlanned_2 0 v1 ?_
  refine ⟨(hS.is (by decide) rfl), ?_⟩
  refine ⟨_, (hS.P (by decide) rfl), ?_⟩
  refine ⟨(hS.is (by decide) rfl), ?_⟩
  refine ⟨fun hc => ?_, fun hc => ?_⟩
  · replace h := h.1 hc
    exact h
  · replace h := h.2 hc
    refine ⟨_, (hS.P (by decide) rfl), ?_⟩
    refine ⟨(hS.is (by decide) rfl), ?_⟩
    refine ⟨_, (hS.pY isY_plan), ?_⟩
    refine ⟨(hS.iYl isY_plan), ?_⟩
    obtain ⟨w4, h⟩ := h
    refine ⟨(hS.vYl isY_plan w4), ?_⟩
    refine fx_cons h (fx_qi_m fun x6 S5 h => ?_)
    obtain ⟨hS5, h⟩ := h
    refine ⟨fun hc => ?_, fun hc => ?_⟩
    · replace h := h.1 hc
      exact h
    · replace h := h.2 hc
      refine ⟨(hS5.is (by decide) rfl), ?_⟩
      refine ⟨_, (hS5.P (by decide) rfl), ?_⟩
      refine ⟨(hS5.is (by decide) rfl), ?_⟩
      obtain ⟨w8, h⟩ := h
      refine ⟨(hS5.vin (by decide) rfl w8), ?_⟩
      refine ⟨fun hc => ?_, fun hc => ?_⟩
      · replace h := h.1 hc
        exact h
      · replace h := h.2 hc
        refine ⟨_, (hS5.P (by decide) rfl), ?_⟩
        refine ⟨(hS5.is (by decide) rfl), ?_⟩
        obtain ⟨w10, h⟩ := h
        refine ⟨(hS5.vin (by decide) rfl w10), ?_⟩
        intro S11 eS11
        replace h := h S11 eS11
        have hS11 : shC S11 := by rw [eS11]; exact hS5
        refine ⟨_, (hS11.P (by decide) rfl), ?_⟩
        refine ⟨_, (hS11.P (by decide) rfl), ?_⟩
        refine ⟨(hS11.is (by decide) rfl), ?_⟩
        refine fx_cons h (fx_qv_m fun S14 h => ?_)
        obtain ⟨hS14, h⟩ := h
        exact h
theorem bs_V_releaseFrom_0 {G : fx_G} {S : fx_S} {Q : fx_R → fx_S → Prop} (hS : shC S) (v1 : Nat) (v2 : Int32) (hv1 : isY v1) (h : fx_Go G (1, 14) mm_V_releaseFrom 5 [(0, fx_r G 0), (1, fx_r G v1), (2, .int v2), (3, .int 0), (4, .int v2)] [] S Q) :
    fx_Go G (1, 14) mm_V_releaseFrom 0 [(0, fx_r G 0), (1, fx_r G v1), (2, .int v2)] [] S Q := by
  refine bk_V_releaseFrom_0 0 v1 v2 ?_
  exact h
theorem bs_V_releaseFrom_5 {G : fx_G} {S : fx_S} {Q : fx_R → fx_S → Prop} (hS : shC S) (v1 : Nat) (v2 : Int32) (v3 : Int32) (v4 : Int32) (hv1 : isY v1) (h : ((fx_I S v1 1) ≤ v4 → ∀ S1, S1 = fx_setI S v1 1 (if v2 < (fx_I S v1 1) then v2 else (fx_I S v1 1)) → Q (.inl (some (.int v3))) S1) ∧ (¬ (fx_I S v1 1) ≤ v4 → vp_in v4 63 ∧ fx_Go G (0, 0) mm_V_isDataCluster 0 [(0, .int (fx_I S (v1 + 1) (v4.toNatClampNeg)))] [] S (fx_qi (fun x5 S4 => shC S4 ∧ (x5 = 0 → fx_Go G (1, 14) mm_V_releaseFrom 5 [(0, fx_r G 0), (1, fx_r G v1), (2, .int v2), (3, .int v3), (4, .int (v4 + Int32.ofInt 1))] [] S4 Q) ∧ (¬ x5 = 0 → vp_in v4 63 ∧ vp_in (fx_I S4 (v1 + 1) (v4.toNatClampNeg)) 128 ∧ ∀ S10, S10 = fx_setI S4 76 ((fx_I S4 (v1 + 1) (v4.toNatClampNeg)).toNatClampNeg) (vp_nar .boolean 0) → fx_Go G (1, 14) mm_V_releaseFrom 5 [(0, fx_r G 0), (1, fx_r G v1), (2, .int v2), (3, .int (v3 + Int32.ofInt 1)), (4, .int (v4 + Int32.ofInt 1))] [] S10 Q)) Q))) :
    fx_Go G (1, 14) mm_V_releaseFrom 5 [(0, fx_r G 0), (1, fx_r G v1), (2, .int v2), (3, .int v3), (4, .int v4)] [] S Q := by
  refine bk_V_releaseFrom_5 0 v1 v2 v3 v4 ?_
  refine ⟨(hS.iY hv1), ?_⟩
  refine ⟨fun hc => ?_, fun hc => ?_⟩
  · replace h := h.1 hc
    intro S1 eS1
    replace h := h S1 eS1
    have hS1 : shC S1 := by rw [eS1]; exact hS
    exact h
  · replace h := h.2 hc
    refine ⟨_, (hS.pY hv1), ?_⟩
    refine ⟨(hS.iYl hv1), ?_⟩
    obtain ⟨w3, h⟩ := h
    refine ⟨(hS.vYl hv1 w3), ?_⟩
    refine fx_cons h (fx_qi_m fun x5 S4 h => ?_)
    obtain ⟨hS4, h⟩ := h
    refine ⟨fun hc => ?_, fun hc => ?_⟩
    · replace h := h.1 hc
      exact h
    · replace h := h.2 hc
      refine ⟨(hS4.is (by decide) rfl), ?_⟩
      refine ⟨_, (hS4.P (by decide) rfl), ?_⟩
      refine ⟨(hS4.iY hv1), ?_⟩
      refine ⟨_, (hS4.pY hv1), ?_⟩
      refine ⟨(hS4.iYl hv1), ?_⟩
      obtain ⟨w8, h⟩ := h
      refine ⟨(hS4.vYl hv1 w8), ?_⟩
      refine ⟨(hS4.is (by decide) rfl), ?_⟩
      obtain ⟨w9, h⟩ := h
      refine ⟨(hS4.vin (by decide) rfl w9), ?_⟩
      intro S10 eS10
      replace h := h S10 eS10
      have hS10 : shC S10 := by rw [eS10]; exact hS4
      exact h
theorem bs_V_restoreRoot_0 {G : fx_G} {S : fx_S} {Q : fx_R → fx_S → Prop} (hS : shC S)   (h : fx_Go G (0, 0) mm_V_isUsed 0 [(0, fx_r G 0), (1, .int 0)] [] S (fx_qi (fun x2 S1 => shC S1 ∧ (x2 = 0 → vp_in 0 12 ∧ fx_Go G (1, 12) mm_H_become 0 [(0, fx_r G (4 + 6 * ((0 : Int32).toNatClampNeg))), (1, .int 2), (2, .int 0)] [] S1 (fx_qv (fun S6 => shC S6 ∧ fx_Go G (7, 96) mm_V_store 0 [(0, fx_r G 0), (1, .int 0)] [] S6 (fx_qv (fun S7 => shC S7 ∧ Q (.inl (some (.int 1))) S7) Q)) Q)) ∧ (¬ x2 = 0 → Q (.inl (some (.int 0))) S1)) Q)) :
    fx_Go G (8, 109) mm_V_restoreRoot 0 [(0, fx_r G 0)] [] S Q := by
  refine bk_V_restoreRoot_0 0 ?_
  refine ⟨(hS.is (by decide) rfl), ?_⟩
  refine fx_cons h (fx_qi_m fun x2 S1 h => ?_)
  obtain ⟨hS1, h⟩ := h
  refine ⟨fun hc => ?_, fun hc => ?_⟩
  · replace h := h.1 hc
    refine ⟨(hS1.is (by decide) rfl), ?_⟩
    refine ⟨_, (hS1.P (by decide) rfl), ?_⟩
    refine ⟨(hS1.is (by decide) rfl), ?_⟩
    obtain ⟨w4, h⟩ := h
    refine ⟨(hS1.vin (by decide) rfl w4), _, hS1.P (by decide) (sheet_at _ (vin_lt w4)), ?_⟩
    refine ⟨(hS1.iH (isH_at _ (vin_lt w4))), ?_⟩
    refine fx_cons h (fx_qv_m fun S6 h => ?_)
    obtain ⟨hS6, h⟩ := h
    refine ⟨(hS6.is (by decide) rfl), ?_⟩
    refine fx_cons h (fx_qv_m fun S7 h => ?_)
    obtain ⟨hS7, h⟩ := h
    exact h
  · replace h := h.2 hc
    exact h
theorem bs_V_adoptStrays_0 {G : fx_G} {S : fx_S} {Q : fx_R → fx_S → Prop} (hS : shC S)   (h : fx_Go G (8, 109) mm_V_adoptStrays 4 [(0, fx_r G 0), (1, .int 0), (2, .int 0)] [] S Q) :
    fx_Go G (8, 109) mm_V_adoptStrays 0 [(0, fx_r G 0)] [] S Q := by
  refine bk_V_adoptStrays_0 0 ?_
  exact h
theorem bs_V_adoptStrays_4 {G : fx_G} {S : fx_S} {Q : fx_R → fx_S → Prop} (hS : shC S) (v1 : Int32) (v2 : Int32)  (h : (12 ≤ v2 → Q (.inl (some (.int v1))) S) ∧ (¬ 12 ≤ v2 → fx_Go G (0, 0) mm_V_isUsed 0 [(0, fx_r G 0), (1, .int v2)] [] S (fx_qi (fun x2 S1 => shC S1 ∧ (x2 = 0 → fx_Go G (8, 109) mm_V_adoptStrays 4 [(0, fx_r G 0), (1, .int v1), (2, .int (v2 + Int32.ofInt 1))] [] S1 Q) ∧ (¬ x2 = 0 → fx_Go G (2, 26) mm_V_leadsToRoot 0 [(0, fx_r G 0), (1, .int v2)] [] S1 (fx_qi (fun x4 S3 => shC S3 ∧ (¬ x4 = 0 → fx_Go G (8, 109) mm_V_adoptStrays 4 [(0, fx_r G 0), (1, .int v1), (2, .int (v2 + Int32.ofInt 1))] [] S3 Q) ∧ (x4 = 0 → vp_in v2 12 ∧ ∀ S8, S8 = fx_setI S3 (4 + 6 * (v2.toNatClampNeg)) 1 0 → fx_Go G (7, 96) mm_V_store 0 [(0, fx_r G 0), (1, .int v2)] [] S8 (fx_qv (fun S9 => shC S9 ∧ fx_Go G (8, 109) mm_V_adoptStrays 4 [(0, fx_r G 0), (1, .int (v1 + Int32.ofInt 1)), (2, .int (v2 + Int32.ofInt 1))] [] S9 Q) Q))) Q))) Q))) :
    fx_Go G (8, 109) mm_V_adoptStrays 4 [(0, fx_r G 0), (1, .int v1), (2, .int v2)] [] S Q := by
  refine bk_V_adoptStrays_4 0 v1 v2 ?_
  refine ⟨fun hc => ?_, fun hc => ?_⟩
  · replace h := h.1 hc
    exact h
  · replace h := h.2 hc
    refine ⟨(hS.is (by decide) rfl), ?_⟩
    refine fx_cons h (fx_qi_m fun x2 S1 h => ?_)
    obtain ⟨hS1, h⟩ := h
    refine ⟨fun hc => ?_, fun hc => ?_⟩
    · replace h := h.1 hc
      exact h
    · replace h := h.2 hc
      refine ⟨(hS1.is (by decide) rfl), ?_⟩
      refine fx_cons h (fx_qi_m fun x4 S3 h => ?_)
      obtain ⟨hS3, h⟩ := h
      refine ⟨fun hc => ?_, fun hc => ?_⟩
      · replace h := h.1 hc
        exact h
      · replace h := h.2 hc
        refine ⟨(hS3.is (by decide) rfl), ?_⟩
        refine ⟨_, (hS3.P (by decide) rfl), ?_⟩
        refine ⟨(hS3.is (by decide) rfl), ?_⟩
        obtain ⟨w6, h⟩ := h
        refine ⟨(hS3.vin (by decide) rfl w6), _, hS3.P (by decide) (sheet_at _ (vin_lt w6)), ?_⟩
        refine ⟨(hS3.iH (isH_at _ (vin_lt w6))), ?_⟩
        intro S8 eS8
        replace h := h S8 eS8
        have hS8 : shC S8 := by rw [eS8]; exact hS3
        refine fx_cons h (fx_qv_m fun S9 h => ?_)
        obtain ⟨hS9, h⟩ := h
        exact h
theorem bs_V_mendLists_0 {G : fx_G} {S : fx_S} {Q : fx_R → fx_S → Prop} (hS : shC S)   (h : fx_Go G (8, 109) mm_V_mendLists 4 [(0, fx_r G 0), (1, .int 0), (2, .int 0)] [] S Q) :
    fx_Go G (8, 109) mm_V_mendLists 0 [(0, fx_r G 0)] [] S Q := by
  refine bk_V_mendLists_0 0 ?_
  exact h
