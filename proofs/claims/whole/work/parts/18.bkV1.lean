theorem bk_V_record_0 {G : fx_G} {S : fx_S} {Q : fx_R → fx_S → Prop} (v0 : Nat) (v1 : Int32) (v2 : Int32) (h : fx_is S v0 4 ∧ ((fx_I S v0 4) = 0 → Q (.inl (some (.int (-1)))) S) ∧ (¬ (fx_I S v0 4) = 0 → fx_Go G (0, 0) mm_V_isUsed 0 [(0, fx_r G v0), (1, .int v1)] [] S (fx_qi (fun x3 S2 => (¬ x3 = 0 → fx_is S2 v0 4 ∧ ∃ r5, fx_P S2 v0 1 = some r5 ∧ fx_is S2 r5 104 ∧ vp_in v1 (fx_ln S2 r5) ∧ ∃ r8, fx_P S2 r5 (v1.toNatClampNeg) = some r8 ∧ (v2 = 0 → fx_is S2 r8 3 ∧ Q (.inl (some (.int (fx_I S2 r8 0)))) S2) ∧ (v2 = 1 → fx_is S2 r8 3 ∧ Q (.inl (some (.int (fx_I S2 r8 1)))) S2) ∧ (v2 = 2 → fx_is S2 r8 3 ∧ Q (.inl (some (.int (fx_I S2 r8 2)))) S2) ∧ (v2 = 3 → fx_is S2 r8 3 ∧ fx_Go G (3, 40) mm_H_attributeBytes 0 [(0, fx_r G r8)] [] S2 (fx_qi (fun x14 S12 => Q (.inl (some (.int x14))) S12) Q)) ∧ (v2 = 4 → fx_is S2 r8 3 ∧ Q (.inl (some (.int (fx_I S2 r8 4)))) S2) ∧ (v2 = 5 → fx_is S2 r8 3 ∧ Q (.inl (some (.int (fx_I S2 r8 3)))) S2) ∧ (v2 = 6 → fx_is S2 r8 3 ∧ ∃ r18, fx_P S2 r8 7 = some r18 ∧ fx_is S2 r18 1 ∧ fx_Go G (1, 13) mm_Y_runCount 0 [(0, fx_r G r18)] [] S2 (fx_qi (fun x21 S19 => Q (.inl (some (.int x21))) S19) Q)) ∧ (¬ v2 = 0 → ¬ v2 = 1 → ¬ v2 = 2 → ¬ v2 = 3 → ¬ v2 = 4 → ¬ v2 = 5 → ¬ v2 = 6 → Q (.inl (some (.int (-1)))) S2)) ∧ (x3 = 0 → Q (.inl (some (.int (-1)))) S2)) Q))) :
    fx_Go G (4, 52) mm_V_record 0 [(0, fx_r G v0), (1, .int v1), (2, .int v2)] [] S Q := by
  refine fx_aload_n (n := 1) dd_V_record_0 rfl 0 rfl rfl ?_
  obtain ⟨q1, h⟩ := h
  refine fx_getI (n := 4) dd_V_record_1 fw_V_66 (by decide) rfl rfl q1.1 q1.2 ?_
  refine fx_if_eq (n := 7) (tg := 15) dd_V_record_4 rfl rfl (fun hc => ?_) (fun hc => ?_)
  · replace h := h.1 hc
    refine fx_iconst (n := 16) (v := (-1)) dd_V_record_15 (by decide) rfl ?_
    exact fx_iret dd_V_record_16 rfl h
  · replace h := h.2 hc
    refine fx_aload_n (n := 8) dd_V_record_7 rfl 0 rfl rfl ?_
    refine fx_iload_n (n := 9) dd_V_record_8 rfl 1 rfl rfl ?_
    refine fx_callV (n := 12) (vs := [_]) dd_V_record_9 mw_V_isUsed ⟨wd_223, wd_225, wp_4⟩ rfl (by decide) q1.1 q1.2 rfl rfl ⟨Nat.le_of_ble_eq_true rfl, Nat.le_of_ble_eq_true rfl, Nat.le_of_ble_eq_true rfl, fx_nx, rfl⟩ rfl h (fx_qi_k fun x3 S2 h => ?_) (fun _ _ h => h)
    refine fx_if_ne (n := 15) (tg := 17) dd_V_record_12 rfl rfl (fun hc => ?_) (fun hc => ?_)
    · replace h := h.1 hc
      refine fx_aload_n (n := 18) dd_V_record_17 rfl 0 rfl rfl ?_
      obtain ⟨q4, h⟩ := h
      obtain ⟨r5, hr5, h⟩ := h
      refine fx_getP (n := 21) dd_V_record_18 fw_V_18 (by decide) rfl rfl q4.1 q4.2 hr5 ?_
      refine fx_iload_n (n := 22) dd_V_record_21 rfl 1 rfl rfl ?_
      obtain ⟨q6, h⟩ := h
      obtain ⟨q7, r8, hr8, h⟩ := h
      refine fx_aald (n := 23) dd_V_record_22 rfl q6.1 q6.2 q7 hr8 ?_
      refine fx_astore_n (n := 24) (L' := [(3, _), (0, _), (1, _), (2, _)]) dd_V_record_23 rfl (by decide) rfl rfl ?_
      refine fx_iload_n (n := 25) dd_V_record_24 rfl 3 rfl rfl ?_
      by_cases hx0 : v2 = 0
      · refine fx_tableIn (n := 68) dd_V_record_25 (by rw [hx0]; decide) (by rw [hx0]; decide) (by rw [hx0]; rfl) rfl ?_
        replace h := h.1 hx0
        refine fx_aload_n (n := 69) dd_V_record_68 rfl 0 rfl rfl ?_
        obtain ⟨q9, h⟩ := h
        refine fx_getI (n := 72) dd_V_record_69 fw_V_205 (by decide) rfl rfl q9.1 q9.2 ?_
        exact fx_iret dd_V_record_72 rfl h
      by_cases hx1 : v2 = 1
      · refine fx_tableIn (n := 73) dd_V_record_25 (by rw [hx1]; decide) (by rw [hx1]; decide) (by rw [hx1]; rfl) rfl ?_
        replace h := h.2.1 hx1
        refine fx_aload_n (n := 74) dd_V_record_73 rfl 0 rfl rfl ?_
        obtain ⟨q10, h⟩ := h
        refine fx_getI (n := 77) dd_V_record_74 fw_V_173 (by decide) rfl rfl q10.1 q10.2 ?_
        exact fx_iret dd_V_record_77 rfl h
      by_cases hx2 : v2 = 2
      · refine fx_tableIn (n := 78) dd_V_record_25 (by rw [hx2]; decide) (by rw [hx2]; decide) (by rw [hx2]; rfl) rfl ?_
        replace h := h.2.2.1 hx2
        refine fx_aload_n (n := 79) dd_V_record_78 rfl 0 rfl rfl ?_
        obtain ⟨q11, h⟩ := h
        refine fx_getI (n := 82) dd_V_record_79 fw_V_208 (by decide) rfl rfl q11.1 q11.2 ?_
        exact fx_iret dd_V_record_82 rfl h
      by_cases hx3 : v2 = 3
      · refine fx_tableIn (n := 83) dd_V_record_25 (by rw [hx3]; decide) (by rw [hx3]; decide) (by rw [hx3]; rfl) rfl ?_
        replace h := h.2.2.2.1 hx3
        refine fx_aload_n (n := 84) dd_V_record_83 rfl 0 rfl rfl ?_
        obtain ⟨q13, h⟩ := h
        refine fx_callV (n := 87) (vs := []) dd_V_record_84 mw_H_attributeBytes ⟨wd_243, wd_244, wd_245⟩ rfl (by decide) q13.1 q13.2 rfl rfl ⟨Nat.le_of_ble_eq_true rfl, Nat.le_of_ble_eq_true rfl, Nat.le_of_ble_eq_true rfl, fx_nx, rfl⟩ rfl h (fx_qi_k fun x14 S12 h => ?_) (fun _ _ h => h)
        exact fx_iret dd_V_record_87 rfl h
      by_cases hx4 : v2 = 4
      · refine fx_tableIn (n := 88) dd_V_record_25 (by rw [hx4]; decide) (by rw [hx4]; decide) (by rw [hx4]; rfl) rfl ?_
        replace h := h.2.2.2.2.1 hx4
        refine fx_aload_n (n := 89) dd_V_record_88 rfl 0 rfl rfl ?_
        obtain ⟨q15, h⟩ := h
        refine fx_getI (n := 92) dd_V_record_89 fw_V_123 (by decide) rfl rfl q15.1 q15.2 ?_
        exact fx_iret dd_V_record_92 rfl h
      by_cases hx5 : v2 = 5
      · refine fx_tableIn (n := 93) dd_V_record_25 (by rw [hx5]; decide) (by rw [hx5]; decide) (by rw [hx5]; rfl) rfl ?_
        replace h := h.2.2.2.2.2.1 hx5
        refine fx_aload_n (n := 94) dd_V_record_93 rfl 0 rfl rfl ?_
        obtain ⟨q16, h⟩ := h
        refine fx_getI (n := 97) dd_V_record_94 fw_V_132 (by decide) rfl rfl q16.1 q16.2 ?_
        exact fx_iret dd_V_record_97 rfl h
      by_cases hx6 : v2 = 6
      · refine fx_tableIn (n := 98) dd_V_record_25 (by rw [hx6]; decide) (by rw [hx6]; decide) (by rw [hx6]; rfl) rfl ?_
        replace h := h.2.2.2.2.2.2.1 hx6
        refine fx_aload_n (n := 99) dd_V_record_98 rfl 0 rfl rfl ?_
        obtain ⟨q17, h⟩ := h
        obtain ⟨r18, hr18, h⟩ := h
        refine fx_getP (n := 102) dd_V_record_99 fw_V_152 (by decide) rfl rfl q17.1 q17.2 hr18 ?_
        obtain ⟨q20, h⟩ := h
        refine fx_callV (n := 105) (vs := []) dd_V_record_102 mw_Y_runCount ⟨wd_259, wd_260, wd_261⟩ rfl (by decide) q20.1 q20.2 rfl rfl ⟨Nat.le_of_ble_eq_true rfl, Nat.le_of_ble_eq_true rfl, Nat.le_of_ble_eq_true rfl, fx_nx, rfl⟩ rfl h (fx_qi_k fun x21 S19 h => ?_) (fun _ _ h => h)
        exact fx_iret dd_V_record_105 rfl h
      replace h := h.2.2.2.2.2.2.2 hx0 hx1 hx2 hx3 hx4 hx5 hx6
      have ht0 := lv_neT (a := 0) hx0 (by decide)
      have ht1 := lv_neT (a := 1) hx1 (by decide)
      have ht2 := lv_neT (a := 2) hx2 (by decide)
      have ht3 := lv_neT (a := 3) hx3 (by decide)
      have ht4 := lv_neT (a := 4) hx4 (by decide)
      have ht5 := lv_neT (a := 5) hx5 (by decide)
      have ht6 := lv_neT (a := 6) hx6 (by decide)
      refine fx_tableOut (n := 106) dd_V_record_25 (by omega) rfl ?_
      refine fx_iconst (n := 107) (v := (-1)) dd_V_record_106 (by decide) rfl ?_
      exact fx_iret dd_V_record_107 rfl h
    · replace h := h.2 hc
      refine fx_iconst (n := 16) (v := (-1)) dd_V_record_15 (by decide) rfl ?_
      exact fx_iret dd_V_record_16 rfl h
theorem bk_V_read_0 {G : fx_G} {S : fx_S} {Q : fx_R → fx_S → Prop} (v0 : Nat) (v1 : Int32) (v2 : Int32) (h : fx_is S v0 4 ∧ ((fx_I S v0 4) = 0 → Q (.inl (some (.int (-1)))) S) ∧ (¬ (fx_I S v0 4) = 0 → fx_Go G (0, 0) mm_V_isUsed 0 [(0, fx_r G v0), (1, .int v1)] [] S (fx_qi (fun x3 S2 => (x3 = 0 → Q (.inl (some (.int (-1)))) S2) ∧ (¬ x3 = 0 → (v2 < 0 → Q (.inl (some (.int (-1)))) S2) ∧ (¬ v2 < 0 → fx_is S2 v0 4 ∧ ∃ r5, fx_P S2 v0 1 = some r5 ∧ fx_is S2 r5 104 ∧ vp_in v1 (fx_ln S2 r5) ∧ ∃ r8, fx_P S2 r5 (v1.toNatClampNeg) = some r8 ∧ fx_is S2 r8 3 ∧ (v2 < (fx_I S2 r8 4) → ∃ r10, fx_P S2 v0 1 = some r10 ∧ fx_is S2 r10 104 ∧ vp_in v1 (fx_ln S2 r10) ∧ ∃ r13, fx_P S2 r10 (v1.toNatClampNeg) = some r13 ∧ fx_is S2 r13 3 ∧ (¬ (fx_I S2 r13 3) = 3 → ∃ r15, fx_P S2 r13 6 = some r15 ∧ fx_is S2 r15 100 ∧ vp_in v2 (fx_ln S2 r15) ∧ Q (.inl (some (.int (fx_I S2 r15 (v2.toNatClampNeg))))) S2) ∧ ((fx_I S2 r13 3) = 3 → ∃ r18, fx_P S2 v0 0 = some r18 ∧ ∃ r19, fx_P S2 r13 7 = some r19 ∧ fx_is S2 r18 0 ∧ fx_Go G (1, 13) mm_D_fileByte 0 [(0, fx_r G r18), (1, fx_r G r19), (2, .int v2)] [] S2 (fx_qi (fun x22 S20 => Q (.inl (some (.int x22))) S20) Q))) ∧ (¬ v2 < (fx_I S2 r8 4) → Q (.inl (some (.int (-1)))) S2)))) Q))) :
    fx_Go G (2, 28) mm_V_read 0 [(0, fx_r G v0), (1, .int v1), (2, .int v2)] [] S Q := by
  refine fx_aload_n (n := 1) dd_V_read_0 rfl 0 rfl rfl ?_
  obtain ⟨q1, h⟩ := h
  refine fx_getI (n := 4) dd_V_read_1 fw_V_66 (by decide) rfl rfl q1.1 q1.2 ?_
  refine fx_if_eq (n := 7) (tg := 32) dd_V_read_4 rfl rfl (fun hc => ?_) (fun hc => ?_)
  · replace h := h.1 hc
    refine fx_iconst (n := 33) (v := (-1)) dd_V_read_32 (by decide) rfl ?_
    exact fx_iret dd_V_read_33 rfl h
  · replace h := h.2 hc
    refine fx_aload_n (n := 8) dd_V_read_7 rfl 0 rfl rfl ?_
    refine fx_iload_n (n := 9) dd_V_read_8 rfl 1 rfl rfl ?_
    refine fx_callV (n := 12) (vs := [_]) dd_V_read_9 mw_V_isUsed ⟨wd_223, wd_225, wp_4⟩ rfl (by decide) q1.1 q1.2 rfl rfl ⟨Nat.le_of_ble_eq_true rfl, Nat.le_of_ble_eq_true rfl, Nat.le_of_ble_eq_true rfl, fx_nx, rfl⟩ rfl h (fx_qi_k fun x3 S2 h => ?_) (fun _ _ h => h)
    refine fx_if_eq (n := 15) (tg := 32) dd_V_read_12 rfl rfl (fun hc => ?_) (fun hc => ?_)
    · replace h := h.1 hc
      refine fx_iconst (n := 33) (v := (-1)) dd_V_read_32 (by decide) rfl ?_
      exact fx_iret dd_V_read_33 rfl h
    · replace h := h.2 hc
      refine fx_iload_n (n := 16) dd_V_read_15 rfl 2 rfl rfl ?_
      refine fx_if_lt (n := 19) (tg := 32) dd_V_read_16 rfl rfl (fun hc => ?_) (fun hc => ?_)
      · replace h := h.1 hc
        refine fx_iconst (n := 33) (v := (-1)) dd_V_read_32 (by decide) rfl ?_
        exact fx_iret dd_V_read_33 rfl h
      · replace h := h.2 hc
        refine fx_iload_n (n := 20) dd_V_read_19 rfl 2 rfl rfl ?_
        refine fx_aload_n (n := 21) dd_V_read_20 rfl 0 rfl rfl ?_
        obtain ⟨q4, h⟩ := h
        obtain ⟨r5, hr5, h⟩ := h
        refine fx_getP (n := 24) dd_V_read_21 fw_V_18 (by decide) rfl rfl q4.1 q4.2 hr5 ?_
        refine fx_iload_n (n := 25) dd_V_read_24 rfl 1 rfl rfl ?_
        obtain ⟨q6, h⟩ := h
        obtain ⟨q7, r8, hr8, h⟩ := h
        refine fx_aald (n := 26) dd_V_read_25 rfl q6.1 q6.2 q7 hr8 ?_
        obtain ⟨q9, h⟩ := h
        refine fx_getI (n := 29) dd_V_read_26 fw_V_123 (by decide) rfl rfl q9.1 q9.2 ?_
        refine fx_icmp_lt (n := 32) (tg := 34) dd_V_read_29 rfl rfl (fun hc => ?_) (fun hc => ?_)
        · replace h := h.1 hc
          refine fx_aload_n (n := 35) dd_V_read_34 rfl 0 rfl rfl ?_
          obtain ⟨r10, hr10, h⟩ := h
          refine fx_getP (n := 38) dd_V_read_35 fw_V_18 (by decide) rfl rfl q4.1 q4.2 hr10 ?_
          refine fx_iload_n (n := 39) dd_V_read_38 rfl 1 rfl rfl ?_
          obtain ⟨q11, h⟩ := h
          obtain ⟨q12, r13, hr13, h⟩ := h
          refine fx_aald (n := 40) dd_V_read_39 rfl q11.1 q11.2 q12 hr13 ?_
          refine fx_astore_n (n := 41) (L' := [(3, _), (0, _), (1, _), (2, _)]) dd_V_read_40 rfl (by decide) rfl rfl ?_
          refine fx_aload_n (n := 42) dd_V_read_41 rfl 0 rfl rfl ?_
          obtain ⟨q14, h⟩ := h
          refine fx_getI (n := 45) dd_V_read_42 fw_V_132 (by decide) rfl rfl q14.1 q14.2 ?_
          refine fx_iconst (n := 46) (v := 3) dd_V_read_45 (by decide) rfl ?_
          refine fx_icmp_ne (n := 49) (tg := 64) dd_V_read_46 rfl rfl (fun hc => ?_) (fun hc => ?_)
          · replace h := h.1 hc
            refine fx_aload_n (n := 65) dd_V_read_64 rfl 0 rfl rfl ?_
            obtain ⟨r15, hr15, h⟩ := h
            refine fx_getP (n := 68) dd_V_read_65 fw_V_220 (by decide) rfl rfl q14.1 q14.2 hr15 ?_
            refine fx_iload_n (n := 69) dd_V_read_68 rfl 3 rfl rfl ?_
            obtain ⟨q16, h⟩ := h
            obtain ⟨q17, h⟩ := h
            refine fx_iald (n := 70) dd_V_read_69 rfl q16.1 q16.2 q17 ?_
            exact fx_iret dd_V_read_70 rfl h
          · replace h := h.2 hc
            refine fx_aload_n (n := 50) dd_V_read_49 rfl 1 rfl rfl ?_
            obtain ⟨r18, hr18, h⟩ := h
            refine fx_getP (n := 53) dd_V_read_50 fw_V_12 (by decide) rfl rfl q4.1 q4.2 hr18 ?_
            refine fx_aload_n (n := 54) dd_V_read_53 rfl 0 rfl rfl ?_
            obtain ⟨r19, hr19, h⟩ := h
            refine fx_getP (n := 57) dd_V_read_54 fw_V_152 (by decide) rfl rfl q14.1 q14.2 hr19 ?_
            refine fx_iload_n (n := 58) dd_V_read_57 rfl 3 rfl rfl ?_
            obtain ⟨q21, h⟩ := h
            refine fx_callV (n := 61) (vs := [_, _]) dd_V_read_58 mw_D_fileByte ⟨wd_267, wd_268, wd_269⟩ rfl (by decide) q21.1 q21.2 rfl rfl ⟨Nat.le_of_ble_eq_true rfl, Nat.le_of_ble_eq_true rfl, Nat.le_of_ble_eq_true rfl, fx_nx, rfl⟩ rfl h (fx_qi_k fun x22 S20 h => ?_) (fun _ _ h => h)
            refine fx_goto (n := 70) dd_V_read_61 rfl ?_
            exact fx_iret dd_V_read_70 rfl h
        · replace h := h.2 hc
          refine fx_iconst (n := 33) (v := (-1)) dd_V_read_32 (by decide) rfl ?_
          exact fx_iret dd_V_read_33 rfl h
theorem bk_V_run_0 {G : fx_G} {S : fx_S} {Q : fx_R → fx_S → Prop} (v0 : Nat) (v1 : Int32) (v2 : Int32) (v3 : Int32) (h : fx_is S v0 4 ∧ ((fx_I S v0 4) = 0 → Q (.inl (some (.int (-1)))) S) ∧ (¬ (fx_I S v0 4) = 0 → fx_Go G (1, 13) mm_V_isFile 0 [(0, fx_r G v0), (1, .int v1)] [] S (fx_qi (fun x3 S2 => (¬ x3 = 0 → fx_is S2 v0 4 ∧ ∃ r5, fx_P S2 v0 1 = some r5 ∧ fx_is S2 r5 104 ∧ vp_in v1 (fx_ln S2 r5) ∧ ∃ r8, fx_P S2 r5 (v1.toNatClampNeg) = some r8 ∧ fx_is S2 r8 3 ∧ ∃ r10, fx_P S2 r8 7 = some r10 ∧ fx_is S2 r10 1 ∧ fx_Go G (1, 13) mm_Y_startOfRun 0 [(0, fx_r G r10), (1, .int v2)] [] S2 (fx_qi (fun x13 S11 => (¬ x13 = (-1) → (v3 = 0 → fx_is S11 r10 1 ∧ fx_Go G (1, 13) mm_Y_lengthOfRun 0 [(0, fx_r G r10), (1, .int x13)] [] S11 (fx_qi (fun x16 S14 => Q (.inl (some (.int x16))) S14) Q)) ∧ (v3 = 1 → fx_is S11 r10 1 ∧ fx_Go G (0, 0) mm_Y_placeOf 0 [(0, fx_r G r10), (1, .int x13)] [] S11 (fx_qi (fun x19 S17 => (¬ x19 = (-1) → fx_is S17 r10 1 ∧ fx_Go G (0, 0) mm_Y_placeOf 0 [(0, fx_r G r10), (1, .int x13)] [] S17 (fx_qi (fun x22 S20 => Q (.inl (some (.int x22))) S20) Q)) ∧ (x19 = (-1) → Q (.inl (some (.int (-1)))) S17)) Q)) ∧ (¬ v3 = 0 → ¬ v3 = 1 → Q (.inl (some (.int (-1)))) S11)) ∧ (x13 = (-1) → Q (.inl (some (.int (-1)))) S11)) Q)) ∧ (x3 = 0 → Q (.inl (some (.int (-1)))) S2)) Q))) :
    fx_Go G (2, 28) mm_V_run 0 [(0, fx_r G v0), (1, .int v1), (2, .int v2), (3, .int v3)] [] S Q := by
  refine fx_aload_n (n := 1) dd_V_run_0 rfl 0 rfl rfl ?_
  obtain ⟨q1, h⟩ := h
  refine fx_getI (n := 4) dd_V_run_1 fw_V_66 (by decide) rfl rfl q1.1 q1.2 ?_
  refine fx_if_eq (n := 7) (tg := 15) dd_V_run_4 rfl rfl (fun hc => ?_) (fun hc => ?_)
  · replace h := h.1 hc
    refine fx_iconst (n := 16) (v := (-1)) dd_V_run_15 (by decide) rfl ?_
    exact fx_iret dd_V_run_16 rfl h
  · replace h := h.2 hc
    refine fx_aload_n (n := 8) dd_V_run_7 rfl 0 rfl rfl ?_
    refine fx_iload_n (n := 9) dd_V_run_8 rfl 1 rfl rfl ?_
    refine fx_callV (n := 12) (vs := [_]) dd_V_run_9 mw_V_isFile ⟨wd_282, wd_284, wp_6⟩ rfl (by decide) q1.1 q1.2 rfl rfl ⟨Nat.le_of_ble_eq_true rfl, Nat.le_of_ble_eq_true rfl, Nat.le_of_ble_eq_true rfl, fx_nx, rfl⟩ rfl h (fx_qi_k fun x3 S2 h => ?_) (fun _ _ h => h)
    refine fx_if_ne (n := 15) (tg := 17) dd_V_run_12 rfl rfl (fun hc => ?_) (fun hc => ?_)
    · replace h := h.1 hc
      refine fx_aload_n (n := 18) dd_V_run_17 rfl 0 rfl rfl ?_
      obtain ⟨q4, h⟩ := h
      obtain ⟨r5, hr5, h⟩ := h
      refine fx_getP (n := 21) dd_V_run_18 fw_V_18 (by decide) rfl rfl q4.1 q4.2 hr5 ?_
      refine fx_iload_n (n := 22) dd_V_run_21 rfl 1 rfl rfl ?_
      obtain ⟨q6, h⟩ := h
      obtain ⟨q7, r8, hr8, h⟩ := h
      refine fx_aald (n := 23) dd_V_run_22 rfl q6.1 q6.2 q7 hr8 ?_
      obtain ⟨q9, h⟩ := h
      obtain ⟨r10, hr10, h⟩ := h
      refine fx_getP (n := 26) dd_V_run_23 fw_V_152 (by decide) rfl rfl q9.1 q9.2 hr10 ?_
      refine fx_astore (n := 28) (L' := [(4, _), (0, _), (1, _), (2, _), (3, _)]) dd_V_run_26 (by decide) rfl rfl ?_
      refine fx_aload (n := 30) dd_V_run_28 0 rfl rfl ?_
      refine fx_iload_n (n := 31) dd_V_run_30 rfl 3 rfl rfl ?_
      obtain ⟨q12, h⟩ := h
      refine fx_callV (n := 34) (vs := [_]) dd_V_run_31 mw_Y_startOfRun ⟨wd_286, wd_287, wd_288⟩ rfl (by decide) q12.1 q12.2 rfl rfl ⟨Nat.le_of_ble_eq_true rfl, Nat.le_of_ble_eq_true rfl, Nat.le_of_ble_eq_true rfl, fx_nx, rfl⟩ rfl h (fx_qi_k fun x13 S11 h => ?_) (fun _ _ h => h)
      refine fx_istore (n := 36) (L' := [(5, _), (4, _), (0, _), (1, _), (2, _), (3, _)]) dd_V_run_34 (by decide) rfl rfl ?_
      refine fx_iload (n := 38) dd_V_run_36 0 rfl rfl ?_
      refine fx_iconst (n := 39) (v := (-1)) dd_V_run_38 (by decide) rfl ?_
      refine fx_icmp_ne (n := 42) (tg := 44) dd_V_run_39 rfl rfl (fun hc => ?_) (fun hc => ?_)
      · replace h := h.1 hc
        refine fx_iload_n (n := 45) dd_V_run_44 rfl 5 rfl rfl ?_
        by_cases hx0 : v3 = 0
        · refine fx_lookup (n := 72) dd_V_run_45 (by decide) (by rw [hx0] <;> rfl) rfl ?_
          replace h := h.1 hx0
          refine fx_aload (n := 74) dd_V_run_72 1 rfl rfl ?_
          refine fx_iload (n := 76) dd_V_run_74 0 rfl rfl ?_
          obtain ⟨q15, h⟩ := h
          refine fx_callV (n := 79) (vs := [_]) dd_V_run_76 mw_Y_lengthOfRun ⟨wd_290, wd_291, wd_292⟩ rfl (by decide) q15.1 q15.2 rfl rfl ⟨Nat.le_of_ble_eq_true rfl, Nat.le_of_ble_eq_true rfl, Nat.le_of_ble_eq_true rfl, fx_nx, rfl⟩ rfl h (fx_qi_k fun x16 S14 h => ?_) (fun _ _ h => h)
          exact fx_iret dd_V_run_79 rfl h
        by_cases hx1 : v3 = 1
        · refine fx_lookup (n := 80) dd_V_run_45 (by decide) (by rw [hx1] <;> rfl) rfl ?_
          replace h := h.2.1 hx1
          refine fx_aload (n := 82) dd_V_run_80 1 rfl rfl ?_
          refine fx_iload (n := 84) dd_V_run_82 0 rfl rfl ?_
          obtain ⟨q18, h⟩ := h
          refine fx_callV (n := 87) (vs := [_]) dd_V_run_84 mw_Y_placeOf ⟨wd_294, wd_272, wd_273⟩ rfl (by decide) q18.1 q18.2 rfl rfl ⟨Nat.le_of_ble_eq_true rfl, Nat.le_of_ble_eq_true rfl, Nat.le_of_ble_eq_true rfl, fx_nx, rfl⟩ rfl h (fx_qi_k fun x19 S17 h => ?_) (fun _ _ h => h)
          refine fx_iconst (n := 88) (v := (-1)) dd_V_run_87 (by decide) rfl ?_
          refine fx_icmp_ne (n := 91) (tg := 95) dd_V_run_88 rfl rfl (fun hc => ?_) (fun hc => ?_)
          · replace h := h.1 hc
            refine fx_aload (n := 97) dd_V_run_95 1 rfl rfl ?_
            refine fx_iload (n := 99) dd_V_run_97 0 rfl rfl ?_
            obtain ⟨q21, h⟩ := h
            refine fx_callV (n := 102) (vs := [_]) dd_V_run_99 mw_Y_placeOf ⟨wd_294, wd_272, wd_273⟩ rfl (by decide) q21.1 q21.2 rfl rfl ⟨Nat.le_of_ble_eq_true rfl, Nat.le_of_ble_eq_true rfl, Nat.le_of_ble_eq_true rfl, fx_nx, rfl⟩ rfl h (fx_qi_k fun x22 S20 h => ?_) (fun _ _ h => h)
            exact fx_iret dd_V_run_102 rfl h
          · replace h := h.2 hc
            refine fx_iconst (n := 92) (v := (-1)) dd_V_run_91 (by decide) rfl ?_
            refine fx_goto (n := 102) dd_V_run_92 rfl ?_
            exact fx_iret dd_V_run_102 rfl h
        replace h := h.2.2 hx0 hx1
        refine fx_lookup (n := 103) dd_V_run_45 (by decide) (by rw [lv_osw hx0 (by decide), lv_osw hx1 (by decide)] <;> rfl) rfl ?_
        refine fx_iconst (n := 104) (v := (-1)) dd_V_run_103 (by decide) rfl ?_
        exact fx_iret dd_V_run_104 rfl h
      · replace h := h.2 hc
        refine fx_iconst (n := 43) (v := (-1)) dd_V_run_42 (by decide) rfl ?_
        exact fx_iret dd_V_run_43 rfl h
    · replace h := h.2 hc
      refine fx_iconst (n := 16) (v := (-1)) dd_V_run_15 (by decide) rfl ?_
      exact fx_iret dd_V_run_16 rfl h
theorem bk_V_free_0 {G : fx_G} {S : fx_S} {Q : fx_R → fx_S → Prop} (v0 : Nat) (h : fx_is S v0 4 ∧ (¬ (fx_I S v0 4) = 0 → fx_Go G (0, 0) mm_V_free 14 [(0, fx_r G v0), (1, .int 0), (2, .int 48)] [] S Q) ∧ ((fx_I S v0 4) = 0 → Q (.inl (some (.int 0))) S)) :
    fx_Go G (0, 0) mm_V_free 0 [(0, fx_r G v0)] [] S Q := by
  refine fx_aload_n (n := 1) dd_V_free_0 rfl 0 rfl rfl ?_
  obtain ⟨q1, h⟩ := h
  refine fx_getI (n := 4) dd_V_free_1 fw_V_66 (by decide) rfl rfl q1.1 q1.2 ?_
  refine fx_if_ne (n := 7) (tg := 9) dd_V_free_4 rfl rfl (fun hc => ?_) (fun hc => ?_)
  · replace h := h.1 hc
    refine fx_iconst (n := 10) (v := 0) dd_V_free_9 (by decide) rfl ?_
    refine fx_istore_n (n := 11) (L' := [(1, _), (0, _)]) dd_V_free_10 rfl (by decide) rfl rfl ?_
    refine fx_bipush (n := 13) (v := 48) dd_V_free_11 (by decide) rfl ?_
    refine fx_istore_n (n := 14) (L' := [(2, _), (1, _), (0, _)]) dd_V_free_13 rfl (by decide) rfl rfl ?_
    refine fx_sub (L' := [(0, _), (1, _), (2, _)]) [2, 1, 0] rfl ?_
    exact h
  · replace h := h.2 hc
    refine fx_iconst (n := 8) (v := 0) dd_V_free_7 (by decide) rfl ?_
    exact fx_iret dd_V_free_8 rfl h
theorem bk_V_free_14 {G : fx_G} {S : fx_S} {Q : fx_R → fx_S → Prop} (v0 : Nat) (v1 : Int32) (v2 : Int32) (h : (128 ≤ v2 → Q (.inl (some (.int v1))) S) ∧ (¬ 128 ≤ v2 → fx_is S v0 4 ∧ ∃ r2, fx_P S v0 2 = some r2 ∧ fx_is S r2 101 ∧ vp_in v2 (fx_ln S r2) ∧ (¬ (fx_I S r2 (v2.toNatClampNeg)) = 0 → fx_Go G (0, 0) mm_V_free 14 [(0, fx_r G v0), (1, .int v1), (2, .int (v2 + Int32.ofInt 1))] [] S Q) ∧ ((fx_I S r2 (v2.toNatClampNeg)) = 0 → fx_Go G (0, 0) mm_V_free 14 [(0, fx_r G v0), (1, .int (v1 + Int32.ofInt 1)), (2, .int (v2 + Int32.ofInt 1))] [] S Q))) :
    fx_Go G (0, 0) mm_V_free 14 [(0, fx_r G v0), (1, .int v1), (2, .int v2)] [] S Q := by
  refine fx_iload_n (n := 15) dd_V_free_14 rfl 2 rfl rfl ?_
  refine fx_sipush (n := 18) (v := 128) dd_V_free_15 (by decide) rfl ?_
  refine fx_icmp_ge (n := 21) (tg := 39) dd_V_free_18 rfl rfl (fun hc => ?_) (fun hc => ?_)
  · replace h := h.1 hc
    refine fx_iload_n (n := 40) dd_V_free_39 rfl 1 rfl rfl ?_
    exact fx_iret dd_V_free_40 rfl h
  · replace h := h.2 hc
    refine fx_aload_n (n := 22) dd_V_free_21 rfl 0 rfl rfl ?_
    obtain ⟨q1, h⟩ := h
    obtain ⟨r2, hr2, h⟩ := h
    refine fx_getP (n := 25) dd_V_free_22 fw_V_23 (by decide) rfl rfl q1.1 q1.2 hr2 ?_
    refine fx_iload_n (n := 26) dd_V_free_25 rfl 2 rfl rfl ?_
    obtain ⟨q3, h⟩ := h
    obtain ⟨q4, h⟩ := h
    refine fx_zald (n := 27) dd_V_free_26 rfl q3.1 q3.2 q4 ?_
    refine fx_if_ne (n := 30) (tg := 33) dd_V_free_27 rfl rfl (fun hc => ?_) (fun hc => ?_)
    · replace h := h.1 hc
      refine fx_iinc (n := 36) (L' := [(2, _), (0, _), (1, _)]) dd_V_free_33 2 rfl rfl (by decide) rfl rfl ?_
      refine fx_goto (n := 14) dd_V_free_36 rfl ?_
      refine fx_sub (L' := [(0, _), (1, _), (2, _)]) [1, 2, 0] rfl ?_
      exact h
    · replace h := h.2 hc
      refine fx_iinc (n := 33) (L' := [(1, _), (0, _), (2, _)]) dd_V_free_30 1 rfl rfl (by decide) rfl rfl ?_
      refine fx_iinc (n := 36) (L' := [(2, _), (1, _), (0, _)]) dd_V_free_33 2 rfl rfl (by decide) rfl rfl ?_
      refine fx_goto (n := 14) dd_V_free_36 rfl ?_
      refine fx_sub (L' := [(0, _), (1, _), (2, _)]) [2, 1, 0] rfl ?_
      exact h
theorem bk_V_at_0 {G : fx_G} {S : fx_S} {Q : fx_R → fx_S → Prop} (v0 : Nat) (v1 : Int32) (h : (v1 < 0 → Q (.inl (some (.int (-1)))) S) ∧ (¬ v1 < 0 → fx_is S v0 4 ∧ ∃ r2, fx_P S v0 0 = some r2 ∧ fx_is S r2 0 ∧ ∃ r4, fx_P S r2 0 = some r4 ∧ fx_is S r4 100 ∧ ((Int32.ofNat (fx_ln S r4)) ≤ v1 → Q (.inl (some (.int (-1)))) S) ∧ (¬ (Int32.ofNat (fx_ln S r4)) ≤ v1 → ∃ r6, fx_P S v0 0 = some r6 ∧ fx_is S r6 0 ∧ ∃ r8, fx_P S r6 0 = some r8 ∧ fx_is S r8 100 ∧ vp_in v1 (fx_ln S r8) ∧ Q (.inl (some (.int (fx_I S r8 (v1.toNatClampNeg))))) S))) :
    fx_Go G (0, 0) mm_V_at 0 [(0, fx_r G v0), (1, .int v1)] [] S Q := by
  refine fx_iload_n (n := 1) dd_V_at_0 rfl 1 rfl rfl ?_
  refine fx_if_lt (n := 4) (tg := 28) dd_V_at_1 rfl rfl (fun hc => ?_) (fun hc => ?_)
  · replace h := h.1 hc
    refine fx_iconst (n := 29) (v := (-1)) dd_V_at_28 (by decide) rfl ?_
    exact fx_iret dd_V_at_29 rfl h
  · replace h := h.2 hc
    refine fx_iload_n (n := 5) dd_V_at_4 rfl 1 rfl rfl ?_
    refine fx_aload_n (n := 6) dd_V_at_5 rfl 0 rfl rfl ?_
    obtain ⟨q1, h⟩ := h
    obtain ⟨r2, hr2, h⟩ := h
    refine fx_getP (n := 9) dd_V_at_6 fw_V_12 (by decide) rfl rfl q1.1 q1.2 hr2 ?_
    obtain ⟨q3, h⟩ := h
    obtain ⟨r4, hr4, h⟩ := h
    refine fx_getP (n := 12) dd_V_at_9 fw_V_232 (by decide) rfl rfl q3.1 q3.2 hr4 ?_
    obtain ⟨q5, h⟩ := h
    refine fx_alen (n := 13) dd_V_at_12 rfl q5.1 q5.2 ?_
    refine fx_icmp_ge (n := 16) (tg := 28) dd_V_at_13 rfl rfl (fun hc => ?_) (fun hc => ?_)
    · replace h := h.1 hc
      refine fx_iconst (n := 29) (v := (-1)) dd_V_at_28 (by decide) rfl ?_
      exact fx_iret dd_V_at_29 rfl h
    · replace h := h.2 hc
      refine fx_aload_n (n := 17) dd_V_at_16 rfl 0 rfl rfl ?_
      obtain ⟨r6, hr6, h⟩ := h
      refine fx_getP (n := 20) dd_V_at_17 fw_V_12 (by decide) rfl rfl q1.1 q1.2 hr6 ?_
      obtain ⟨q7, h⟩ := h
      obtain ⟨r8, hr8, h⟩ := h
      refine fx_getP (n := 23) dd_V_at_20 fw_V_232 (by decide) rfl rfl q7.1 q7.2 hr8 ?_
      refine fx_iload_n (n := 24) dd_V_at_23 rfl 1 rfl rfl ?_
      obtain ⟨q9, h⟩ := h
      obtain ⟨q10, h⟩ := h
      refine fx_iald (n := 25) dd_V_at_24 rfl q9.1 q9.2 q10 ?_
      refine fx_goto (n := 29) dd_V_at_25 rfl ?_
      exact fx_iret dd_V_at_29 rfl h
theorem bk_V_requireRunning_0 {G : fx_G} {S : fx_S} {Q : fx_R → fx_S → Prop} (v0 : Nat) (h : fx_is S v0 4 ∧ (¬ (fx_I S v0 4) = 0 → Q (.inl none) S) ∧ ((fx_I S v0 4) = 0 → fx_roomx S ∧ Q (.inr 1) (fx_exc S))) :
    fx_Go G (6, 82) mm_V_requireRunning 0 [(0, fx_r G v0)] [] S Q := by
  refine fx_aload_n (n := 1) dd_V_requireRunning_0 rfl 0 rfl rfl ?_
  obtain ⟨q1, h⟩ := h
  refine fx_getI (n := 4) dd_V_requireRunning_1 fw_V_66 (by decide) rfl rfl q1.1 q1.2 ?_
  refine fx_if_ne (n := 7) (tg := 17) dd_V_requireRunning_4 rfl rfl (fun hc => ?_) (fun hc => ?_)
  · replace h := h.1 hc
    exact fx_vret dd_V_requireRunning_17 rfl h
  · replace h := h.2 hc
    exact fx_throw (X := "java/lang/IllegalStateException") (tx := "the volume is off") (names := xw_names) rfl dd_V_requireRunning_7 dd_V_requireRunning_10 dd_V_requireRunning_11 dd_V_requireRunning_13 dd_V_requireRunning_16 xw_V_239 ⟨by decide, by decide⟩ ⟨wd_322, wd_12, wd_323⟩ ⟨wd_363, xs_237⟩ rfl (by decide) (Nat.le_of_ble_eq_true rfl) h.1 h.2
theorem bk_V_require_0 {G : fx_G} {S : fx_S} {Q : fx_R → fx_S → Prop} (v0 : Int32) (h : (¬ v0 = 0 → Q (.inl none) S) ∧ (v0 = 0 → fx_roomx S ∧ Q (.inr 2) (fx_exc S))) :
    fx_Go G (6, 82) mm_V_require 0 [(0, .int v0)] [] S Q := by
  refine fx_iload_n (n := 1) dd_V_require_0 rfl 0 rfl rfl ?_
  refine fx_if_ne (n := 4) (tg := 14) dd_V_require_1 rfl rfl (fun hc => ?_) (fun hc => ?_)
  · replace h := h.1 hc
    exact fx_vret dd_V_require_14 rfl h
  · replace h := h.2 hc
    exact fx_throw (X := "java/lang/IllegalArgumentException") (tx := "not what the call can be about") (names := xw_names) rfl dd_V_require_4 dd_V_require_7 dd_V_require_8 dd_V_require_10 dd_V_require_13 xw_V_244 ⟨by decide, by decide⟩ ⟨wd_393, wd_14, wd_394⟩ ⟨wd_402, xs_242⟩ rfl (by decide) (Nat.le_of_ble_eq_true rfl) h.1 h.2
theorem bk_V_isUsed_0 {G : fx_G} {S : fx_S} {Q : fx_R → fx_S → Prop} (v0 : Nat) (v1 : Int32) (h : (v1 < 0 → Q (.inl (some (.int 0))) S) ∧ (¬ v1 < 0 → (12 ≤ v1 → Q (.inl (some (.int 0))) S) ∧ (¬ 12 ≤ v1 → fx_is S v0 4 ∧ ∃ r2, fx_P S v0 1 = some r2 ∧ fx_is S r2 104 ∧ vp_in v1 (fx_ln S r2) ∧ ∃ r5, fx_P S r2 (v1.toNatClampNeg) = some r5 ∧ fx_is S r5 3 ∧ ((fx_I S r5 0) = 0 → Q (.inl (some (.int 0))) S) ∧ (¬ (fx_I S r5 0) = 0 → Q (.inl (some (.int 1))) S)))) :
    fx_Go G (0, 0) mm_V_isUsed 0 [(0, fx_r G v0), (1, .int v1)] [] S Q := by
  refine fx_iload_n (n := 1) dd_V_isUsed_0 rfl 1 rfl rfl ?_
  refine fx_if_lt (n := 4) (tg := 26) dd_V_isUsed_1 rfl rfl (fun hc => ?_) (fun hc => ?_)
  · replace h := h.1 hc
    refine fx_iconst (n := 27) (v := 0) dd_V_isUsed_26 (by decide) rfl ?_
    exact fx_zret dd_V_isUsed_27 rfl rfl h
  · replace h := h.2 hc
    refine fx_iload_n (n := 5) dd_V_isUsed_4 rfl 1 rfl rfl ?_
    refine fx_bipush (n := 7) (v := 12) dd_V_isUsed_5 (by decide) rfl ?_
    refine fx_icmp_ge (n := 10) (tg := 26) dd_V_isUsed_7 rfl rfl (fun hc => ?_) (fun hc => ?_)
    · replace h := h.1 hc
      refine fx_iconst (n := 27) (v := 0) dd_V_isUsed_26 (by decide) rfl ?_
      exact fx_zret dd_V_isUsed_27 rfl rfl h
    · replace h := h.2 hc
      refine fx_aload_n (n := 11) dd_V_isUsed_10 rfl 0 rfl rfl ?_
      obtain ⟨q1, h⟩ := h
      obtain ⟨r2, hr2, h⟩ := h
      refine fx_getP (n := 14) dd_V_isUsed_11 fw_V_18 (by decide) rfl rfl q1.1 q1.2 hr2 ?_
      refine fx_iload_n (n := 15) dd_V_isUsed_14 rfl 1 rfl rfl ?_
      obtain ⟨q3, h⟩ := h
      obtain ⟨q4, r5, hr5, h⟩ := h
      refine fx_aald (n := 16) dd_V_isUsed_15 rfl q3.1 q3.2 q4 hr5 ?_
      obtain ⟨q6, h⟩ := h
      refine fx_getI (n := 19) dd_V_isUsed_16 fw_V_205 (by decide) rfl rfl q6.1 q6.2 ?_
      refine fx_if_eq (n := 22) (tg := 26) dd_V_isUsed_19 rfl rfl (fun hc => ?_) (fun hc => ?_)
      · replace h := h.1 hc
        refine fx_iconst (n := 27) (v := 0) dd_V_isUsed_26 (by decide) rfl ?_
        exact fx_zret dd_V_isUsed_27 rfl rfl h
      · replace h := h.2 hc
        refine fx_iconst (n := 23) (v := 1) dd_V_isUsed_22 (by decide) rfl ?_
        refine fx_goto (n := 27) dd_V_isUsed_23 rfl ?_
        exact fx_zret dd_V_isUsed_27 rfl rfl h
theorem bk_V_isFile_0 {G : fx_G} {S : fx_S} {Q : fx_R → fx_S → Prop} (v0 : Nat) (v1 : Int32) (h : fx_is S v0 4 ∧ fx_Go G (0, 0) mm_V_isUsed 0 [(0, fx_r G v0), (1, .int v1)] [] S (fx_qi (fun x3 S1 => (x3 = 0 → Q (.inl (some (.int 0))) S1) ∧ (¬ x3 = 0 → fx_is S1 v0 4 ∧ ∃ r5, fx_P S1 v0 1 = some r5 ∧ fx_is S1 r5 104 ∧ vp_in v1 (fx_ln S1 r5) ∧ ∃ r8, fx_P S1 r5 (v1.toNatClampNeg) = some r8 ∧ fx_is S1 r8 3 ∧ (¬ (fx_I S1 r8 0) = 1 → Q (.inl (some (.int 0))) S1) ∧ ((fx_I S1 r8 0) = 1 → Q (.inl (some (.int 1))) S1))) Q)) :
    fx_Go G (1, 13) mm_V_isFile 0 [(0, fx_r G v0), (1, .int v1)] [] S Q := by
  refine fx_aload_n (n := 1) dd_V_isFile_0 rfl 0 rfl rfl ?_
  refine fx_iload_n (n := 2) dd_V_isFile_1 rfl 1 rfl rfl ?_
  obtain ⟨q2, h⟩ := h
  refine fx_callV (n := 5) (vs := [_]) dd_V_isFile_2 mw_V_isUsed ⟨wd_223, wd_225, wp_4⟩ rfl (by decide) q2.1 q2.2 rfl rfl ⟨Nat.le_of_ble_eq_true rfl, Nat.le_of_ble_eq_true rfl, Nat.le_of_ble_eq_true rfl, fx_nx, rfl⟩ rfl h (fx_qi_k fun x3 S1 h => ?_) (fun _ _ h => h)
  refine fx_if_eq (n := 8) (tg := 25) dd_V_isFile_5 rfl rfl (fun hc => ?_) (fun hc => ?_)
  · replace h := h.1 hc
    refine fx_iconst (n := 26) (v := 0) dd_V_isFile_25 (by decide) rfl ?_
    exact fx_zret dd_V_isFile_26 rfl rfl h
  · replace h := h.2 hc
    refine fx_aload_n (n := 9) dd_V_isFile_8 rfl 0 rfl rfl ?_
    obtain ⟨q4, h⟩ := h
    obtain ⟨r5, hr5, h⟩ := h
    refine fx_getP (n := 12) dd_V_isFile_9 fw_V_18 (by decide) rfl rfl q4.1 q4.2 hr5 ?_
    refine fx_iload_n (n := 13) dd_V_isFile_12 rfl 1 rfl rfl ?_
    obtain ⟨q6, h⟩ := h
    obtain ⟨q7, r8, hr8, h⟩ := h
    refine fx_aald (n := 14) dd_V_isFile_13 rfl q6.1 q6.2 q7 hr8 ?_
    obtain ⟨q9, h⟩ := h
    refine fx_getI (n := 17) dd_V_isFile_14 fw_V_205 (by decide) rfl rfl q9.1 q9.2 ?_
    refine fx_iconst (n := 18) (v := 1) dd_V_isFile_17 (by decide) rfl ?_
    refine fx_icmp_ne (n := 21) (tg := 25) dd_V_isFile_18 rfl rfl (fun hc => ?_) (fun hc => ?_)
    · replace h := h.1 hc
      refine fx_iconst (n := 26) (v := 0) dd_V_isFile_25 (by decide) rfl ?_
      exact fx_zret dd_V_isFile_26 rfl rfl h
    · replace h := h.2 hc
      refine fx_iconst (n := 22) (v := 1) dd_V_isFile_21 (by decide) rfl ?_
      refine fx_goto (n := 26) dd_V_isFile_22 rfl ?_
      exact fx_zret dd_V_isFile_26 rfl rfl h
theorem bk_V_isDirectory_0 {G : fx_G} {S : fx_S} {Q : fx_R → fx_S → Prop} (v0 : Nat) (v1 : Int32) (h : fx_is S v0 4 ∧ fx_Go G (0, 0) mm_V_isUsed 0 [(0, fx_r G v0), (1, .int v1)] [] S (fx_qi (fun x3 S1 => (x3 = 0 → Q (.inl (some (.int 0))) S1) ∧ (¬ x3 = 0 → fx_is S1 v0 4 ∧ ∃ r5, fx_P S1 v0 1 = some r5 ∧ fx_is S1 r5 104 ∧ vp_in v1 (fx_ln S1 r5) ∧ ∃ r8, fx_P S1 r5 (v1.toNatClampNeg) = some r8 ∧ fx_is S1 r8 3 ∧ (¬ (fx_I S1 r8 0) = 2 → Q (.inl (some (.int 0))) S1) ∧ ((fx_I S1 r8 0) = 2 → Q (.inl (some (.int 1))) S1))) Q)) :
    fx_Go G (1, 13) mm_V_isDirectory 0 [(0, fx_r G v0), (1, .int v1)] [] S Q := by
  refine fx_aload_n (n := 1) dd_V_isDirectory_0 rfl 0 rfl rfl ?_
  refine fx_iload_n (n := 2) dd_V_isDirectory_1 rfl 1 rfl rfl ?_
  obtain ⟨q2, h⟩ := h
  refine fx_callV (n := 5) (vs := [_]) dd_V_isDirectory_2 mw_V_isUsed ⟨wd_223, wd_225, wp_4⟩ rfl (by decide) q2.1 q2.2 rfl rfl ⟨Nat.le_of_ble_eq_true rfl, Nat.le_of_ble_eq_true rfl, Nat.le_of_ble_eq_true rfl, fx_nx, rfl⟩ rfl h (fx_qi_k fun x3 S1 h => ?_) (fun _ _ h => h)
  refine fx_if_eq (n := 8) (tg := 25) dd_V_isDirectory_5 rfl rfl (fun hc => ?_) (fun hc => ?_)
  · replace h := h.1 hc
    refine fx_iconst (n := 26) (v := 0) dd_V_isDirectory_25 (by decide) rfl ?_
    exact fx_zret dd_V_isDirectory_26 rfl rfl h
  · replace h := h.2 hc
    refine fx_aload_n (n := 9) dd_V_isDirectory_8 rfl 0 rfl rfl ?_
    obtain ⟨q4, h⟩ := h
    obtain ⟨r5, hr5, h⟩ := h
    refine fx_getP (n := 12) dd_V_isDirectory_9 fw_V_18 (by decide) rfl rfl q4.1 q4.2 hr5 ?_
    refine fx_iload_n (n := 13) dd_V_isDirectory_12 rfl 1 rfl rfl ?_
    obtain ⟨q6, h⟩ := h
    obtain ⟨q7, r8, hr8, h⟩ := h
    refine fx_aald (n := 14) dd_V_isDirectory_13 rfl q6.1 q6.2 q7 hr8 ?_
    obtain ⟨q9, h⟩ := h
    refine fx_getI (n := 17) dd_V_isDirectory_14 fw_V_205 (by decide) rfl rfl q9.1 q9.2 ?_
    refine fx_iconst (n := 18) (v := 2) dd_V_isDirectory_17 (by decide) rfl ?_
    refine fx_icmp_ne (n := 21) (tg := 25) dd_V_isDirectory_18 rfl rfl (fun hc => ?_) (fun hc => ?_)
    · replace h := h.1 hc
      refine fx_iconst (n := 26) (v := 0) dd_V_isDirectory_25 (by decide) rfl ?_
      exact fx_zret dd_V_isDirectory_26 rfl rfl h
    · replace h := h.2 hc
      refine fx_iconst (n := 22) (v := 1) dd_V_isDirectory_21 (by decide) rfl ?_
      refine fx_goto (n := 26) dd_V_isDirectory_22 rfl ?_
      exact fx_zret dd_V_isDirectory_26 rfl rfl h
theorem bk_V_lowestFreeRecord_0 {G : fx_G} {S : fx_S} {Q : fx_R → fx_S → Prop} (v0 : Nat) (h : fx_Go G (1, 13) mm_V_lowestFreeRecord 2 [(0, fx_r G v0), (1, .int 0)] [] S Q) :
    fx_Go G (1, 13) mm_V_lowestFreeRecord 0 [(0, fx_r G v0)] [] S Q := by
  refine fx_iconst (n := 1) (v := 0) dd_V_lowestFreeRecord_0 (by decide) rfl ?_
  refine fx_istore_n (n := 2) (L' := [(1, _), (0, _)]) dd_V_lowestFreeRecord_1 rfl (by decide) rfl rfl ?_
  refine fx_sub (L' := [(0, _), (1, _)]) [1, 0] rfl ?_
  exact h
theorem bk_V_lowestFreeRecord_2 {G : fx_G} {S : fx_S} {Q : fx_R → fx_S → Prop} (v0 : Nat) (v1 : Int32) (h : (12 ≤ v1 → Q (.inl (some (.int (-1)))) S) ∧ (¬ 12 ≤ v1 → fx_is S v0 4 ∧ fx_Go G (0, 0) mm_V_isUsed 0 [(0, fx_r G v0), (1, .int v1)] [] S (fx_qi (fun x3 S1 => (¬ x3 = 0 → fx_Go G (1, 13) mm_V_lowestFreeRecord 2 [(0, fx_r G v0), (1, .int (v1 + Int32.ofInt 1))] [] S1 Q) ∧ (x3 = 0 → Q (.inl (some (.int v1))) S1)) Q))) :
    fx_Go G (1, 13) mm_V_lowestFreeRecord 2 [(0, fx_r G v0), (1, .int v1)] [] S Q := by
  refine fx_iload_n (n := 3) dd_V_lowestFreeRecord_2 rfl 1 rfl rfl ?_
  refine fx_bipush (n := 5) (v := 12) dd_V_lowestFreeRecord_3 (by decide) rfl ?_
  refine fx_icmp_ge (n := 8) (tg := 24) dd_V_lowestFreeRecord_5 rfl rfl (fun hc => ?_) (fun hc => ?_)
  · replace h := h.1 hc
    refine fx_iconst (n := 25) (v := (-1)) dd_V_lowestFreeRecord_24 (by decide) rfl ?_
    exact fx_iret dd_V_lowestFreeRecord_25 rfl h
  · replace h := h.2 hc
    refine fx_aload_n (n := 9) dd_V_lowestFreeRecord_8 rfl 0 rfl rfl ?_
    refine fx_iload_n (n := 10) dd_V_lowestFreeRecord_9 rfl 1 rfl rfl ?_
    obtain ⟨q2, h⟩ := h
    refine fx_callV (n := 13) (vs := [_]) dd_V_lowestFreeRecord_10 mw_V_isUsed ⟨wd_223, wd_225, wp_4⟩ rfl (by decide) q2.1 q2.2 rfl rfl ⟨Nat.le_of_ble_eq_true rfl, Nat.le_of_ble_eq_true rfl, Nat.le_of_ble_eq_true rfl, fx_nx, rfl⟩ rfl h (fx_qi_k fun x3 S1 h => ?_) (fun _ _ h => h)
    refine fx_if_ne (n := 16) (tg := 18) dd_V_lowestFreeRecord_13 rfl rfl (fun hc => ?_) (fun hc => ?_)
    · replace h := h.1 hc
      refine fx_iinc (n := 21) (L' := [(1, _), (0, _)]) dd_V_lowestFreeRecord_18 1 rfl rfl (by decide) rfl rfl ?_
      refine fx_goto (n := 2) dd_V_lowestFreeRecord_21 rfl ?_
      refine fx_sub (L' := [(0, _), (1, _)]) [1, 0] rfl ?_
      exact h
    · replace h := h.2 hc
      refine fx_iload_n (n := 17) dd_V_lowestFreeRecord_16 rfl 1 rfl rfl ?_
      exact fx_iret dd_V_lowestFreeRecord_17 rfl h
theorem bk_V_lowestFreeCluster_0 {G : fx_G} {S : fx_S} {Q : fx_R → fx_S → Prop} (v0 : Nat) (v1 : Int32) (h : fx_Go G (0, 0) mm_V_lowestFreeCluster 2 [(0, fx_r G v0), (2, .int v1)] [] S Q) :
    fx_Go G (0, 0) mm_V_lowestFreeCluster 0 [(0, fx_r G v0), (1, .int v1)] [] S Q := by
  refine fx_iload_n (n := 1) dd_V_lowestFreeCluster_0 rfl 1 rfl rfl ?_
  refine fx_istore_n (n := 2) (L' := [(2, _), (0, _), (1, _)]) dd_V_lowestFreeCluster_1 rfl (by decide) rfl rfl ?_
  refine fx_sub (L' := [(0, _), (2, _)]) [1, 0] rfl ?_
  exact h
theorem bk_V_lowestFreeCluster_2 {G : fx_G} {S : fx_S} {Q : fx_R → fx_S → Prop} (v0 : Nat) (v2 : Int32) (h : (128 ≤ v2 → Q (.inl (some (.int (-1)))) S) ∧ (¬ 128 ≤ v2 → fx_is S v0 4 ∧ ∃ r2, fx_P S v0 2 = some r2 ∧ fx_is S r2 101 ∧ vp_in v2 (fx_ln S r2) ∧ (¬ (fx_I S r2 (v2.toNatClampNeg)) = 0 → fx_Go G (0, 0) mm_V_lowestFreeCluster 2 [(0, fx_r G v0), (2, .int (v2 + Int32.ofInt 1))] [] S Q) ∧ ((fx_I S r2 (v2.toNatClampNeg)) = 0 → Q (.inl (some (.int v2))) S))) :
    fx_Go G (0, 0) mm_V_lowestFreeCluster 2 [(0, fx_r G v0), (2, .int v2)] [] S Q := by
  refine fx_iload_n (n := 3) dd_V_lowestFreeCluster_2 rfl 1 rfl rfl ?_
  refine fx_sipush (n := 6) (v := 128) dd_V_lowestFreeCluster_3 (by decide) rfl ?_
  refine fx_icmp_ge (n := 9) (tg := 26) dd_V_lowestFreeCluster_6 rfl rfl (fun hc => ?_) (fun hc => ?_)
  · replace h := h.1 hc
    refine fx_iconst (n := 27) (v := (-1)) dd_V_lowestFreeCluster_26 (by decide) rfl ?_
    exact fx_iret dd_V_lowestFreeCluster_27 rfl h
  · replace h := h.2 hc
    refine fx_aload_n (n := 10) dd_V_lowestFreeCluster_9 rfl 0 rfl rfl ?_
    obtain ⟨q1, h⟩ := h
    obtain ⟨r2, hr2, h⟩ := h
    refine fx_getP (n := 13) dd_V_lowestFreeCluster_10 fw_V_23 (by decide) rfl rfl q1.1 q1.2 hr2 ?_
    refine fx_iload_n (n := 14) dd_V_lowestFreeCluster_13 rfl 1 rfl rfl ?_
    obtain ⟨q3, h⟩ := h
    obtain ⟨q4, h⟩ := h
    refine fx_zald (n := 15) dd_V_lowestFreeCluster_14 rfl q3.1 q3.2 q4 ?_
    refine fx_if_ne (n := 18) (tg := 20) dd_V_lowestFreeCluster_15 rfl rfl (fun hc => ?_) (fun hc => ?_)
    · replace h := h.1 hc
      refine fx_iinc (n := 23) (L' := [(2, _), (0, _)]) dd_V_lowestFreeCluster_20 1 rfl rfl (by decide) rfl rfl ?_
      refine fx_goto (n := 2) dd_V_lowestFreeCluster_23 rfl ?_
      refine fx_sub (L' := [(0, _), (2, _)]) [1, 0] rfl ?_
      exact h
    · replace h := h.2 hc
      refine fx_iload_n (n := 19) dd_V_lowestFreeCluster_18 rfl 1 rfl rfl ?_
      exact fx_iret dd_V_lowestFreeCluster_19 rfl h
theorem bk_V_isAtOrBelow_0 {G : fx_G} {S : fx_S} {Q : fx_R → fx_S → Prop} (v0 : Nat) (v1 : Int32) (v2 : Int32) (h : fx_Go G (1, 13) mm_V_isAtOrBelow 5 [(0, fx_r G v0), (2, .int v2), (3, .int v1), (4, .int 0)] [] S Q) :
    fx_Go G (1, 13) mm_V_isAtOrBelow 0 [(0, fx_r G v0), (1, .int v1), (2, .int v2)] [] S Q := by
  refine fx_iload_n (n := 1) dd_V_isAtOrBelow_0 rfl 1 rfl rfl ?_
  refine fx_istore_n (n := 2) (L' := [(3, _), (0, _), (1, _), (2, _)]) dd_V_isAtOrBelow_1 rfl (by decide) rfl rfl ?_
  refine fx_iconst (n := 3) (v := 0) dd_V_isAtOrBelow_2 (by decide) rfl ?_
  refine fx_istore (n := 5) (L' := [(4, _), (3, _), (0, _), (1, _), (2, _)]) dd_V_isAtOrBelow_3 (by decide) rfl rfl ?_
  refine fx_sub (L' := [(0, _), (2, _), (3, _), (4, _)]) [2, 4, 1, 0] rfl ?_
  exact h
theorem bk_V_isAtOrBelow_5 {G : fx_G} {S : fx_S} {Q : fx_R → fx_S → Prop} (v0 : Nat) (v2 : Int32) (v3 : Int32) (v4 : Int32) (h : (12 ≤ v4 → Q (.inl (some (.int 0))) S) ∧ (¬ 12 ≤ v4 → fx_is S v0 4 ∧ fx_Go G (0, 0) mm_V_isUsed 0 [(0, fx_r G v0), (1, .int v3)] [] S (fx_qi (fun x3 S1 => (x3 = 0 → Q (.inl (some (.int 0))) S1) ∧ (¬ x3 = 0 → (¬ v3 = v2 → fx_is S1 v0 4 ∧ ∃ r5, fx_P S1 v0 1 = some r5 ∧ fx_is S1 r5 104 ∧ vp_in v3 (fx_ln S1 r5) ∧ ∃ r8, fx_P S1 r5 (v3.toNatClampNeg) = some r8 ∧ fx_is S1 r8 3 ∧ fx_Go G (1, 13) mm_V_isAtOrBelow 5 [(0, fx_r G v0), (2, .int v2), (3, .int (fx_I S1 r8 1)), (4, .int (v4 + Int32.ofInt 1))] [] S1 Q) ∧ (v3 = v2 → Q (.inl (some (.int 1))) S1))) Q))) :
    fx_Go G (1, 13) mm_V_isAtOrBelow 5 [(0, fx_r G v0), (2, .int v2), (3, .int v3), (4, .int v4)] [] S Q := by
  refine fx_iload (n := 7) dd_V_isAtOrBelow_5 3 rfl rfl ?_
  refine fx_bipush (n := 9) (v := 12) dd_V_isAtOrBelow_7 (by decide) rfl ?_
  refine fx_icmp_ge (n := 12) (tg := 43) dd_V_isAtOrBelow_9 rfl rfl (fun hc => ?_) (fun hc => ?_)
  · replace h := h.1 hc
    refine fx_iconst (n := 44) (v := 0) dd_V_isAtOrBelow_43 (by decide) rfl ?_
    exact fx_zret dd_V_isAtOrBelow_44 rfl rfl h
  · replace h := h.2 hc
    refine fx_aload_n (n := 13) dd_V_isAtOrBelow_12 rfl 0 rfl rfl ?_
    refine fx_iload_n (n := 14) dd_V_isAtOrBelow_13 rfl 2 rfl rfl ?_
    obtain ⟨q2, h⟩ := h
    refine fx_callV (n := 17) (vs := [_]) dd_V_isAtOrBelow_14 mw_V_isUsed ⟨wd_223, wd_225, wp_4⟩ rfl (by decide) q2.1 q2.2 rfl rfl ⟨Nat.le_of_ble_eq_true rfl, Nat.le_of_ble_eq_true rfl, Nat.le_of_ble_eq_true rfl, fx_nx, rfl⟩ rfl h (fx_qi_k fun x3 S1 h => ?_) (fun _ _ h => h)
    refine fx_if_eq (n := 20) (tg := 43) dd_V_isAtOrBelow_17 rfl rfl (fun hc => ?_) (fun hc => ?_)
    · replace h := h.1 hc
      refine fx_iconst (n := 44) (v := 0) dd_V_isAtOrBelow_43 (by decide) rfl ?_
      exact fx_zret dd_V_isAtOrBelow_44 rfl rfl h
    · replace h := h.2 hc
      refine fx_iload_n (n := 21) dd_V_isAtOrBelow_20 rfl 2 rfl rfl ?_
      refine fx_iload_n (n := 22) dd_V_isAtOrBelow_21 rfl 1 rfl rfl ?_
      refine fx_icmp_ne (n := 25) (tg := 27) dd_V_isAtOrBelow_22 rfl rfl (fun hc => ?_) (fun hc => ?_)
      · replace h := h.1 hc
        refine fx_aload_n (n := 28) dd_V_isAtOrBelow_27 rfl 0 rfl rfl ?_
        obtain ⟨q4, h⟩ := h
        obtain ⟨r5, hr5, h⟩ := h
        refine fx_getP (n := 31) dd_V_isAtOrBelow_28 fw_V_18 (by decide) rfl rfl q4.1 q4.2 hr5 ?_
        refine fx_iload_n (n := 32) dd_V_isAtOrBelow_31 rfl 2 rfl rfl ?_
        obtain ⟨q6, h⟩ := h
        obtain ⟨q7, r8, hr8, h⟩ := h
        refine fx_aald (n := 33) dd_V_isAtOrBelow_32 rfl q6.1 q6.2 q7 hr8 ?_
        obtain ⟨q9, h⟩ := h
        refine fx_getI (n := 36) dd_V_isAtOrBelow_33 fw_V_173 (by decide) rfl rfl q9.1 q9.2 ?_
        refine fx_istore_n (n := 37) (L' := [(3, _), (0, _), (2, _), (4, _)]) dd_V_isAtOrBelow_36 rfl (by decide) rfl rfl ?_
        refine fx_iinc (n := 40) (L' := [(4, _), (3, _), (0, _), (2, _)]) dd_V_isAtOrBelow_37 3 rfl rfl (by decide) rfl rfl ?_
        refine fx_goto (n := 5) dd_V_isAtOrBelow_40 rfl ?_
        refine fx_sub (L' := [(0, _), (2, _), (3, _), (4, _)]) [2, 3, 1, 0] rfl ?_
        exact h
      · replace h := h.2 hc
        refine fx_iconst (n := 26) (v := 1) dd_V_isAtOrBelow_25 (by decide) rfl ?_
        exact fx_zret dd_V_isAtOrBelow_26 rfl rfl h
theorem bk_V_leadsToRoot_0 {G : fx_G} {S : fx_S} {Q : fx_R → fx_S → Prop} (v0 : Nat) (v1 : Int32) (h : fx_is S v0 4 ∧ ∃ r2, fx_P S v0 1 = some r2 ∧ fx_is S r2 104 ∧ vp_in v1 (fx_ln S r2) ∧ ∃ r5, fx_P S r2 (v1.toNatClampNeg) = some r5 ∧ fx_is S r5 3 ∧ fx_Go G (2, 26) mm_V_leadsToRoot 12 [(0, fx_r G v0), (2, .int (fx_I S r5 1)), (3, .int 0)] [] S Q) :
    fx_Go G (2, 26) mm_V_leadsToRoot 0 [(0, fx_r G v0), (1, .int v1)] [] S Q := by
  refine fx_aload_n (n := 1) dd_V_leadsToRoot_0 rfl 0 rfl rfl ?_
  obtain ⟨q1, h⟩ := h
  obtain ⟨r2, hr2, h⟩ := h
  refine fx_getP (n := 4) dd_V_leadsToRoot_1 fw_V_18 (by decide) rfl rfl q1.1 q1.2 hr2 ?_
  refine fx_iload_n (n := 5) dd_V_leadsToRoot_4 rfl 1 rfl rfl ?_
  obtain ⟨q3, h⟩ := h
  obtain ⟨q4, r5, hr5, h⟩ := h
  refine fx_aald (n := 6) dd_V_leadsToRoot_5 rfl q3.1 q3.2 q4 hr5 ?_
  obtain ⟨q6, h⟩ := h
  refine fx_getI (n := 9) dd_V_leadsToRoot_6 fw_V_173 (by decide) rfl rfl q6.1 q6.2 ?_
  refine fx_istore_n (n := 10) (L' := [(2, _), (0, _), (1, _)]) dd_V_leadsToRoot_9 rfl (by decide) rfl rfl ?_
  refine fx_iconst (n := 11) (v := 0) dd_V_leadsToRoot_10 (by decide) rfl ?_
  refine fx_istore_n (n := 12) (L' := [(3, _), (2, _), (0, _), (1, _)]) dd_V_leadsToRoot_11 rfl (by decide) rfl rfl ?_
  refine fx_sub (L' := [(0, _), (2, _), (3, _)]) [2, 1, 0] rfl ?_
  exact h
theorem bk_V_leadsToRoot_12 {G : fx_G} {S : fx_S} {Q : fx_R → fx_S → Prop} (v0 : Nat) (v2 : Int32) (v3 : Int32) (h : (12 ≤ v3 → Q (.inl (some (.int 0))) S) ∧ (¬ 12 ≤ v3 → fx_is S v0 4 ∧ fx_Go G (1, 13) mm_V_isDirectory 0 [(0, fx_r G v0), (1, .int v2)] [] S (fx_qi (fun x3 S1 => (x3 = 0 → Q (.inl (some (.int 0))) S1) ∧ (¬ x3 = 0 → (¬ v2 = 0 → fx_is S1 v0 4 ∧ ∃ r5, fx_P S1 v0 1 = some r5 ∧ fx_is S1 r5 104 ∧ vp_in v2 (fx_ln S1 r5) ∧ ∃ r8, fx_P S1 r5 (v2.toNatClampNeg) = some r8 ∧ fx_is S1 r8 3 ∧ fx_Go G (2, 26) mm_V_leadsToRoot 12 [(0, fx_r G v0), (2, .int (fx_I S1 r8 1)), (3, .int (v3 + Int32.ofInt 1))] [] S1 Q) ∧ (v2 = 0 → Q (.inl (some (.int 1))) S1))) Q))) :
    fx_Go G (2, 26) mm_V_leadsToRoot 12 [(0, fx_r G v0), (2, .int v2), (3, .int v3)] [] S Q := by
  refine fx_iload_n (n := 13) dd_V_leadsToRoot_12 rfl 2 rfl rfl ?_
  refine fx_bipush (n := 15) (v := 12) dd_V_leadsToRoot_13 (by decide) rfl ?_
  refine fx_icmp_ge (n := 18) (tg := 48) dd_V_leadsToRoot_15 rfl rfl (fun hc => ?_) (fun hc => ?_)
  · replace h := h.1 hc
    refine fx_iconst (n := 49) (v := 0) dd_V_leadsToRoot_48 (by decide) rfl ?_
    exact fx_zret dd_V_leadsToRoot_49 rfl rfl h
  · replace h := h.2 hc
    refine fx_aload_n (n := 19) dd_V_leadsToRoot_18 rfl 0 rfl rfl ?_
    refine fx_iload_n (n := 20) dd_V_leadsToRoot_19 rfl 1 rfl rfl ?_
    obtain ⟨q2, h⟩ := h
    refine fx_callV (n := 23) (vs := [_]) dd_V_leadsToRoot_20 mw_V_isDirectory ⟨wd_219, wd_221, wp_3⟩ rfl (by decide) q2.1 q2.2 rfl rfl ⟨Nat.le_of_ble_eq_true rfl, Nat.le_of_ble_eq_true rfl, Nat.le_of_ble_eq_true rfl, fx_nx, rfl⟩ rfl h (fx_qi_k fun x3 S1 h => ?_) (fun _ _ h => h)
    refine fx_if_eq (n := 26) (tg := 48) dd_V_leadsToRoot_23 rfl rfl (fun hc => ?_) (fun hc => ?_)
    · replace h := h.1 hc
      refine fx_iconst (n := 49) (v := 0) dd_V_leadsToRoot_48 (by decide) rfl ?_
      exact fx_zret dd_V_leadsToRoot_49 rfl rfl h
    · replace h := h.2 hc
      refine fx_iload_n (n := 27) dd_V_leadsToRoot_26 rfl 1 rfl rfl ?_
      refine fx_if_ne (n := 30) (tg := 32) dd_V_leadsToRoot_27 rfl rfl (fun hc => ?_) (fun hc => ?_)
      · replace h := h.1 hc
        refine fx_aload_n (n := 33) dd_V_leadsToRoot_32 rfl 0 rfl rfl ?_
        obtain ⟨q4, h⟩ := h
        obtain ⟨r5, hr5, h⟩ := h
        refine fx_getP (n := 36) dd_V_leadsToRoot_33 fw_V_18 (by decide) rfl rfl q4.1 q4.2 hr5 ?_
        refine fx_iload_n (n := 37) dd_V_leadsToRoot_36 rfl 1 rfl rfl ?_
        obtain ⟨q6, h⟩ := h
        obtain ⟨q7, r8, hr8, h⟩ := h
        refine fx_aald (n := 38) dd_V_leadsToRoot_37 rfl q6.1 q6.2 q7 hr8 ?_
        obtain ⟨q9, h⟩ := h
        refine fx_getI (n := 41) dd_V_leadsToRoot_38 fw_V_173 (by decide) rfl rfl q9.1 q9.2 ?_
        refine fx_istore_n (n := 42) (L' := [(2, _), (0, _), (3, _)]) dd_V_leadsToRoot_41 rfl (by decide) rfl rfl ?_
        refine fx_iinc (n := 45) (L' := [(3, _), (2, _), (0, _)]) dd_V_leadsToRoot_42 2 rfl rfl (by decide) rfl rfl ?_
        refine fx_goto (n := 12) dd_V_leadsToRoot_45 rfl ?_
        refine fx_sub (L' := [(0, _), (2, _), (3, _)]) [2, 1, 0] rfl ?_
        exact h
      · replace h := h.2 hc
        refine fx_iconst (n := 31) (v := 1) dd_V_leadsToRoot_30 (by decide) rfl ?_
        exact fx_zret dd_V_leadsToRoot_31 rfl rfl h
theorem bk_V_entryNamed_0 {G : fx_G} {S : fx_S} {Q : fx_R → fx_S → Prop} (v0 : Nat) (v1 : Int32) (v2 : Nat) (h : fx_is S v0 4 ∧ ∃ r2, fx_P S v0 1 = some r2 ∧ fx_is S r2 104 ∧ vp_in v1 (fx_ln S r2) ∧ ∃ r5, fx_P S r2 (v1.toNatClampNeg) = some r5 ∧ fx_Go G (2, 28) mm_V_entryNamed 10 [(0, fx_r G v0), (2, fx_r G v2), (3, fx_r G r5), (4, .int 0)] [] S Q) :
    fx_Go G (2, 28) mm_V_entryNamed 0 [(0, fx_r G v0), (1, .int v1), (2, fx_r G v2)] [] S Q := by
  refine fx_aload_n (n := 1) dd_V_entryNamed_0 rfl 0 rfl rfl ?_
  obtain ⟨q1, h⟩ := h
  obtain ⟨r2, hr2, h⟩ := h
  refine fx_getP (n := 4) dd_V_entryNamed_1 fw_V_18 (by decide) rfl rfl q1.1 q1.2 hr2 ?_
  refine fx_iload_n (n := 5) dd_V_entryNamed_4 rfl 1 rfl rfl ?_
  obtain ⟨q3, h⟩ := h
  obtain ⟨q4, r5, hr5, h⟩ := h
  refine fx_aald (n := 6) dd_V_entryNamed_5 rfl q3.1 q3.2 q4 hr5 ?_
  refine fx_astore_n (n := 7) (L' := [(3, _), (0, _), (1, _), (2, _)]) dd_V_entryNamed_6 rfl (by decide) rfl rfl ?_
  refine fx_iconst (n := 8) (v := 0) dd_V_entryNamed_7 (by decide) rfl ?_
  refine fx_istore (n := 10) (L' := [(4, _), (3, _), (0, _), (1, _), (2, _)]) dd_V_entryNamed_8 (by decide) rfl rfl ?_
  refine fx_sub (L' := [(0, _), (2, _), (3, _), (4, _)]) [2, 4, 1, 0] rfl ?_
  exact h
theorem bk_V_entryNamed_10 {G : fx_G} {S : fx_S} {Q : fx_R → fx_S → Prop} (v0 : Nat) (v2 : Nat) (v3 : Nat) (v4 : Int32) (h : fx_is S v3 3 ∧ ((fx_I S v3 4) ≤ v4 → Q (.inl (some (.int (-1)))) S) ∧ (¬ (fx_I S v3 4) ≤ v4 → fx_is S v0 4 ∧ ∃ r3, fx_P S v0 1 = some r3 ∧ ∃ r4, fx_P S v3 6 = some r4 ∧ fx_is S r4 100 ∧ vp_in v4 (fx_ln S r4) ∧ fx_is S r3 104 ∧ vp_in (fx_I S r4 (v4.toNatClampNeg)) (fx_ln S r3) ∧ ∃ r9, fx_P S r3 ((fx_I S r4 (v4.toNatClampNeg)).toNatClampNeg) = some r9 ∧ fx_is S r9 3 ∧ ∃ r11, fx_P S r9 5 = some r11 ∧ fx_is S r11 2 ∧ fx_Go G (1, 13) mm_N_compare 0 [(0, fx_r G r11), (1, fx_r G v2)] [] S (fx_qi (fun x14 S12 => (¬ x14 = 0 → fx_Go G (2, 28) mm_V_entryNamed 10 [(0, fx_r G v0), (2, fx_r G v2), (3, fx_r G v3), (4, .int (v4 + Int32.ofInt 1))] [] S12 Q) ∧ (x14 = 0 → fx_is S12 v3 3 ∧ ∃ r16, fx_P S12 v3 6 = some r16 ∧ fx_is S12 r16 100 ∧ vp_in v4 (fx_ln S12 r16) ∧ Q (.inl (some (.int (fx_I S12 r16 (v4.toNatClampNeg))))) S12)) Q))) :
    fx_Go G (2, 28) mm_V_entryNamed 10 [(0, fx_r G v0), (2, fx_r G v2), (3, fx_r G v3), (4, .int v4)] [] S Q := by
  refine fx_iload (n := 12) dd_V_entryNamed_10 3 rfl rfl ?_
  refine fx_aload_n (n := 13) dd_V_entryNamed_12 rfl 2 rfl rfl ?_
  obtain ⟨q1, h⟩ := h
  refine fx_getI (n := 16) dd_V_entryNamed_13 fw_V_123 (by decide) rfl rfl q1.1 q1.2 ?_
  refine fx_icmp_ge (n := 19) (tg := 55) dd_V_entryNamed_16 rfl rfl (fun hc => ?_) (fun hc => ?_)
  · replace h := h.1 hc
    refine fx_iconst (n := 56) (v := (-1)) dd_V_entryNamed_55 (by decide) rfl ?_
    exact fx_iret dd_V_entryNamed_56 rfl h
  · replace h := h.2 hc
    refine fx_aload_n (n := 20) dd_V_entryNamed_19 rfl 0 rfl rfl ?_
    obtain ⟨q2, h⟩ := h
    obtain ⟨r3, hr3, h⟩ := h
    refine fx_getP (n := 23) dd_V_entryNamed_20 fw_V_18 (by decide) rfl rfl q2.1 q2.2 hr3 ?_
    refine fx_aload_n (n := 24) dd_V_entryNamed_23 rfl 2 rfl rfl ?_
    obtain ⟨r4, hr4, h⟩ := h
    refine fx_getP (n := 27) dd_V_entryNamed_24 fw_V_220 (by decide) rfl rfl q1.1 q1.2 hr4 ?_
    refine fx_iload (n := 29) dd_V_entryNamed_27 3 rfl rfl ?_
    obtain ⟨q5, h⟩ := h
    obtain ⟨q6, h⟩ := h
    refine fx_iald (n := 30) dd_V_entryNamed_29 rfl q5.1 q5.2 q6 ?_
    obtain ⟨q7, h⟩ := h
    obtain ⟨q8, r9, hr9, h⟩ := h
    refine fx_aald (n := 31) dd_V_entryNamed_30 rfl q7.1 q7.2 q8 hr9 ?_
    obtain ⟨q10, h⟩ := h
    obtain ⟨r11, hr11, h⟩ := h
    refine fx_getP (n := 34) dd_V_entryNamed_31 fw_V_110 (by decide) rfl rfl q10.1 q10.2 hr11 ?_
    refine fx_aload_n (n := 35) dd_V_entryNamed_34 rfl 1 rfl rfl ?_
    obtain ⟨q13, h⟩ := h
    refine fx_callV (n := 38) (vs := [_]) dd_V_entryNamed_35 mw_N_compare ⟨wd_231, wd_232, wd_233⟩ rfl (by decide) q13.1 q13.2 rfl rfl ⟨Nat.le_of_ble_eq_true rfl, Nat.le_of_ble_eq_true rfl, Nat.le_of_ble_eq_true rfl, fx_nx, rfl⟩ rfl h (fx_qi_k fun x14 S12 h => ?_) (fun _ _ h => h)
    refine fx_if_ne (n := 41) (tg := 49) dd_V_entryNamed_38 rfl rfl (fun hc => ?_) (fun hc => ?_)
    · replace h := h.1 hc
      refine fx_iinc (n := 52) (L' := [(4, _), (0, _), (2, _), (3, _)]) dd_V_entryNamed_49 3 rfl rfl (by decide) rfl rfl ?_
      refine fx_goto (n := 10) dd_V_entryNamed_52 rfl ?_
      refine fx_sub (L' := [(0, _), (2, _), (3, _), (4, _)]) [1, 2, 3, 0] rfl ?_
      exact h
    · replace h := h.2 hc
      refine fx_aload_n (n := 42) dd_V_entryNamed_41 rfl 2 rfl rfl ?_
      obtain ⟨q15, h⟩ := h
      obtain ⟨r16, hr16, h⟩ := h
      refine fx_getP (n := 45) dd_V_entryNamed_42 fw_V_220 (by decide) rfl rfl q15.1 q15.2 hr16 ?_
      refine fx_iload (n := 47) dd_V_entryNamed_45 3 rfl rfl ?_
      obtain ⟨q17, h⟩ := h
      obtain ⟨q18, h⟩ := h
      refine fx_iald (n := 48) dd_V_entryNamed_47 rfl q17.1 q17.2 q18 ?_
      exact fx_iret dd_V_entryNamed_48 rfl h
theorem bk_V_enter_0 {G : fx_G} {S : fx_S} {Q : fx_R → fx_S → Prop} (v0 : Nat) (v1 : Int32) (v2 : Int32) (h : fx_is S v0 4 ∧ ∃ r2, fx_P S v0 1 = some r2 ∧ fx_is S r2 104 ∧ vp_in v1 (fx_ln S r2) ∧ ∃ r5, fx_P S r2 (v1.toNatClampNeg) = some r5 ∧ fx_is S r5 3 ∧ ∃ r7, fx_P S r5 6 = some r7 ∧ fx_Go G (2, 28) mm_V_insertByName 0 [(0, fx_r G v0), (1, fx_r G r7), (2, .int (fx_I S r5 4)), (3, .int v2)] [] S (fx_qi (fun x9 S8 => fx_is S8 r5 3 ∧ ∀ S11, S11 = fx_setI S8 r5 4 x9 → Q (.inl none) S11) Q)) :
    fx_Go G (3, 45) mm_V_enter 0 [(0, fx_r G v0), (1, .int v1), (2, .int v2)] [] S Q := by
  refine fx_aload_n (n := 1) dd_V_enter_0 rfl 0 rfl rfl ?_
  obtain ⟨q1, h⟩ := h
  obtain ⟨r2, hr2, h⟩ := h
  refine fx_getP (n := 4) dd_V_enter_1 fw_V_18 (by decide) rfl rfl q1.1 q1.2 hr2 ?_
  refine fx_iload_n (n := 5) dd_V_enter_4 rfl 1 rfl rfl ?_
  obtain ⟨q3, h⟩ := h
  obtain ⟨q4, r5, hr5, h⟩ := h
  refine fx_aald (n := 6) dd_V_enter_5 rfl q3.1 q3.2 q4 hr5 ?_
  refine fx_astore_n (n := 7) (L' := [(3, _), (0, _), (1, _), (2, _)]) dd_V_enter_6 rfl (by decide) rfl rfl ?_
  refine fx_aload_n (n := 8) dd_V_enter_7 rfl 0 rfl rfl ?_
  refine fx_aload_n (n := 9) dd_V_enter_8 rfl 1 rfl rfl ?_
  refine fx_aload_n (n := 10) dd_V_enter_9 rfl 0 rfl rfl ?_
  obtain ⟨q6, h⟩ := h
  obtain ⟨r7, hr7, h⟩ := h
  refine fx_getP (n := 13) dd_V_enter_10 fw_V_220 (by decide) rfl rfl q6.1 q6.2 hr7 ?_
  refine fx_aload_n (n := 14) dd_V_enter_13 rfl 0 rfl rfl ?_
  refine fx_getI (n := 17) dd_V_enter_14 fw_V_123 (by decide) rfl rfl q6.1 q6.2 ?_
  refine fx_iload_n (n := 18) dd_V_enter_17 rfl 3 rfl rfl ?_
  refine fx_callV (n := 21) (vs := [_, _, _]) dd_V_enter_18 mw_V_insertByName ⟨wd_446, wd_448, wp_13⟩ rfl (by decide) q1.1 q1.2 rfl rfl ⟨Nat.le_of_ble_eq_true rfl, Nat.le_of_ble_eq_true rfl, Nat.le_of_ble_eq_true rfl, fx_nx, rfl⟩ rfl h (fx_qi_k fun x9 S8 h => ?_) (fun _ _ h => h)
  obtain ⟨q10, h⟩ := h
  replace h := h _ rfl
  refine fx_putI (n := 24) dd_V_enter_21 fw_V_123 (by decide) rfl rfl rfl rfl q10.1 q10.2 ?_
  exact fx_vret dd_V_enter_24 rfl h
theorem bk_V_insertByName_0 {G : fx_G} {S : fx_S} {Q : fx_R → fx_S → Prop} (v0 : Nat) (v1 : Nat) (v2 : Int32) (v3 : Int32) (h : (v2 < 12 → fx_Go G (2, 28) mm_V_insertByName 11 [(0, fx_r G v0), (1, fx_r G v1), (2, .int v2), (3, .int v3), (4, .int v2)] [] S Q) ∧ (¬ v2 < 12 → Q (.inl (some (.int v2))) S)) :
    fx_Go G (2, 28) mm_V_insertByName 0 [(0, fx_r G v0), (1, fx_r G v1), (2, .int v2), (3, .int v3)] [] S Q := by
  refine fx_iload_n (n := 1) dd_V_insertByName_0 rfl 2 rfl rfl ?_
  refine fx_bipush (n := 3) (v := 12) dd_V_insertByName_1 (by decide) rfl ?_
  refine fx_icmp_lt (n := 6) (tg := 8) dd_V_insertByName_3 rfl rfl (fun hc => ?_) (fun hc => ?_)
  · replace h := h.1 hc
    refine fx_iload_n (n := 9) dd_V_insertByName_8 rfl 2 rfl rfl ?_
    refine fx_istore (n := 11) (L' := [(4, _), (0, _), (1, _), (2, _), (3, _)]) dd_V_insertByName_9 (by decide) rfl rfl ?_
    refine fx_sub (L' := [(0, _), (1, _), (2, _), (3, _), (4, _)]) [1, 2, 3, 4, 0] rfl ?_
    exact h
  · replace h := h.2 hc
    refine fx_iload_n (n := 7) dd_V_insertByName_6 rfl 2 rfl rfl ?_
    exact fx_iret dd_V_insertByName_7 rfl h
theorem bk_V_insertByName_11 {G : fx_G} {S : fx_S} {Q : fx_R → fx_S → Prop} (v0 : Nat) (v1 : Nat) (v2 : Int32) (v3 : Int32) (v4 : Int32) (h : (v4 ≤ 0 → fx_is S v1 100 ∧ vp_in v4 (fx_ln S v1) ∧ ∀ S3, S3 = fx_setI S v1 (v4.toNatClampNeg) v3 → Q (.inl (some (.int (v2 + 1)))) S3) ∧ (¬ v4 ≤ 0 → fx_is S v0 4 ∧ ∃ r5, fx_P S v0 1 = some r5 ∧ fx_is S v1 100 ∧ vp_in (v4 - 1) (fx_ln S v1) ∧ fx_is S r5 104 ∧ vp_in (fx_I S v1 ((v4 - 1).toNatClampNeg)) (fx_ln S r5) ∧ ∃ r10, fx_P S r5 ((fx_I S v1 ((v4 - 1).toNatClampNeg)).toNatClampNeg) = some r10 ∧ fx_is S r10 3 ∧ ∃ r12, fx_P S r10 5 = some r12 ∧ ∃ r13, fx_P S v0 1 = some r13 ∧ fx_is S r13 104 ∧ vp_in v3 (fx_ln S r13) ∧ ∃ r16, fx_P S r13 (v3.toNatClampNeg) = some r16 ∧ fx_is S r16 3 ∧ ∃ r18, fx_P S r16 5 = some r18 ∧ fx_is S r12 2 ∧ fx_Go G (1, 13) mm_N_compare 0 [(0, fx_r G r12), (1, fx_r G r18)] [] S (fx_qi (fun x21 S19 => (x21 ≤ 0 → fx_is S19 v1 100 ∧ vp_in v4 (fx_ln S19 v1) ∧ ∀ S24, S24 = fx_setI S19 v1 (v4.toNatClampNeg) v3 → Q (.inl (some (.int (v2 + 1)))) S24) ∧ (¬ x21 ≤ 0 → fx_is S19 v1 100 ∧ vp_in (v4 - 1) (fx_ln S19 v1) ∧ vp_in v4 (fx_ln S19 v1) ∧ ∀ S28, S28 = fx_setI S19 v1 (v4.toNatClampNeg) (fx_I S19 v1 ((v4 - 1).toNatClampNeg)) → fx_Go G (2, 28) mm_V_insertByName 11 [(0, fx_r G v0), (1, fx_r G v1), (2, .int v2), (3, .int v3), (4, .int (v4 + Int32.ofInt (-1)))] [] S28 Q)) Q))) :
    fx_Go G (2, 28) mm_V_insertByName 11 [(0, fx_r G v0), (1, fx_r G v1), (2, .int v2), (3, .int v3), (4, .int v4)] [] S Q := by
  refine fx_iload (n := 13) dd_V_insertByName_11 4 rfl rfl ?_
  refine fx_if_le (n := 16) (tg := 61) dd_V_insertByName_13 rfl rfl (fun hc => ?_) (fun hc => ?_)
  · replace h := h.1 hc
    refine fx_aload_n (n := 62) dd_V_insertByName_61 rfl 1 rfl rfl ?_
    refine fx_iload (n := 64) dd_V_insertByName_62 4 rfl rfl ?_
    refine fx_iload_n (n := 65) dd_V_insertByName_64 rfl 3 rfl rfl ?_
    obtain ⟨q1, h⟩ := h
    obtain ⟨q2, h⟩ := h
    replace h := h _ rfl
    refine fx_iast (n := 66) dd_V_insertByName_65 rfl q1.1 q1.2 q2 ?_
    refine fx_iload_n (n := 67) dd_V_insertByName_66 rfl 2 rfl rfl ?_
    refine fx_iconst (n := 68) (v := 1) dd_V_insertByName_67 (by decide) rfl ?_
    refine fx_iadd (n := 69) dd_V_insertByName_68 rfl ?_
    exact fx_iret dd_V_insertByName_69 rfl h
  · replace h := h.2 hc
    refine fx_aload_n (n := 17) dd_V_insertByName_16 rfl 0 rfl rfl ?_
    obtain ⟨q4, h⟩ := h
    obtain ⟨r5, hr5, h⟩ := h
    refine fx_getP (n := 20) dd_V_insertByName_17 fw_V_18 (by decide) rfl rfl q4.1 q4.2 hr5 ?_
    refine fx_aload_n (n := 21) dd_V_insertByName_20 rfl 1 rfl rfl ?_
    refine fx_iload (n := 23) dd_V_insertByName_21 4 rfl rfl ?_
    refine fx_iconst (n := 24) (v := 1) dd_V_insertByName_23 (by decide) rfl ?_
    refine fx_isub (n := 25) dd_V_insertByName_24 rfl ?_
    obtain ⟨q6, h⟩ := h
    obtain ⟨q7, h⟩ := h
    refine fx_iald (n := 26) dd_V_insertByName_25 rfl q6.1 q6.2 q7 ?_
    obtain ⟨q8, h⟩ := h
    obtain ⟨q9, r10, hr10, h⟩ := h
    refine fx_aald (n := 27) dd_V_insertByName_26 rfl q8.1 q8.2 q9 hr10 ?_
    obtain ⟨q11, h⟩ := h
    obtain ⟨r12, hr12, h⟩ := h
    refine fx_getP (n := 30) dd_V_insertByName_27 fw_V_110 (by decide) rfl rfl q11.1 q11.2 hr12 ?_
    refine fx_aload_n (n := 31) dd_V_insertByName_30 rfl 0 rfl rfl ?_
    obtain ⟨r13, hr13, h⟩ := h
    refine fx_getP (n := 34) dd_V_insertByName_31 fw_V_18 (by decide) rfl rfl q4.1 q4.2 hr13 ?_
    refine fx_iload_n (n := 35) dd_V_insertByName_34 rfl 3 rfl rfl ?_
    obtain ⟨q14, h⟩ := h
    obtain ⟨q15, r16, hr16, h⟩ := h
    refine fx_aald (n := 36) dd_V_insertByName_35 rfl q14.1 q14.2 q15 hr16 ?_
    obtain ⟨q17, h⟩ := h
    obtain ⟨r18, hr18, h⟩ := h
    refine fx_getP (n := 39) dd_V_insertByName_36 fw_V_110 (by decide) rfl rfl q17.1 q17.2 hr18 ?_
    obtain ⟨q20, h⟩ := h
    refine fx_callV (n := 42) (vs := [_]) dd_V_insertByName_39 mw_N_compare ⟨wd_231, wd_232, wd_233⟩ rfl (by decide) q20.1 q20.2 rfl rfl ⟨Nat.le_of_ble_eq_true rfl, Nat.le_of_ble_eq_true rfl, Nat.le_of_ble_eq_true rfl, fx_nx, rfl⟩ rfl h (fx_qi_k fun x21 S19 h => ?_) (fun _ _ h => h)
    refine fx_if_le (n := 45) (tg := 61) dd_V_insertByName_42 rfl rfl (fun hc => ?_) (fun hc => ?_)
    · replace h := h.1 hc
      refine fx_aload_n (n := 62) dd_V_insertByName_61 rfl 1 rfl rfl ?_
      refine fx_iload (n := 64) dd_V_insertByName_62 4 rfl rfl ?_
      refine fx_iload_n (n := 65) dd_V_insertByName_64 rfl 3 rfl rfl ?_
      obtain ⟨q22, h⟩ := h
      obtain ⟨q23, h⟩ := h
      replace h := h _ rfl
      refine fx_iast (n := 66) dd_V_insertByName_65 rfl q22.1 q22.2 q23 ?_
      refine fx_iload_n (n := 67) dd_V_insertByName_66 rfl 2 rfl rfl ?_
      refine fx_iconst (n := 68) (v := 1) dd_V_insertByName_67 (by decide) rfl ?_
      refine fx_iadd (n := 69) dd_V_insertByName_68 rfl ?_
      exact fx_iret dd_V_insertByName_69 rfl h
    · replace h := h.2 hc
      refine fx_aload_n (n := 46) dd_V_insertByName_45 rfl 1 rfl rfl ?_
      refine fx_iload (n := 48) dd_V_insertByName_46 4 rfl rfl ?_
      refine fx_aload_n (n := 49) dd_V_insertByName_48 rfl 1 rfl rfl ?_
      refine fx_iload (n := 51) dd_V_insertByName_49 4 rfl rfl ?_
      refine fx_iconst (n := 52) (v := 1) dd_V_insertByName_51 (by decide) rfl ?_
      refine fx_isub (n := 53) dd_V_insertByName_52 rfl ?_
      obtain ⟨q25, h⟩ := h
      obtain ⟨q26, h⟩ := h
      refine fx_iald (n := 54) dd_V_insertByName_53 rfl q25.1 q25.2 q26 ?_
      obtain ⟨q27, h⟩ := h
      replace h := h _ rfl
      refine fx_iast (n := 55) dd_V_insertByName_54 rfl q25.1 q25.2 q27 ?_
      refine fx_iinc (n := 58) (L' := [(4, _), (0, _), (1, _), (2, _), (3, _)]) dd_V_insertByName_55 4 rfl rfl (by decide) rfl rfl ?_
      refine fx_goto (n := 11) dd_V_insertByName_58 rfl ?_
      refine fx_sub (L' := [(0, _), (1, _), (2, _), (3, _), (4, _)]) [1, 2, 3, 4, 0] rfl ?_
      exact h
theorem bk_V_leave_0 {G : fx_G} {S : fx_S} {Q : fx_R → fx_S → Prop} (v0 : Nat) (v1 : Int32) (v2 : Int32) (h : fx_is S v0 4 ∧ ∃ r2, fx_P S v0 1 = some r2 ∧ fx_is S r2 104 ∧ vp_in v1 (fx_ln S r2) ∧ ∃ r5, fx_P S r2 (v1.toNatClampNeg) = some r5 ∧ fx_Go G (0, 0) mm_V_leave 13 [(2, .int v2), (3, fx_r G r5), (4, .int 0), (5, .int 0)] [] S Q) :
    fx_Go G (0, 0) mm_V_leave 0 [(0, fx_r G v0), (1, .int v1), (2, .int v2)] [] S Q := by
  refine fx_aload_n (n := 1) dd_V_leave_0 rfl 0 rfl rfl ?_
  obtain ⟨q1, h⟩ := h
  obtain ⟨r2, hr2, h⟩ := h
  refine fx_getP (n := 4) dd_V_leave_1 fw_V_18 (by decide) rfl rfl q1.1 q1.2 hr2 ?_
  refine fx_iload_n (n := 5) dd_V_leave_4 rfl 1 rfl rfl ?_
  obtain ⟨q3, h⟩ := h
  obtain ⟨q4, r5, hr5, h⟩ := h
  refine fx_aald (n := 6) dd_V_leave_5 rfl q3.1 q3.2 q4 hr5 ?_
  refine fx_astore_n (n := 7) (L' := [(3, _), (0, _), (1, _), (2, _)]) dd_V_leave_6 rfl (by decide) rfl rfl ?_
  refine fx_iconst (n := 8) (v := 0) dd_V_leave_7 (by decide) rfl ?_
  refine fx_istore (n := 10) (L' := [(4, _), (3, _), (0, _), (1, _), (2, _)]) dd_V_leave_8 (by decide) rfl rfl ?_
  refine fx_iconst (n := 11) (v := 0) dd_V_leave_10 (by decide) rfl ?_
  refine fx_istore (n := 13) (L' := [(5, _), (4, _), (3, _), (0, _), (1, _), (2, _)]) dd_V_leave_11 (by decide) rfl rfl ?_
  refine fx_sub (L' := [(2, _), (3, _), (4, _), (5, _)]) [5, 2, 1, 0] rfl ?_
  exact h
theorem bk_V_leave_13 {G : fx_G} {S : fx_S} {Q : fx_R → fx_S → Prop} (v2 : Int32) (v3 : Nat) (v4 : Int32) (v5 : Int32) (h : fx_is S v3 3 ∧ ((fx_I S v3 4) ≤ v5 → ∀ S2, S2 = fx_setI S v3 4 v4 → Q (.inl none) S2) ∧ (¬ (fx_I S v3 4) ≤ v5 → ∃ r3, fx_P S v3 6 = some r3 ∧ fx_is S r3 100 ∧ vp_in v5 (fx_ln S r3) ∧ ((fx_I S r3 (v5.toNatClampNeg)) = v2 → fx_Go G (0, 0) mm_V_leave 13 [(2, .int v2), (3, fx_r G v3), (4, .int v4), (5, .int (v5 + Int32.ofInt 1))] [] S Q) ∧ (¬ (fx_I S r3 (v5.toNatClampNeg)) = v2 → ∃ r6, fx_P S v3 6 = some r6 ∧ ∃ r7, fx_P S v3 6 = some r7 ∧ fx_is S r7 100 ∧ vp_in v5 (fx_ln S r7) ∧ fx_is S r6 100 ∧ vp_in v4 (fx_ln S r6) ∧ ∀ S12, S12 = fx_setI S r6 (v4.toNatClampNeg) (fx_I S r7 (v5.toNatClampNeg)) → fx_Go G (0, 0) mm_V_leave 13 [(2, .int v2), (3, fx_r G v3), (4, .int (v4 + Int32.ofInt 1)), (5, .int (v5 + Int32.ofInt 1))] [] S12 Q))) :
    fx_Go G (0, 0) mm_V_leave 13 [(2, .int v2), (3, fx_r G v3), (4, .int v4), (5, .int v5)] [] S Q := by
  refine fx_iload (n := 15) dd_V_leave_13 3 rfl rfl ?_
  refine fx_aload_n (n := 16) dd_V_leave_15 rfl 1 rfl rfl ?_
  obtain ⟨q1, h⟩ := h
  refine fx_getI (n := 19) dd_V_leave_16 fw_V_123 (by decide) rfl rfl q1.1 q1.2 ?_
  refine fx_icmp_ge (n := 22) (tg := 56) dd_V_leave_19 rfl rfl (fun hc => ?_) (fun hc => ?_)
  · replace h := h.1 hc
    refine fx_aload_n (n := 57) dd_V_leave_56 rfl 1 rfl rfl ?_
    refine fx_iload (n := 59) dd_V_leave_57 2 rfl rfl ?_
    replace h := h _ rfl
    refine fx_putI (n := 62) dd_V_leave_59 fw_V_123 (by decide) rfl rfl rfl rfl q1.1 q1.2 ?_
    exact fx_vret dd_V_leave_62 rfl h
  · replace h := h.2 hc
    refine fx_aload_n (n := 23) dd_V_leave_22 rfl 1 rfl rfl ?_
    obtain ⟨r3, hr3, h⟩ := h
    refine fx_getP (n := 26) dd_V_leave_23 fw_V_220 (by decide) rfl rfl q1.1 q1.2 hr3 ?_
    refine fx_iload (n := 28) dd_V_leave_26 3 rfl rfl ?_
    obtain ⟨q4, h⟩ := h
    obtain ⟨q5, h⟩ := h
    refine fx_iald (n := 29) dd_V_leave_28 rfl q4.1 q4.2 q5 ?_
    refine fx_iload_n (n := 30) dd_V_leave_29 rfl 0 rfl rfl ?_
    refine fx_icmp_eq (n := 33) (tg := 50) dd_V_leave_30 rfl rfl (fun hc => ?_) (fun hc => ?_)
    · replace h := h.1 hc
      refine fx_iinc (n := 53) (L' := [(5, _), (2, _), (3, _), (4, _)]) dd_V_leave_50 3 rfl rfl (by decide) rfl rfl ?_
      refine fx_goto (n := 13) dd_V_leave_53 rfl ?_
      refine fx_sub (L' := [(2, _), (3, _), (4, _), (5, _)]) [1, 2, 3, 0] rfl ?_
      exact h
    · replace h := h.2 hc
      refine fx_aload_n (n := 34) dd_V_leave_33 rfl 1 rfl rfl ?_
      obtain ⟨r6, hr6, h⟩ := h
      refine fx_getP (n := 37) dd_V_leave_34 fw_V_220 (by decide) rfl rfl q1.1 q1.2 hr6 ?_
      refine fx_iload (n := 39) dd_V_leave_37 2 rfl rfl ?_
      refine fx_aload_n (n := 40) dd_V_leave_39 rfl 1 rfl rfl ?_
      obtain ⟨r7, hr7, h⟩ := h
      refine fx_getP (n := 43) dd_V_leave_40 fw_V_220 (by decide) rfl rfl q1.1 q1.2 hr7 ?_
      refine fx_iload (n := 45) dd_V_leave_43 3 rfl rfl ?_
      obtain ⟨q8, h⟩ := h
      obtain ⟨q9, h⟩ := h
      refine fx_iald (n := 46) dd_V_leave_45 rfl q8.1 q8.2 q9 ?_
      obtain ⟨q10, h⟩ := h
      obtain ⟨q11, h⟩ := h
      replace h := h _ rfl
      refine fx_iast (n := 47) dd_V_leave_46 rfl q10.1 q10.2 q11 ?_
      refine fx_iinc (n := 50) (L' := [(4, _), (2, _), (3, _), (5, _)]) dd_V_leave_47 2 rfl rfl (by decide) rfl rfl ?_
      refine fx_iinc (n := 53) (L' := [(5, _), (4, _), (2, _), (3, _)]) dd_V_leave_50 3 rfl rfl (by decide) rfl rfl ?_
      refine fx_goto (n := 13) dd_V_leave_53 rfl ?_
      refine fx_sub (L' := [(2, _), (3, _), (4, _), (5, _)]) [2, 3, 1, 0] rfl ?_
      exact h
theorem bk_V_store_0 {G : fx_G} {S : fx_S} {Q : fx_R → fx_S → Prop} (v0 : Nat) (v1 : Int32) (h : fx_is S v0 4 ∧ ∃ r2, fx_P S v0 1 = some r2 ∧ fx_is S r2 104 ∧ vp_in v1 (fx_ln S r2) ∧ ∃ r5, fx_P S r2 (v1.toNatClampNeg) = some r5 ∧ fx_is S r5 3 ∧ fx_Go G (0, 0) mm_H_takeNextNumber 0 [(0, fx_r G r5)] [] S (fx_qv (fun S6 => fx_is S6 v0 4 ∧ ∃ r9, fx_P S6 v0 1 = some r9 ∧ fx_is S6 r9 104 ∧ vp_in v1 (fx_ln S6 r9) ∧ ∃ r12, fx_P S6 r9 (v1.toNatClampNeg) = some r12 ∧ ∃ r13, fx_P S6 v0 7 = some r13 ∧ fx_is S6 r12 3 ∧ fx_Go G (3, 46) mm_H_encode 0 [(0, fx_r G r12), (1, fx_r G r13)] [] S6 (fx_qv (fun S14 => fx_is S14 v0 4 ∧ fx_Go G (6, 82) mm_V_storeSector 0 [(0, fx_r G v0), (1, .int v1), (2, .int 0)] [] S14 (fx_qv (fun S16 => fx_is S16 v0 4 ∧ fx_Go G (6, 82) mm_V_storeSector 0 [(0, fx_r G v0), (1, .int v1), (2, .int 1)] [] S16 (fx_qv (fun S18 => Q (.inl none) S18) Q)) Q)) Q)) Q)) :
    fx_Go G (7, 96) mm_V_store 0 [(0, fx_r G v0), (1, .int v1)] [] S Q := by
  refine fx_aload_n (n := 1) dd_V_store_0 rfl 0 rfl rfl ?_
  obtain ⟨q1, h⟩ := h
  obtain ⟨r2, hr2, h⟩ := h
  refine fx_getP (n := 4) dd_V_store_1 fw_V_18 (by decide) rfl rfl q1.1 q1.2 hr2 ?_
  refine fx_iload_n (n := 5) dd_V_store_4 rfl 1 rfl rfl ?_
  obtain ⟨q3, h⟩ := h
  obtain ⟨q4, r5, hr5, h⟩ := h
  refine fx_aald (n := 6) dd_V_store_5 rfl q3.1 q3.2 q4 hr5 ?_
  obtain ⟨q7, h⟩ := h
  refine fx_callV (n := 9) (vs := []) dd_V_store_6 mw_H_takeNextNumber ⟨wd_124, wd_125, wd_126⟩ rfl (by decide) q7.1 q7.2 rfl rfl ⟨Nat.le_of_ble_eq_true rfl, Nat.le_of_ble_eq_true rfl, Nat.le_of_ble_eq_true rfl, fx_nx, rfl⟩ rfl h (fx_qv_k fun S6 h => ?_) (fun _ _ h => h)
  refine fx_aload_n (n := 10) dd_V_store_9 rfl 0 rfl rfl ?_
  obtain ⟨q8, h⟩ := h
  obtain ⟨r9, hr9, h⟩ := h
  refine fx_getP (n := 13) dd_V_store_10 fw_V_18 (by decide) rfl rfl q8.1 q8.2 hr9 ?_
  refine fx_iload_n (n := 14) dd_V_store_13 rfl 1 rfl rfl ?_
  obtain ⟨q10, h⟩ := h
  obtain ⟨q11, r12, hr12, h⟩ := h
  refine fx_aald (n := 15) dd_V_store_14 rfl q10.1 q10.2 q11 hr12 ?_
  refine fx_aload_n (n := 16) dd_V_store_15 rfl 0 rfl rfl ?_
  obtain ⟨r13, hr13, h⟩ := h
  refine fx_getP (n := 19) dd_V_store_16 fw_V_44 (by decide) rfl rfl q8.1 q8.2 hr13 ?_
  obtain ⟨q15, h⟩ := h
  refine fx_callV (n := 22) (vs := [_]) dd_V_store_19 mw_H_encode ⟨wd_129, wd_130, wd_131⟩ rfl (by decide) q15.1 q15.2 rfl rfl ⟨Nat.le_of_ble_eq_true rfl, Nat.le_of_ble_eq_true rfl, Nat.le_of_ble_eq_true rfl, fx_nx, rfl⟩ rfl h (fx_qv_k fun S14 h => ?_) (fun _ _ h => h)
  refine fx_aload_n (n := 23) dd_V_store_22 rfl 0 rfl rfl ?_
  refine fx_iload_n (n := 24) dd_V_store_23 rfl 1 rfl rfl ?_
  refine fx_iconst (n := 25) (v := 0) dd_V_store_24 (by decide) rfl ?_
  obtain ⟨q17, h⟩ := h
  refine fx_callV (n := 28) (vs := [_, _]) dd_V_store_25 mw_V_storeSector ⟨wd_433, wd_435, wp_11⟩ rfl (by decide) q17.1 q17.2 rfl rfl ⟨Nat.le_of_ble_eq_true rfl, Nat.le_of_ble_eq_true rfl, Nat.le_of_ble_eq_true rfl, fx_nx, rfl⟩ rfl h (fx_qv_k fun S16 h => ?_) (fun _ _ h => h)
  refine fx_aload_n (n := 29) dd_V_store_28 rfl 0 rfl rfl ?_
  refine fx_iload_n (n := 30) dd_V_store_29 rfl 1 rfl rfl ?_
  refine fx_iconst (n := 31) (v := 1) dd_V_store_30 (by decide) rfl ?_
  obtain ⟨q19, h⟩ := h
  refine fx_callV (n := 34) (vs := [_, _]) dd_V_store_31 mw_V_storeSector ⟨wd_433, wd_435, wp_11⟩ rfl (by decide) q19.1 q19.2 rfl rfl ⟨Nat.le_of_ble_eq_true rfl, Nat.le_of_ble_eq_true rfl, Nat.le_of_ble_eq_true rfl, fx_nx, rfl⟩ rfl h (fx_qv_k fun S18 h => ?_) (fun _ _ h => h)
  exact fx_vret dd_V_store_34 rfl h
theorem bk_V_storeSector_0 {G : fx_G} {S : fx_S} {Q : fx_R → fx_S → Prop} (v0 : Nat) (v1 : Int32) (v2 : Int32) (h : fx_is S v0 4 ∧ ∃ r2, fx_P S v0 0 = some r2 ∧ fx_is S r2 0 ∧ fx_Go G (0, 0) mm_D_isCutNow 0 [(0, fx_r G r2)] [] S (fx_qi (fun x5 S3 => (x5 = 0 → fx_is S3 v0 4 ∧ ∃ r7, fx_P S3 v0 0 = some r7 ∧ ∃ r8, fx_P S3 v0 7 = some r8 ∧ fx_is S3 r7 0 ∧ fx_Go G (1, 18) mm_D_laySector 0 [(0, fx_r G r7), (1, .int v1), (2, .int v2), (3, fx_r G r8)] [] S3 (fx_qv (fun S9 => Q (.inl none) S9) Q)) ∧ (¬ x5 = 0 → fx_is S3 v0 4 ∧ ∀ S12, S12 = fx_setI S3 v0 4 0 → fx_roomx S12 ∧ Q (.inr 1) (fx_exc S12))) Q)) :
    fx_Go G (6, 82) mm_V_storeSector 0 [(0, fx_r G v0), (1, .int v1), (2, .int v2)] [] S Q := by
  refine fx_aload_n (n := 1) dd_V_storeSector_0 rfl 0 rfl rfl ?_
  obtain ⟨q1, h⟩ := h
  obtain ⟨r2, hr2, h⟩ := h
  refine fx_getP (n := 4) dd_V_storeSector_1 fw_V_12 (by decide) rfl rfl q1.1 q1.2 hr2 ?_
  obtain ⟨q4, h⟩ := h
  refine fx_callV (n := 7) (vs := []) dd_V_storeSector_4 mw_D_isCutNow ⟨wd_437, wd_438, wd_439⟩ rfl (by decide) q4.1 q4.2 rfl rfl ⟨Nat.le_of_ble_eq_true rfl, Nat.le_of_ble_eq_true rfl, Nat.le_of_ble_eq_true rfl, fx_nx, rfl⟩ rfl h (fx_qi_k fun x5 S3 h => ?_) (fun _ _ h => h)
  refine fx_if_eq (n := 10) (tg := 26) dd_V_storeSector_7 rfl rfl (fun hc => ?_) (fun hc => ?_)
  · replace h := h.1 hc
    refine fx_aload_n (n := 27) dd_V_storeSector_26 rfl 0 rfl rfl ?_
    obtain ⟨q6, h⟩ := h
    obtain ⟨r7, hr7, h⟩ := h
    refine fx_getP (n := 30) dd_V_storeSector_27 fw_V_12 (by decide) rfl rfl q6.1 q6.2 hr7 ?_
    refine fx_iload_n (n := 31) dd_V_storeSector_30 rfl 1 rfl rfl ?_
    refine fx_iload_n (n := 32) dd_V_storeSector_31 rfl 2 rfl rfl ?_
    refine fx_aload_n (n := 33) dd_V_storeSector_32 rfl 0 rfl rfl ?_
    obtain ⟨r8, hr8, h⟩ := h
    refine fx_getP (n := 36) dd_V_storeSector_33 fw_V_44 (by decide) rfl rfl q6.1 q6.2 hr8 ?_
    obtain ⟨q10, h⟩ := h
    refine fx_callV (n := 39) (vs := [_, _, _]) dd_V_storeSector_36 mw_D_laySector ⟨wd_165, wd_166, wd_167⟩ rfl (by decide) q10.1 q10.2 rfl rfl ⟨Nat.le_of_ble_eq_true rfl, Nat.le_of_ble_eq_true rfl, Nat.le_of_ble_eq_true rfl, fx_nx, rfl⟩ rfl h (fx_qv_k fun S9 h => ?_) (fun _ _ h => h)
    exact fx_vret dd_V_storeSector_39 rfl h
  · replace h := h.2 hc
    refine fx_aload_n (n := 11) dd_V_storeSector_10 rfl 0 rfl rfl ?_
    refine fx_iconst (n := 12) (v := 0) dd_V_storeSector_11 (by decide) rfl ?_
    obtain ⟨q11, h⟩ := h
    replace h := h _ rfl
    refine fx_putI (n := 15) dd_V_storeSector_12 fw_V_66 (by decide) rfl rfl rfl rfl q11.1 q11.2 ?_
    exact fx_throwW (X := "java/lang/IllegalStateException") (tx := "the volume goes off") (names := xw_names) rfl dd_V_storeSector_15 dd_V_storeSector_18 dd_V_storeSector_19 dd_V_storeSector_22 dd_V_storeSector_25 xw_V_239 ⟨by decide, by decide⟩ ⟨wd_322, wd_12, wd_323⟩ ⟨wd_441, xs_260⟩ rfl (by decide) (Nat.le_of_ble_eq_true rfl) h.1 h.2
theorem bk_V_makePlan_0 {G : fx_G} {S : fx_S} {Q : fx_R → fx_S → Prop} (v0 : Nat) (v1 : Nat) (v2 : Int32) (v3 : Int32) (v4 : Int32) (h : fx_is S v0 4 ∧ ∃ r2, fx_P S v0 6 = some r2 ∧ fx_is S r2 1 ∧ ∀ S4, S4 = fx_setI S r2 1 0 → fx_Go G (2, 29) mm_V_makePlan 15 [(0, fx_r G v0), (1, fx_r G v1), (2, .int v2), (3, .int v3), (4, .int v4), (5, .int 48), (6, .int 0)] [] S4 Q) :
    fx_Go G (2, 29) mm_V_makePlan 0 [(0, fx_r G v0), (1, fx_r G v1), (2, .int v2), (3, .int v3), (4, .int v4)] [] S Q := by
  refine fx_bipush (n := 2) (v := 48) dd_V_makePlan_0 (by decide) rfl ?_
  refine fx_istore (n := 4) (L' := [(5, _), (0, _), (1, _), (2, _), (3, _), (4, _)]) dd_V_makePlan_2 (by decide) rfl rfl ?_
  refine fx_aload_n (n := 5) dd_V_makePlan_4 rfl 1 rfl rfl ?_
  obtain ⟨q1, h⟩ := h
  obtain ⟨r2, hr2, h⟩ := h
  refine fx_getP (n := 8) dd_V_makePlan_5 fw_V_40 (by decide) rfl rfl q1.1 q1.2 hr2 ?_
  refine fx_iconst (n := 9) (v := 0) dd_V_makePlan_8 (by decide) rfl ?_
  obtain ⟨q3, h⟩ := h
  replace h := h _ rfl
  refine fx_putI (n := 12) dd_V_makePlan_9 fw_V_262 (by decide) rfl rfl rfl rfl q3.1 q3.2 ?_
  refine fx_iconst (n := 13) (v := 0) dd_V_makePlan_12 (by decide) rfl ?_
  refine fx_istore (n := 15) (L' := [(6, _), (5, _), (0, _), (1, _), (2, _), (3, _), (4, _)]) dd_V_makePlan_13 (by decide) rfl rfl ?_
  refine fx_sub (L' := [(0, _), (1, _), (2, _), (3, _), (4, _), (5, _), (6, _)]) [2, 3, 4, 5, 6, 1, 0] rfl ?_
  exact h
theorem bk_V_makePlan_15 {G : fx_G} {S : fx_S} {Q : fx_R → fx_S → Prop} (v0 : Nat) (v1 : Nat) (v2 : Int32) (v3 : Int32) (v4 : Int32) (v5 : Int32) (v6 : Int32) (h : fx_Go G (0, 0) mm_V_clustersFor 0 [(0, .int v4)] [] S (fx_qi (fun x2 S1 => (x2 ≤ v6 → fx_is S1 v1 3 ∧ fx_Go G (0, 0) mm_H_nameBytes 0 [(0, fx_r G v1)] [] S1 (fx_qi (fun x5 S3 => fx_is S3 v0 4 ∧ ∃ r7, fx_P S3 v0 6 = some r7 ∧ fx_is S3 r7 1 ∧ fx_Go G (1, 13) mm_Y_attributeBytes 0 [(0, fx_r G r7)] [] S3 (fx_qi (fun x10 S8 => (54 < (x5 + x10) → Q (.inl (some (.int 0))) S8) ∧ (¬ 54 < (x5 + x10) → Q (.inl (some (.int 1))) S8)) Q)) Q)) ∧ (¬ x2 ≤ v6 → fx_is S1 v1 3 ∧ ∃ r12, fx_P S1 v1 7 = some r12 ∧ fx_is S1 r12 1 ∧ fx_Go G (0, 0) mm_Y_placeOf 0 [(0, fx_r G r12), (1, .int v6)] [] S1 (fx_qi (fun x15 S13 => (¬ x15 = (-1) → fx_is S13 v0 4 ∧ ∃ r17, fx_P S13 v0 6 = some r17 ∧ fx_is S13 r17 1 ∧ fx_Go G (0, 0) mm_Y_append 0 [(0, fx_r G r17), (1, .int x15), (2, .int 1)] [] S13 (fx_qv (fun S18 => fx_Go G (2, 29) mm_V_makePlan 15 [(0, fx_r G v0), (1, fx_r G v1), (2, .int v2), (3, .int v3), (4, .int v4), (5, .int v5), (6, .int (v6 + Int32.ofInt 1))] [] S18 Q) Q)) ∧ (x15 = (-1) → fx_Go G (1, 13) mm_V_needsCluster 0 [(0, fx_r G v1), (1, .int v6), (2, .int v2), (3, .int v3)] [] S13 (fx_qi (fun x21 S20 => (x21 = 0 → fx_is S20 v0 4 ∧ ∃ r23, fx_P S20 v0 6 = some r23 ∧ fx_is S20 r23 1 ∧ fx_Go G (0, 0) mm_Y_append 0 [(0, fx_r G r23), (1, .int x15), (2, .int 1)] [] S20 (fx_qv (fun S24 => fx_Go G (2, 29) mm_V_makePlan 15 [(0, fx_r G v0), (1, fx_r G v1), (2, .int v2), (3, .int v3), (4, .int v4), (5, .int v5), (6, .int (v6 + Int32.ofInt 1))] [] S24 Q) Q)) ∧ (¬ x21 = 0 → fx_is S20 v0 4 ∧ fx_Go G (0, 0) mm_V_lowestFreeCluster 0 [(0, fx_r G v0), (1, .int v5)] [] S20 (fx_qi (fun x28 S26 => (¬ x28 = (-1) → fx_is S26 v0 4 ∧ ∃ r30, fx_P S26 v0 6 = some r30 ∧ fx_is S26 r30 1 ∧ fx_Go G (0, 0) mm_Y_append 0 [(0, fx_r G r30), (1, .int x28), (2, .int 1)] [] S26 (fx_qv (fun S31 => fx_Go G (2, 29) mm_V_makePlan 15 [(0, fx_r G v0), (1, fx_r G v1), (2, .int v2), (3, .int v3), (4, .int v4), (5, .int (x28 + 1)), (6, .int (v6 + Int32.ofInt 1))] [] S31 Q) Q)) ∧ (x28 = (-1) → Q (.inl (some (.int 0))) S26)) Q))) Q))) Q))) Q)) :
    fx_Go G (2, 29) mm_V_makePlan 15 [(0, fx_r G v0), (1, fx_r G v1), (2, .int v2), (3, .int v3), (4, .int v4), (5, .int v5), (6, .int v6)] [] S Q := by
  refine fx_iload (n := 17) dd_V_makePlan_15 6 rfl rfl ?_
  refine fx_iload (n := 19) dd_V_makePlan_17 4 rfl rfl ?_
  refine fx_callS (n := 22) (vs := [_]) dd_V_makePlan_19 mw_V_clustersFor ⟨wd_472, wd_473, wd_1⟩ rfl rfl ⟨Nat.le_of_ble_eq_true rfl, Nat.le_of_ble_eq_true rfl, Nat.le_of_ble_eq_true rfl, fx_nx, rfl⟩ rfl h (fx_qi_k fun x2 S1 h => ?_) (fun _ _ h => h)
  refine fx_icmp_ge (n := 25) (tg := 91) dd_V_makePlan_22 rfl rfl (fun hc => ?_) (fun hc => ?_)
  · replace h := h.1 hc
    refine fx_aload_n (n := 92) dd_V_makePlan_91 rfl 1 rfl rfl ?_
    obtain ⟨q4, h⟩ := h
    refine fx_callV (n := 95) (vs := []) dd_V_makePlan_92 mw_H_nameBytes ⟨wd_486, wd_248, wd_249⟩ rfl (by decide) q4.1 q4.2 rfl rfl ⟨Nat.le_of_ble_eq_true rfl, Nat.le_of_ble_eq_true rfl, Nat.le_of_ble_eq_true rfl, fx_nx, rfl⟩ rfl h (fx_qi_k fun x5 S3 h => ?_) (fun _ _ h => h)
    refine fx_aload_n (n := 96) dd_V_makePlan_95 rfl 0 rfl rfl ?_
    obtain ⟨q6, h⟩ := h
    obtain ⟨r7, hr7, h⟩ := h
    refine fx_getP (n := 99) dd_V_makePlan_96 fw_V_40 (by decide) rfl rfl q6.1 q6.2 hr7 ?_
    obtain ⟨q9, h⟩ := h
    refine fx_callV (n := 102) (vs := []) dd_V_makePlan_99 mw_Y_attributeBytes ⟨wd_487, wd_256, wd_257⟩ rfl (by decide) q9.1 q9.2 rfl rfl ⟨Nat.le_of_ble_eq_true rfl, Nat.le_of_ble_eq_true rfl, Nat.le_of_ble_eq_true rfl, fx_nx, rfl⟩ rfl h (fx_qi_k fun x10 S8 h => ?_) (fun _ _ h => h)
    refine fx_iadd (n := 103) dd_V_makePlan_102 rfl ?_
    refine fx_bipush (n := 105) (v := 54) dd_V_makePlan_103 (by decide) rfl ?_
    refine fx_icmp_gt (n := 108) (tg := 112) dd_V_makePlan_105 rfl rfl (fun hc => ?_) (fun hc => ?_)
    · replace h := h.1 hc
      refine fx_iconst (n := 113) (v := 0) dd_V_makePlan_112 (by decide) rfl ?_
      exact fx_zret dd_V_makePlan_113 rfl rfl h
    · replace h := h.2 hc
      refine fx_iconst (n := 109) (v := 1) dd_V_makePlan_108 (by decide) rfl ?_
      refine fx_goto (n := 113) dd_V_makePlan_109 rfl ?_
      exact fx_zret dd_V_makePlan_113 rfl rfl h
  · replace h := h.2 hc
    refine fx_aload_n (n := 26) dd_V_makePlan_25 rfl 1 rfl rfl ?_
    obtain ⟨q11, h⟩ := h
    obtain ⟨r12, hr12, h⟩ := h
    refine fx_getP (n := 29) dd_V_makePlan_26 fw_V_152 (by decide) rfl rfl q11.1 q11.2 hr12 ?_
    refine fx_iload (n := 31) dd_V_makePlan_29 6 rfl rfl ?_
    obtain ⟨q14, h⟩ := h
    refine fx_callV (n := 34) (vs := [_]) dd_V_makePlan_31 mw_Y_placeOf ⟨wd_294, wd_272, wd_273⟩ rfl (by decide) q14.1 q14.2 rfl rfl ⟨Nat.le_of_ble_eq_true rfl, Nat.le_of_ble_eq_true rfl, Nat.le_of_ble_eq_true rfl, fx_nx, rfl⟩ rfl h (fx_qi_k fun x15 S13 h => ?_) (fun _ _ h => h)
    refine fx_istore (n := 36) (L' := [(7, _), (0, _), (1, _), (2, _), (3, _), (4, _), (5, _), (6, _)]) dd_V_makePlan_34 (by decide) rfl rfl ?_
    refine fx_iload (n := 38) dd_V_makePlan_36 0 rfl rfl ?_
    refine fx_iconst (n := 39) (v := (-1)) dd_V_makePlan_38 (by decide) rfl ?_
    refine fx_icmp_ne (n := 42) (tg := 75) dd_V_makePlan_39 rfl rfl (fun hc => ?_) (fun hc => ?_)
    · replace h := h.1 hc
      refine fx_aload_n (n := 76) dd_V_makePlan_75 rfl 1 rfl rfl ?_
      obtain ⟨q16, h⟩ := h
      obtain ⟨r17, hr17, h⟩ := h
      refine fx_getP (n := 79) dd_V_makePlan_76 fw_V_40 (by decide) rfl rfl q16.1 q16.2 hr17 ?_
      refine fx_iload (n := 81) dd_V_makePlan_79 0 rfl rfl ?_
      refine fx_iconst (n := 82) (v := 1) dd_V_makePlan_81 (by decide) rfl ?_
      obtain ⟨q19, h⟩ := h
      refine fx_callV (n := 85) (vs := [_, _]) dd_V_makePlan_82 mw_Y_append ⟨wd_482, wd_483, wd_484⟩ rfl (by decide) q19.1 q19.2 rfl rfl ⟨Nat.le_of_ble_eq_true rfl, Nat.le_of_ble_eq_true rfl, Nat.le_of_ble_eq_true rfl, fx_nx, rfl⟩ rfl h (fx_qv_k fun S18 h => ?_) (fun _ _ h => h)
      refine fx_iinc (n := 88) (L' := [(6, _), (7, _), (0, _), (1, _), (2, _), (3, _), (4, _), (5, _)]) dd_V_makePlan_85 7 rfl rfl (by decide) rfl rfl ?_
      refine fx_goto (n := 15) dd_V_makePlan_88 rfl ?_
      refine fx_sub (L' := [(0, _), (1, _), (2, _), (3, _), (4, _), (5, _), (6, _)]) [2, 3, 4, 5, 6, 7, 0] rfl ?_
      exact h
    · replace h := h.2 hc
      refine fx_aload_n (n := 43) dd_V_makePlan_42 rfl 2 rfl rfl ?_
      refine fx_iload (n := 45) dd_V_makePlan_43 7 rfl rfl ?_
      refine fx_iload_n (n := 46) dd_V_makePlan_45 rfl 3 rfl rfl ?_
      refine fx_iload_n (n := 47) dd_V_makePlan_46 rfl 4 rfl rfl ?_
      refine fx_callS (n := 50) (vs := [_, _, _, _]) dd_V_makePlan_47 mw_V_needsCluster ⟨wd_475, wd_476, wd_1⟩ rfl rfl ⟨Nat.le_of_ble_eq_true rfl, Nat.le_of_ble_eq_true rfl, Nat.le_of_ble_eq_true rfl, fx_nx, rfl⟩ rfl h (fx_qi_k fun x21 S20 h => ?_) (fun _ _ h => h)
      refine fx_if_eq (n := 53) (tg := 75) dd_V_makePlan_50 rfl rfl (fun hc => ?_) (fun hc => ?_)
      · replace h := h.1 hc
        refine fx_aload_n (n := 76) dd_V_makePlan_75 rfl 1 rfl rfl ?_
        obtain ⟨q22, h⟩ := h
        obtain ⟨r23, hr23, h⟩ := h
        refine fx_getP (n := 79) dd_V_makePlan_76 fw_V_40 (by decide) rfl rfl q22.1 q22.2 hr23 ?_
        refine fx_iload (n := 81) dd_V_makePlan_79 0 rfl rfl ?_
        refine fx_iconst (n := 82) (v := 1) dd_V_makePlan_81 (by decide) rfl ?_
        obtain ⟨q25, h⟩ := h
        refine fx_callV (n := 85) (vs := [_, _]) dd_V_makePlan_82 mw_Y_append ⟨wd_482, wd_483, wd_484⟩ rfl (by decide) q25.1 q25.2 rfl rfl ⟨Nat.le_of_ble_eq_true rfl, Nat.le_of_ble_eq_true rfl, Nat.le_of_ble_eq_true rfl, fx_nx, rfl⟩ rfl h (fx_qv_k fun S24 h => ?_) (fun _ _ h => h)
        refine fx_iinc (n := 88) (L' := [(6, _), (7, _), (0, _), (1, _), (2, _), (3, _), (4, _), (5, _)]) dd_V_makePlan_85 7 rfl rfl (by decide) rfl rfl ?_
        refine fx_goto (n := 15) dd_V_makePlan_88 rfl ?_
        refine fx_sub (L' := [(0, _), (1, _), (2, _), (3, _), (4, _), (5, _), (6, _)]) [2, 3, 4, 5, 6, 7, 0] rfl ?_
        exact h
      · replace h := h.2 hc
        refine fx_aload_n (n := 54) dd_V_makePlan_53 rfl 1 rfl rfl ?_
        refine fx_iload (n := 56) dd_V_makePlan_54 6 rfl rfl ?_
        obtain ⟨q27, h⟩ := h
        refine fx_callV (n := 59) (vs := [_]) dd_V_makePlan_56 mw_V_lowestFreeCluster ⟨wd_478, wd_480, wp_15⟩ rfl (by decide) q27.1 q27.2 rfl rfl ⟨Nat.le_of_ble_eq_true rfl, Nat.le_of_ble_eq_true rfl, Nat.le_of_ble_eq_true rfl, fx_nx, rfl⟩ rfl h (fx_qi_k fun x28 S26 h => ?_) (fun _ _ h => h)
        refine fx_istore (n := 61) (L' := [(7, _), (0, _), (1, _), (2, _), (3, _), (4, _), (5, _), (6, _)]) dd_V_makePlan_59 (by decide) rfl rfl ?_
        refine fx_iload (n := 63) dd_V_makePlan_61 0 rfl rfl ?_
        refine fx_iconst (n := 64) (v := (-1)) dd_V_makePlan_63 (by decide) rfl ?_
        refine fx_icmp_ne (n := 67) (tg := 69) dd_V_makePlan_64 rfl rfl (fun hc => ?_) (fun hc => ?_)
        · replace h := h.1 hc
          refine fx_iload (n := 71) dd_V_makePlan_69 0 rfl rfl ?_
          refine fx_iconst (n := 72) (v := 1) dd_V_makePlan_71 (by decide) rfl ?_
          refine fx_iadd (n := 73) dd_V_makePlan_72 rfl ?_
          refine fx_istore (n := 75) (L' := [(5, _), (7, _), (0, _), (1, _), (2, _), (3, _), (4, _), (6, _)]) dd_V_makePlan_73 (by decide) rfl rfl ?_
          refine fx_aload_n (n := 76) dd_V_makePlan_75 rfl 2 rfl rfl ?_
          obtain ⟨q29, h⟩ := h
          obtain ⟨r30, hr30, h⟩ := h
          refine fx_getP (n := 79) dd_V_makePlan_76 fw_V_40 (by decide) rfl rfl q29.1 q29.2 hr30 ?_
          refine fx_iload (n := 81) dd_V_makePlan_79 1 rfl rfl ?_
          refine fx_iconst (n := 82) (v := 1) dd_V_makePlan_81 (by decide) rfl ?_
          obtain ⟨q32, h⟩ := h
          refine fx_callV (n := 85) (vs := [_, _]) dd_V_makePlan_82 mw_Y_append ⟨wd_482, wd_483, wd_484⟩ rfl (by decide) q32.1 q32.2 rfl rfl ⟨Nat.le_of_ble_eq_true rfl, Nat.le_of_ble_eq_true rfl, Nat.le_of_ble_eq_true rfl, fx_nx, rfl⟩ rfl h (fx_qv_k fun S31 h => ?_) (fun _ _ h => h)
          refine fx_iinc (n := 88) (L' := [(6, _), (5, _), (7, _), (0, _), (1, _), (2, _), (3, _), (4, _)]) dd_V_makePlan_85 7 rfl rfl (by decide) rfl rfl ?_
          refine fx_goto (n := 15) dd_V_makePlan_88 rfl ?_
          refine fx_sub (L' := [(0, _), (1, _), (2, _), (3, _), (4, _), (5, _), (6, _)]) [3, 4, 5, 6, 7, 1, 0] rfl ?_
          exact h
        · replace h := h.2 hc
          refine fx_iconst (n := 68) (v := 0) dd_V_makePlan_67 (by decide) rfl ?_
          exact fx_zret dd_V_makePlan_68 rfl rfl h
theorem bk_V_needsCluster_0 {G : fx_G} {S : fx_S} {Q : fx_R → fx_S → Prop} (v0 : Nat) (v1 : Int32) (v2 : Int32) (v3 : Int32) (h : (v1 < (v2 / 16) → fx_Go G (1, 13) mm_V_needsCluster 25 [(0, fx_r G v0), (1, .int v1)] [.int 0] S Q) ∧ (¬ v1 < (v2 / 16) → ((((v2 + v3) - 1) / 16) < v1 → fx_Go G (1, 13) mm_V_needsCluster 25 [(0, fx_r G v0), (1, .int v1)] [.int 0] S Q) ∧ (¬ (((v2 + v3) - 1) / 16) < v1 → fx_Go G (1, 13) mm_V_needsCluster 25 [(0, fx_r G v0), (1, .int v1)] [.int 1] S Q))) :
    fx_Go G (1, 13) mm_V_needsCluster 0 [(0, fx_r G v0), (1, .int v1), (2, .int v2), (3, .int v3)] [] S Q := by
  refine fx_iload_n (n := 1) dd_V_needsCluster_0 rfl 1 rfl rfl ?_
  refine fx_iload_n (n := 2) dd_V_needsCluster_1 rfl 2 rfl rfl ?_
  refine fx_bipush (n := 4) (v := 16) dd_V_needsCluster_2 (by decide) rfl ?_
  refine fx_idiv (n := 5) dd_V_needsCluster_4 (by decide) rfl ?_
  refine fx_icmp_lt (n := 8) (tg := 24) dd_V_needsCluster_5 rfl rfl (fun hc => ?_) (fun hc => ?_)
  · replace h := h.1 hc
    refine fx_iconst (n := 25) (v := 0) dd_V_needsCluster_24 (by decide) rfl ?_
    refine fx_sub (L' := [(0, _), (1, _)]) [0, 1] rfl ?_
    exact h
  · replace h := h.2 hc
    refine fx_iload_n (n := 9) dd_V_needsCluster_8 rfl 1 rfl rfl ?_
    refine fx_iload_n (n := 10) dd_V_needsCluster_9 rfl 2 rfl rfl ?_
    refine fx_iload_n (n := 11) dd_V_needsCluster_10 rfl 3 rfl rfl ?_
    refine fx_iadd (n := 12) dd_V_needsCluster_11 rfl ?_
    refine fx_iconst (n := 13) (v := 1) dd_V_needsCluster_12 (by decide) rfl ?_
    refine fx_isub (n := 14) dd_V_needsCluster_13 rfl ?_
    refine fx_bipush (n := 16) (v := 16) dd_V_needsCluster_14 (by decide) rfl ?_
    refine fx_idiv (n := 17) dd_V_needsCluster_16 (by decide) rfl ?_
    refine fx_icmp_gt (n := 20) (tg := 24) dd_V_needsCluster_17 rfl rfl (fun hc => ?_) (fun hc => ?_)
    · replace h := h.1 hc
      refine fx_iconst (n := 25) (v := 0) dd_V_needsCluster_24 (by decide) rfl ?_
      refine fx_sub (L' := [(0, _), (1, _)]) [0, 1] rfl ?_
      exact h
    · replace h := h.2 hc
      refine fx_iconst (n := 21) (v := 1) dd_V_needsCluster_20 (by decide) rfl ?_
      refine fx_goto (n := 25) dd_V_needsCluster_21 rfl ?_
      refine fx_sub (L' := [(0, _), (1, _)]) [0, 1] rfl ?_
      exact h
theorem bk_V_needsCluster_25 {G : fx_G} {S : fx_S} {Q : fx_R → fx_S → Prop} (v0 : Nat) (v1 : Int32) (z0 : Int32) (h : (¬ z0 = 0 → Q (.inl (some (.int 1))) S) ∧ (z0 = 0 → fx_is S v0 3 ∧ (¬ (fx_I S v0 3) = 2 → Q (.inl (some (.int 0))) S) ∧ ((fx_I S v0 3) = 2 → fx_Go G (0, 0) mm_V_clustersFor 0 [(0, .int (fx_I S v0 4))] [] S (fx_qi (fun x3 S2 => (x3 ≤ v1 → Q (.inl (some (.int 0))) S2) ∧ (¬ x3 ≤ v1 → Q (.inl (some (.int 1))) S2)) Q)))) :
    fx_Go G (1, 13) mm_V_needsCluster 25 [(0, fx_r G v0), (1, .int v1)] [.int z0] S Q := by
  refine fx_istore (n := 27) (L' := [(4, _), (0, _), (1, _)]) dd_V_needsCluster_25 (by decide) rfl rfl ?_
  refine fx_iload (n := 29) dd_V_needsCluster_27 0 rfl rfl ?_
  refine fx_if_ne (n := 32) (tg := 51) dd_V_needsCluster_29 rfl rfl (fun hc => ?_) (fun hc => ?_)
  · replace h := h.1 hc
    refine fx_iconst (n := 52) (v := 1) dd_V_needsCluster_51 (by decide) rfl ?_
    refine fx_goto (n := 56) dd_V_needsCluster_52 rfl ?_
    exact fx_zret dd_V_needsCluster_56 rfl rfl h
  · replace h := h.2 hc
    refine fx_aload_n (n := 33) dd_V_needsCluster_32 rfl 1 rfl rfl ?_
    obtain ⟨q1, h⟩ := h
    refine fx_getI (n := 36) dd_V_needsCluster_33 fw_V_132 (by decide) rfl rfl q1.1 q1.2 ?_
    refine fx_iconst (n := 37) (v := 2) dd_V_needsCluster_36 (by decide) rfl ?_
    refine fx_icmp_ne (n := 40) (tg := 55) dd_V_needsCluster_37 rfl rfl (fun hc => ?_) (fun hc => ?_)
    · replace h := h.1 hc
      refine fx_iconst (n := 56) (v := 0) dd_V_needsCluster_55 (by decide) rfl ?_
      exact fx_zret dd_V_needsCluster_56 rfl rfl h
    · replace h := h.2 hc
      refine fx_iload_n (n := 41) dd_V_needsCluster_40 rfl 2 rfl rfl ?_
      refine fx_aload_n (n := 42) dd_V_needsCluster_41 rfl 1 rfl rfl ?_
      refine fx_getI (n := 45) dd_V_needsCluster_42 fw_V_123 (by decide) rfl rfl q1.1 q1.2 ?_
      refine fx_callS (n := 48) (vs := [_]) dd_V_needsCluster_45 mw_V_clustersFor ⟨wd_472, wd_473, wd_1⟩ rfl rfl ⟨Nat.le_of_ble_eq_true rfl, Nat.le_of_ble_eq_true rfl, Nat.le_of_ble_eq_true rfl, fx_nx, rfl⟩ rfl h (fx_qi_k fun x3 S2 h => ?_) (fun _ _ h => h)
      refine fx_icmp_ge (n := 51) (tg := 55) dd_V_needsCluster_48 rfl rfl (fun hc => ?_) (fun hc => ?_)
      · replace h := h.1 hc
        refine fx_iconst (n := 56) (v := 0) dd_V_needsCluster_55 (by decide) rfl ?_
        exact fx_zret dd_V_needsCluster_56 rfl rfl h
      · replace h := h.2 hc
        refine fx_iconst (n := 52) (v := 1) dd_V_needsCluster_51 (by decide) rfl ?_
        refine fx_goto (n := 56) dd_V_needsCluster_52 rfl ?_
        exact fx_zret dd_V_needsCluster_56 rfl rfl h
