theorem bk_M_init_0 {G : fx_G} {S : fx_S} {Q : fx_R → fx_S → Prop} (v0 : Nat) (h : fx_room S 2048 ∧ ∀ S1, S1 = fx_new S 100 2048 2048 → fx_is S1 v0 5 ∧ ∀ S4, S4 = fx_setP S1 v0 1 (some (fx_m S)) → fx_room S4 12 ∧ ∀ S5, S5 = fx_new S4 101 12 12 → fx_is S5 v0 5 ∧ ∀ S8, S8 = fx_setP S5 v0 2 (some (fx_m S4)) → fx_room S8 128 ∧ ∀ S9, S9 = fx_new S8 101 128 128 → fx_is S9 v0 5 ∧ ∀ S12, S12 = fx_setP S9 v0 3 (some (fx_m S8)) → fx_room S12 8 ∧ ∀ S13, S13 = fx_new S12 102 8 8 → fx_is S13 v0 5 ∧ ∀ S16, S16 = fx_setP S13 v0 7 (some (fx_m S12)) → fx_room S16 64 ∧ ∀ S17, S17 = fx_new S16 100 64 64 → fx_is S17 v0 5 ∧ ∀ S20, S20 = fx_setP S17 v0 8 (some (fx_m S16)) → fx_room S20 64 ∧ ∀ S21, S21 = fx_new S20 100 64 64 → fx_is S21 v0 5 ∧ ∀ S24, S24 = fx_setP S21 v0 11 (some (fx_m S20)) → fx_room S24 64 ∧ ∀ S25, S25 = fx_new S24 101 64 64 → fx_is S25 v0 5 ∧ ∀ S28, S28 = fx_setP S25 v0 12 (some (fx_m S24)) → fx_room S28 64 ∧ ∀ S29, S29 = fx_new S28 100 64 64 → fx_is S29 v0 5 ∧ ∀ S32, S32 = fx_setP S29 v0 13 (some (fx_m S28)) → fx_room S32 12 ∧ ∀ S33, S33 = fx_new S32 100 12 12 → fx_is S33 v0 5 ∧ ∀ S36, S36 = fx_setP S33 v0 15 (some (fx_m S32)) → fx_Go G (2, 31) mm_M_init 80 [(0, fx_r G v0), (1, .int 0)] [] S36 Q) :
    fx_Go G (2, 31) mm_M_init 0 [(0, fx_r G v0)] [] S Q := by
  refine fx_aload_n (n := 1) dd_M_init_0 rfl 0 rfl rfl ?_
  refine fx_objInit (n := 4) dd_M_init_1 ⟨wd_622, wd_22, wd_23⟩ rfl ⟨by decide, Nat.le_of_ble_eq_true rfl⟩ ?_
  refine fx_aload_n (n := 5) dd_M_init_4 rfl 0 rfl rfl ?_
  refine fx_sipush (n := 8) (v := 2048) dd_M_init_5 (by decide) rfl ?_
  obtain ⟨q2, h⟩ := h
  replace h := h _ rfl
  refine fx_newa (n := 10) (t := 0) (N := 2048) dd_M_init_8 wd_39 (Or.inl ⟨rfl, rfl⟩) rfl (by decide) (by decide) q2.1 q2.2.1 q2.2.2 ?_
  obtain ⟨q3, h⟩ := h
  replace h := h _ rfl
  refine fx_putP (n := 13) dd_M_init_10 fw_M_7 (by decide) rfl rfl rfl (fun _ => rfl) (fun _ => rfl) rfl q3.1 q3.2 ?_
  refine fx_aload_n (n := 14) dd_M_init_13 rfl 0 rfl rfl ?_
  refine fx_bipush (n := 16) (v := 12) dd_M_init_14 (by decide) rfl ?_
  obtain ⟨q6, h⟩ := h
  replace h := h _ rfl
  refine fx_newa (n := 18) (t := 1) (N := 12) dd_M_init_16 wd_198 (Or.inr (Or.inl ⟨rfl, rfl⟩)) rfl (by decide) (by decide) q6.1 q6.2.1 q6.2.2 ?_
  obtain ⟨q7, h⟩ := h
  replace h := h _ rfl
  refine fx_putP (n := 21) dd_M_init_18 fw_M_13 (by decide) rfl rfl rfl (fun _ => rfl) (fun _ => rfl) rfl q7.1 q7.2 ?_
  refine fx_aload_n (n := 22) dd_M_init_21 rfl 0 rfl rfl ?_
  refine fx_sipush (n := 25) (v := 128) dd_M_init_22 (by decide) rfl ?_
  obtain ⟨q10, h⟩ := h
  replace h := h _ rfl
  refine fx_newa (n := 27) (t := 1) (N := 128) dd_M_init_25 wd_198 (Or.inr (Or.inl ⟨rfl, rfl⟩)) rfl (by decide) (by decide) q10.1 q10.2.1 q10.2.2 ?_
  obtain ⟨q11, h⟩ := h
  replace h := h _ rfl
  refine fx_putP (n := 30) dd_M_init_27 fw_M_17 (by decide) rfl rfl rfl (fun _ => rfl) (fun _ => rfl) rfl q11.1 q11.2 ?_
  refine fx_aload_n (n := 31) dd_M_init_30 rfl 0 rfl rfl ?_
  refine fx_bipush (n := 33) (v := 8) dd_M_init_31 (by decide) rfl ?_
  obtain ⟨q14, h⟩ := h
  replace h := h _ rfl
  refine fx_newa (n := 35) (t := 2) (N := 8) dd_M_init_33 wd_700 (Or.inr (Or.inr (Or.inl ⟨rfl, rfl⟩))) rfl (by decide) (by decide) q14.1 q14.2.1 q14.2.2 ?_
  obtain ⟨q15, h⟩ := h
  replace h := h _ rfl
  refine fx_putP (n := 38) dd_M_init_35 fw_M_20 (by decide) rfl rfl rfl (fun _ => rfl) (fun _ => rfl) rfl q15.1 q15.2 ?_
  refine fx_aload_n (n := 39) dd_M_init_38 rfl 0 rfl rfl ?_
  refine fx_bipush (n := 41) (v := 64) dd_M_init_39 (by decide) rfl ?_
  obtain ⟨q18, h⟩ := h
  replace h := h _ rfl
  refine fx_newa (n := 43) (t := 0) (N := 64) dd_M_init_41 wd_39 (Or.inl ⟨rfl, rfl⟩) rfl (by decide) (by decide) q18.1 q18.2.1 q18.2.2 ?_
  obtain ⟨q19, h⟩ := h
  replace h := h _ rfl
  refine fx_putP (n := 46) dd_M_init_43 fw_M_24 (by decide) rfl rfl rfl (fun _ => rfl) (fun _ => rfl) rfl q19.1 q19.2 ?_
  refine fx_aload_n (n := 47) dd_M_init_46 rfl 0 rfl rfl ?_
  refine fx_bipush (n := 49) (v := 64) dd_M_init_47 (by decide) rfl ?_
  obtain ⟨q22, h⟩ := h
  replace h := h _ rfl
  refine fx_newa (n := 51) (t := 0) (N := 64) dd_M_init_49 wd_39 (Or.inl ⟨rfl, rfl⟩) rfl (by decide) (by decide) q22.1 q22.2.1 q22.2.2 ?_
  obtain ⟨q23, h⟩ := h
  replace h := h _ rfl
  refine fx_putP (n := 54) dd_M_init_51 fw_M_27 (by decide) rfl rfl rfl (fun _ => rfl) (fun _ => rfl) rfl q23.1 q23.2 ?_
  refine fx_aload_n (n := 55) dd_M_init_54 rfl 0 rfl rfl ?_
  refine fx_bipush (n := 57) (v := 64) dd_M_init_55 (by decide) rfl ?_
  obtain ⟨q26, h⟩ := h
  replace h := h _ rfl
  refine fx_newa (n := 59) (t := 1) (N := 64) dd_M_init_57 wd_198 (Or.inr (Or.inl ⟨rfl, rfl⟩)) rfl (by decide) (by decide) q26.1 q26.2.1 q26.2.2 ?_
  obtain ⟨q27, h⟩ := h
  replace h := h _ rfl
  refine fx_putP (n := 62) dd_M_init_59 fw_M_30 (by decide) rfl rfl rfl (fun _ => rfl) (fun _ => rfl) rfl q27.1 q27.2 ?_
  refine fx_aload_n (n := 63) dd_M_init_62 rfl 0 rfl rfl ?_
  refine fx_bipush (n := 65) (v := 64) dd_M_init_63 (by decide) rfl ?_
  obtain ⟨q30, h⟩ := h
  replace h := h _ rfl
  refine fx_newa (n := 67) (t := 0) (N := 64) dd_M_init_65 wd_39 (Or.inl ⟨rfl, rfl⟩) rfl (by decide) (by decide) q30.1 q30.2.1 q30.2.2 ?_
  obtain ⟨q31, h⟩ := h
  replace h := h _ rfl
  refine fx_putP (n := 70) dd_M_init_67 fw_M_33 (by decide) rfl rfl rfl (fun _ => rfl) (fun _ => rfl) rfl q31.1 q31.2 ?_
  refine fx_aload_n (n := 71) dd_M_init_70 rfl 0 rfl rfl ?_
  refine fx_bipush (n := 73) (v := 12) dd_M_init_71 (by decide) rfl ?_
  obtain ⟨q34, h⟩ := h
  replace h := h _ rfl
  refine fx_newa (n := 75) (t := 0) (N := 12) dd_M_init_73 wd_39 (Or.inl ⟨rfl, rfl⟩) rfl (by decide) (by decide) q34.1 q34.2.1 q34.2.2 ?_
  obtain ⟨q35, h⟩ := h
  replace h := h _ rfl
  refine fx_putP (n := 78) dd_M_init_75 fw_M_36 (by decide) rfl rfl rfl (fun _ => rfl) (fun _ => rfl) rfl q35.1 q35.2 ?_
  refine fx_iconst (n := 79) (v := 0) dd_M_init_78 (by decide) rfl ?_
  refine fx_istore_n (n := 80) (L' := [(1, _), (0, _)]) dd_M_init_79 rfl (by decide) rfl rfl ?_
  refine fx_sub (L' := [(0, _), (1, _)]) [1, 0] rfl ?_
  exact h
theorem bk_M_init_80 {G : fx_G} {S : fx_S} {Q : fx_R → fx_S → Prop} (v0 : Nat) (v1 : Int32) (h : (12 ≤ v1 → fx_is S v0 5 ∧ fx_Go G (0, 0) mm_M_begin 0 [(0, fx_r G v0), (1, .int 2), (2, .int 0)] [] S (fx_qv (fun S1 => fx_is S1 v0 5 ∧ fx_Go G (1, 13) mm_M_putList 0 [(0, fx_r G v0)] [] S1 (fx_qv (fun S3 => fx_is S3 v0 5 ∧ fx_Go G (1, 15) mm_M_store 0 [(0, fx_r G v0), (1, .int 0)] [] S3 (fx_qi (fun x7 S5 => fx_is S5 v0 5 ∧ ∀ S9, S9 = fx_setI S5 v0 4 1 → Q (.inl none) S9) Q)) Q)) Q)) ∧ (¬ 12 ≤ v1 → fx_is S v0 5 ∧ ∃ r11, fx_P S v0 2 = some r11 ∧ fx_is S r11 101 ∧ vp_in v1 (fx_ln S r11) ∧ ∀ S14, S14 = fx_setI S r11 (v1.toNatClampNeg) (vp_nar .boolean 0) → fx_Go G (2, 31) mm_M_init 80 [(0, fx_r G v0), (1, .int (v1 + Int32.ofInt 1))] [] S14 Q)) :
    fx_Go G (2, 31) mm_M_init 80 [(0, fx_r G v0), (1, .int v1)] [] S Q := by
  refine fx_iload_n (n := 81) dd_M_init_80 rfl 1 rfl rfl ?_
  refine fx_bipush (n := 83) (v := 12) dd_M_init_81 (by decide) rfl ?_
  refine fx_icmp_ge (n := 86) (tg := 99) dd_M_init_83 rfl rfl (fun hc => ?_) (fun hc => ?_)
  · replace h := h.1 hc
    refine fx_aload_n (n := 100) dd_M_init_99 rfl 0 rfl rfl ?_
    refine fx_iconst (n := 101) (v := 2) dd_M_init_100 (by decide) rfl ?_
    refine fx_iconst (n := 102) (v := 0) dd_M_init_101 (by decide) rfl ?_
    obtain ⟨q2, h⟩ := h
    refine fx_callV (n := 105) (vs := [_, _]) dd_M_init_102 mw_M_begin ⟨wd_623, wd_625, wp_30⟩ rfl (by decide) q2.1 q2.2 rfl rfl ⟨Nat.le_of_ble_eq_true rfl, Nat.le_of_ble_eq_true rfl, Nat.le_of_ble_eq_true rfl, fx_nx, rfl⟩ rfl h (fx_qv_k fun S1 h => ?_) (fun _ _ h => h)
    refine fx_aload_n (n := 106) dd_M_init_105 rfl 0 rfl rfl ?_
    obtain ⟨q4, h⟩ := h
    refine fx_callV (n := 109) (vs := []) dd_M_init_106 mw_M_putList ⟨wd_627, wd_629, wp_31⟩ rfl (by decide) q4.1 q4.2 rfl rfl ⟨Nat.le_of_ble_eq_true rfl, Nat.le_of_ble_eq_true rfl, Nat.le_of_ble_eq_true rfl, fx_nx, rfl⟩ rfl h (fx_qv_k fun S3 h => ?_) (fun _ _ h => h)
    refine fx_aload_n (n := 110) dd_M_init_109 rfl 0 rfl rfl ?_
    refine fx_iconst (n := 111) (v := 0) dd_M_init_110 (by decide) rfl ?_
    obtain ⟨q6, h⟩ := h
    refine fx_callV (n := 114) (vs := [_]) dd_M_init_111 mw_M_store ⟨wd_635, wd_637, wp_33⟩ rfl (by decide) q6.1 q6.2 rfl rfl ⟨Nat.le_of_ble_eq_true rfl, Nat.le_of_ble_eq_true rfl, Nat.le_of_ble_eq_true rfl, fx_nx, rfl⟩ rfl h (fx_qi_k fun x7 S5 h => ?_) (fun _ _ h => h)
    refine fx_pop (n := 115) dd_M_init_114 rfl rfl ?_
    refine fx_aload_n (n := 116) dd_M_init_115 rfl 0 rfl rfl ?_
    refine fx_iconst (n := 117) (v := 1) dd_M_init_116 (by decide) rfl ?_
    obtain ⟨q8, h⟩ := h
    replace h := h _ rfl
    refine fx_putI (n := 120) dd_M_init_117 fw_M_50 (by decide) rfl rfl rfl rfl q8.1 q8.2 ?_
    exact fx_vret dd_M_init_120 rfl h
  · replace h := h.2 hc
    refine fx_aload_n (n := 87) dd_M_init_86 rfl 0 rfl rfl ?_
    obtain ⟨q10, h⟩ := h
    obtain ⟨r11, hr11, h⟩ := h
    refine fx_getP (n := 90) dd_M_init_87 fw_M_13 (by decide) rfl rfl q10.1 q10.2 hr11 ?_
    refine fx_iload_n (n := 91) dd_M_init_90 rfl 1 rfl rfl ?_
    refine fx_iconst (n := 92) (v := 0) dd_M_init_91 (by decide) rfl ?_
    obtain ⟨q12, h⟩ := h
    obtain ⟨q13, h⟩ := h
    replace h := h _ rfl
    refine fx_zast (n := 93) dd_M_init_92 rfl q12.1 q12.2 q13 ?_
    refine fx_iinc (n := 96) (L' := [(1, _), (0, _)]) dd_M_init_93 1 rfl rfl (by decide) rfl rfl ?_
    refine fx_goto (n := 80) dd_M_init_96 rfl ?_
    refine fx_sub (L' := [(0, _), (1, _)]) [1, 0] rfl ?_
    exact h
theorem bk_M_thrown_0 {G : fx_G} {S : fx_S} {Q : fx_R → fx_S → Prop} (v0 : Nat) (h : fx_is S v0 5 ∧ Q (.inl (some (.int (fx_I S v0 0)))) S) :
    fx_Go G (0, 0) mm_M_thrown 0 [(0, fx_r G v0)] [] S Q := by
  refine fx_aload_n (n := 1) dd_M_thrown_0 rfl 0 rfl rfl ?_
  obtain ⟨q1, h⟩ := h
  refine fx_getI (n := 4) dd_M_thrown_1 fw_M_54 (by decide) rfl rfl q1.1 q1.2 ?_
  exact fx_iret dd_M_thrown_4 rfl h
theorem bk_M_refuse_0 {G : fx_G} {S : fx_S} {Q : fx_R → fx_S → Prop} (v0 : Nat) (v1 : Int32) (h : fx_is S v0 5 ∧ ∀ S2, S2 = fx_setI S v0 0 v1 → Q (.inl (some (.int 0))) S2) :
    fx_Go G (0, 0) mm_M_refuse 0 [(0, fx_r G v0), (1, .int v1)] [] S Q := by
  refine fx_aload_n (n := 1) dd_M_refuse_0 rfl 0 rfl rfl ?_
  refine fx_iload_n (n := 2) dd_M_refuse_1 rfl 1 rfl rfl ?_
  obtain ⟨q1, h⟩ := h
  replace h := h _ rfl
  refine fx_putI (n := 5) dd_M_refuse_2 fw_M_54 (by decide) rfl rfl rfl rfl q1.1 q1.2 ?_
  refine fx_iconst (n := 6) (v := 0) dd_M_refuse_5 (by decide) rfl ?_
  exact fx_iret dd_M_refuse_6 rfl h
theorem bk_M_byteOf_0 {G : fx_G} {S : fx_S} {Q : fx_R → fx_S → Prop} (v0 : Nat) (v1 : Int32) (v2 : Int32) (h : (v2 = 30 → fx_is S v0 5 ∧ ∃ r2, fx_P S v0 1 = some r2 ∧ fx_is S r2 100 ∧ vp_in (((64 * v1) + v2) - 26) (fx_ln S r2) ∧ Q (.inl (some (.int (fx_I S r2 ((((64 * v1) + v2) - 26).toNatClampNeg))))) S) ∧ (¬ v2 = 30 → (¬ v2 = 31 → (v2 = 62 → fx_is S v0 5 ∧ ∃ r6, fx_P S v0 1 = some r6 ∧ fx_is S r6 100 ∧ vp_in (((64 * v1) + v2) - 56) (fx_ln S r6) ∧ Q (.inl (some (.int (fx_I S r6 ((((64 * v1) + v2) - 56).toNatClampNeg))))) S) ∧ (¬ v2 = 62 → (¬ v2 = 63 → (v2 ≤ 3 → fx_is S v0 5 ∧ ∃ r10, fx_P S v0 1 = some r10 ∧ fx_is S r10 100 ∧ vp_in ((64 * v1) + v2) (fx_ln S r10) ∧ Q (.inl (some (.int (fx_I S r10 (((64 * v1) + v2).toNatClampNeg))))) S) ∧ (¬ v2 ≤ 3 → (8 ≤ v2 → fx_is S v0 5 ∧ ∃ r14, fx_P S v0 1 = some r14 ∧ fx_is S r14 100 ∧ vp_in ((64 * v1) + v2) (fx_ln S r14) ∧ Q (.inl (some (.int (fx_I S r14 (((64 * v1) + v2).toNatClampNeg))))) S) ∧ (¬ 8 ≤ v2 → Q (.inl (some (.int 0))) S))) ∧ (v2 = 63 → fx_is S v0 5 ∧ ∃ r18, fx_P S v0 1 = some r18 ∧ fx_is S r18 100 ∧ vp_in (((64 * v1) + v2) - 56) (fx_ln S r18) ∧ Q (.inl (some (.int (fx_I S r18 ((((64 * v1) + v2) - 56).toNatClampNeg))))) S))) ∧ (v2 = 31 → fx_is S v0 5 ∧ ∃ r22, fx_P S v0 1 = some r22 ∧ fx_is S r22 100 ∧ vp_in (((64 * v1) + v2) - 26) (fx_ln S r22) ∧ Q (.inl (some (.int (fx_I S r22 ((((64 * v1) + v2) - 26).toNatClampNeg))))) S))) :
    fx_Go G (0, 0) mm_M_byteOf 0 [(0, fx_r G v0), (1, .int v1), (2, .int v2)] [] S Q := by
  refine fx_bipush (n := 2) (v := 64) dd_M_byteOf_0 (by decide) rfl ?_
  refine fx_iload_n (n := 3) dd_M_byteOf_2 rfl 1 rfl rfl ?_
  refine fx_imul (n := 4) dd_M_byteOf_3 rfl ?_
  refine fx_istore_n (n := 5) (L' := [(3, _), (0, _), (1, _), (2, _)]) dd_M_byteOf_4 rfl (by decide) rfl rfl ?_
  refine fx_iload_n (n := 6) dd_M_byteOf_5 rfl 3 rfl rfl ?_
  refine fx_bipush (n := 8) (v := 30) dd_M_byteOf_6 (by decide) rfl ?_
  refine fx_icmp_eq (n := 11) (tg := 17) dd_M_byteOf_8 rfl rfl (fun hc => ?_) (fun hc => ?_)
  · replace h := h.1 hc
    refine fx_aload_n (n := 18) dd_M_byteOf_17 rfl 1 rfl rfl ?_
    obtain ⟨q1, h⟩ := h
    obtain ⟨r2, hr2, h⟩ := h
    refine fx_getP (n := 21) dd_M_byteOf_18 fw_M_7 (by decide) rfl rfl q1.1 q1.2 hr2 ?_
    refine fx_iload_n (n := 22) dd_M_byteOf_21 rfl 0 rfl rfl ?_
    refine fx_iload_n (n := 23) dd_M_byteOf_22 rfl 3 rfl rfl ?_
    refine fx_iadd (n := 24) dd_M_byteOf_23 rfl ?_
    refine fx_bipush (n := 26) (v := 26) dd_M_byteOf_24 (by decide) rfl ?_
    refine fx_isub (n := 27) dd_M_byteOf_26 rfl ?_
    obtain ⟨q3, h⟩ := h
    obtain ⟨q4, h⟩ := h
    refine fx_iald (n := 28) dd_M_byteOf_27 rfl q3.1 q3.2 q4 ?_
    exact fx_iret dd_M_byteOf_28 rfl h
  · replace h := h.2 hc
    refine fx_iload_n (n := 12) dd_M_byteOf_11 rfl 3 rfl rfl ?_
    refine fx_bipush (n := 14) (v := 31) dd_M_byteOf_12 (by decide) rfl ?_
    refine fx_icmp_ne (n := 17) (tg := 29) dd_M_byteOf_14 rfl rfl (fun hc => ?_) (fun hc => ?_)
    · replace h := h.1 hc
      refine fx_iload_n (n := 30) dd_M_byteOf_29 rfl 3 rfl rfl ?_
      refine fx_bipush (n := 32) (v := 62) dd_M_byteOf_30 (by decide) rfl ?_
      refine fx_icmp_eq (n := 35) (tg := 41) dd_M_byteOf_32 rfl rfl (fun hc => ?_) (fun hc => ?_)
      · replace h := h.1 hc
        refine fx_aload_n (n := 42) dd_M_byteOf_41 rfl 1 rfl rfl ?_
        obtain ⟨q5, h⟩ := h
        obtain ⟨r6, hr6, h⟩ := h
        refine fx_getP (n := 45) dd_M_byteOf_42 fw_M_7 (by decide) rfl rfl q5.1 q5.2 hr6 ?_
        refine fx_iload_n (n := 46) dd_M_byteOf_45 rfl 0 rfl rfl ?_
        refine fx_iload_n (n := 47) dd_M_byteOf_46 rfl 3 rfl rfl ?_
        refine fx_iadd (n := 48) dd_M_byteOf_47 rfl ?_
        refine fx_bipush (n := 50) (v := 56) dd_M_byteOf_48 (by decide) rfl ?_
        refine fx_isub (n := 51) dd_M_byteOf_50 rfl ?_
        obtain ⟨q7, h⟩ := h
        obtain ⟨q8, h⟩ := h
        refine fx_iald (n := 52) dd_M_byteOf_51 rfl q7.1 q7.2 q8 ?_
        exact fx_iret dd_M_byteOf_52 rfl h
      · replace h := h.2 hc
        refine fx_iload_n (n := 36) dd_M_byteOf_35 rfl 3 rfl rfl ?_
        refine fx_bipush (n := 38) (v := 63) dd_M_byteOf_36 (by decide) rfl ?_
        refine fx_icmp_ne (n := 41) (tg := 53) dd_M_byteOf_38 rfl rfl (fun hc => ?_) (fun hc => ?_)
        · replace h := h.1 hc
          refine fx_iload_n (n := 54) dd_M_byteOf_53 rfl 3 rfl rfl ?_
          refine fx_iconst (n := 55) (v := 3) dd_M_byteOf_54 (by decide) rfl ?_
          refine fx_icmp_le (n := 58) (tg := 68) dd_M_byteOf_55 rfl rfl (fun hc => ?_) (fun hc => ?_)
          · replace h := h.1 hc
            refine fx_aload_n (n := 69) dd_M_byteOf_68 rfl 1 rfl rfl ?_
            obtain ⟨q9, h⟩ := h
            obtain ⟨r10, hr10, h⟩ := h
            refine fx_getP (n := 72) dd_M_byteOf_69 fw_M_7 (by decide) rfl rfl q9.1 q9.2 hr10 ?_
            refine fx_iload_n (n := 73) dd_M_byteOf_72 rfl 0 rfl rfl ?_
            refine fx_iload_n (n := 74) dd_M_byteOf_73 rfl 3 rfl rfl ?_
            refine fx_iadd (n := 75) dd_M_byteOf_74 rfl ?_
            obtain ⟨q11, h⟩ := h
            obtain ⟨q12, h⟩ := h
            refine fx_iald (n := 76) dd_M_byteOf_75 rfl q11.1 q11.2 q12 ?_
            exact fx_iret dd_M_byteOf_76 rfl h
          · replace h := h.2 hc
            refine fx_iload_n (n := 59) dd_M_byteOf_58 rfl 3 rfl rfl ?_
            refine fx_bipush (n := 61) (v := 8) dd_M_byteOf_59 (by decide) rfl ?_
            refine fx_icmp_ge (n := 64) (tg := 68) dd_M_byteOf_61 rfl rfl (fun hc => ?_) (fun hc => ?_)
            · replace h := h.1 hc
              refine fx_aload_n (n := 69) dd_M_byteOf_68 rfl 1 rfl rfl ?_
              obtain ⟨q13, h⟩ := h
              obtain ⟨r14, hr14, h⟩ := h
              refine fx_getP (n := 72) dd_M_byteOf_69 fw_M_7 (by decide) rfl rfl q13.1 q13.2 hr14 ?_
              refine fx_iload_n (n := 73) dd_M_byteOf_72 rfl 0 rfl rfl ?_
              refine fx_iload_n (n := 74) dd_M_byteOf_73 rfl 3 rfl rfl ?_
              refine fx_iadd (n := 75) dd_M_byteOf_74 rfl ?_
              obtain ⟨q15, h⟩ := h
              obtain ⟨q16, h⟩ := h
              refine fx_iald (n := 76) dd_M_byteOf_75 rfl q15.1 q15.2 q16 ?_
              exact fx_iret dd_M_byteOf_76 rfl h
            · replace h := h.2 hc
              refine fx_iconst (n := 65) (v := 0) dd_M_byteOf_64 (by decide) rfl ?_
              refine fx_goto (n := 76) dd_M_byteOf_65 rfl ?_
              exact fx_iret dd_M_byteOf_76 rfl h
        · replace h := h.2 hc
          refine fx_aload_n (n := 42) dd_M_byteOf_41 rfl 1 rfl rfl ?_
          obtain ⟨q17, h⟩ := h
          obtain ⟨r18, hr18, h⟩ := h
          refine fx_getP (n := 45) dd_M_byteOf_42 fw_M_7 (by decide) rfl rfl q17.1 q17.2 hr18 ?_
          refine fx_iload_n (n := 46) dd_M_byteOf_45 rfl 0 rfl rfl ?_
          refine fx_iload_n (n := 47) dd_M_byteOf_46 rfl 3 rfl rfl ?_
          refine fx_iadd (n := 48) dd_M_byteOf_47 rfl ?_
          refine fx_bipush (n := 50) (v := 56) dd_M_byteOf_48 (by decide) rfl ?_
          refine fx_isub (n := 51) dd_M_byteOf_50 rfl ?_
          obtain ⟨q19, h⟩ := h
          obtain ⟨q20, h⟩ := h
          refine fx_iald (n := 52) dd_M_byteOf_51 rfl q19.1 q19.2 q20 ?_
          exact fx_iret dd_M_byteOf_52 rfl h
    · replace h := h.2 hc
      refine fx_aload_n (n := 18) dd_M_byteOf_17 rfl 1 rfl rfl ?_
      obtain ⟨q21, h⟩ := h
      obtain ⟨r22, hr22, h⟩ := h
      refine fx_getP (n := 21) dd_M_byteOf_18 fw_M_7 (by decide) rfl rfl q21.1 q21.2 hr22 ?_
      refine fx_iload_n (n := 22) dd_M_byteOf_21 rfl 0 rfl rfl ?_
      refine fx_iload_n (n := 23) dd_M_byteOf_22 rfl 3 rfl rfl ?_
      refine fx_iadd (n := 24) dd_M_byteOf_23 rfl ?_
      refine fx_bipush (n := 26) (v := 26) dd_M_byteOf_24 (by decide) rfl ?_
      refine fx_isub (n := 27) dd_M_byteOf_26 rfl ?_
      obtain ⟨q23, h⟩ := h
      obtain ⟨q24, h⟩ := h
      refine fx_iald (n := 28) dd_M_byteOf_27 rfl q23.1 q23.2 q24 ?_
      exact fx_iret dd_M_byteOf_28 rfl h
theorem bk_M_wordAt_0 {G : fx_G} {S : fx_S} {Q : fx_R → fx_S → Prop} (v0 : Nat) (v1 : Int32) (h : fx_is S v0 5 ∧ ∃ r2, fx_P S v0 1 = some r2 ∧ fx_is S r2 100 ∧ vp_in v1 (fx_ln S r2) ∧ ∃ r5, fx_P S v0 1 = some r5 ∧ fx_is S r5 100 ∧ vp_in (v1 + 1) (fx_ln S r5) ∧ Q (.inl (some (.int ((fx_I S r2 (v1.toNatClampNeg)) + (256 * (fx_I S r5 ((v1 + 1).toNatClampNeg))))))) S) :
    fx_Go G (0, 0) mm_M_wordAt 0 [(0, fx_r G v0), (1, .int v1)] [] S Q := by
  refine fx_aload_n (n := 1) dd_M_wordAt_0 rfl 0 rfl rfl ?_
  obtain ⟨q1, h⟩ := h
  obtain ⟨r2, hr2, h⟩ := h
  refine fx_getP (n := 4) dd_M_wordAt_1 fw_M_7 (by decide) rfl rfl q1.1 q1.2 hr2 ?_
  refine fx_iload_n (n := 5) dd_M_wordAt_4 rfl 1 rfl rfl ?_
  obtain ⟨q3, h⟩ := h
  obtain ⟨q4, h⟩ := h
  refine fx_iald (n := 6) dd_M_wordAt_5 rfl q3.1 q3.2 q4 ?_
  refine fx_sipush (n := 9) (v := 256) dd_M_wordAt_6 (by decide) rfl ?_
  refine fx_aload_n (n := 10) dd_M_wordAt_9 rfl 0 rfl rfl ?_
  obtain ⟨r5, hr5, h⟩ := h
  refine fx_getP (n := 13) dd_M_wordAt_10 fw_M_7 (by decide) rfl rfl q1.1 q1.2 hr5 ?_
  refine fx_iload_n (n := 14) dd_M_wordAt_13 rfl 1 rfl rfl ?_
  refine fx_iconst (n := 15) (v := 1) dd_M_wordAt_14 (by decide) rfl ?_
  refine fx_iadd (n := 16) dd_M_wordAt_15 rfl ?_
  obtain ⟨q6, h⟩ := h
  obtain ⟨q7, h⟩ := h
  refine fx_iald (n := 17) dd_M_wordAt_16 rfl q6.1 q6.2 q7 ?_
  refine fx_imul (n := 18) dd_M_wordAt_17 rfl ?_
  refine fx_iadd (n := 19) dd_M_wordAt_18 rfl ?_
  exact fx_iret dd_M_wordAt_19 rfl h
theorem bk_M_isTorn_0 {G : fx_G} {S : fx_S} {Q : fx_R → fx_S → Prop} (v0 : Nat) (v1 : Int32) (h : fx_is S v0 5 ∧ fx_Go G (0, 0) mm_M_wordAt 0 [(0, fx_r G v0), (1, .int ((64 * v1) + 2))] [] S (fx_qi (fun x3 S1 => fx_is S1 v0 5 ∧ fx_Go G (0, 0) mm_M_wordAt 0 [(0, fx_r G v0), (1, .int ((64 * v1) + 30))] [] S1 (fx_qi (fun x6 S4 => (¬ x6 = x3 → Q (.inl (some (.int 1))) S4) ∧ (x6 = x3 → fx_is S4 v0 5 ∧ fx_Go G (0, 0) mm_M_wordAt 0 [(0, fx_r G v0), (1, .int ((64 * v1) + 62))] [] S4 (fx_qi (fun x9 S7 => (x9 = x3 → Q (.inl (some (.int 0))) S7) ∧ (¬ x9 = x3 → Q (.inl (some (.int 1))) S7)) Q))) Q)) Q)) :
    fx_Go G (1, 13) mm_M_isTorn 0 [(0, fx_r G v0), (1, .int v1)] [] S Q := by
  refine fx_aload_n (n := 1) dd_M_isTorn_0 rfl 0 rfl rfl ?_
  refine fx_bipush (n := 3) (v := 64) dd_M_isTorn_1 (by decide) rfl ?_
  refine fx_iload_n (n := 4) dd_M_isTorn_3 rfl 1 rfl rfl ?_
  refine fx_imul (n := 5) dd_M_isTorn_4 rfl ?_
  refine fx_iconst (n := 6) (v := 2) dd_M_isTorn_5 (by decide) rfl ?_
  refine fx_iadd (n := 7) dd_M_isTorn_6 rfl ?_
  obtain ⟨q2, h⟩ := h
  refine fx_callV (n := 10) (vs := [_]) dd_M_isTorn_7 mw_M_wordAt ⟨wd_639, wd_641, wp_34⟩ rfl (by decide) q2.1 q2.2 rfl rfl ⟨Nat.le_of_ble_eq_true rfl, Nat.le_of_ble_eq_true rfl, Nat.le_of_ble_eq_true rfl, fx_nx, rfl⟩ rfl h (fx_qi_k fun x3 S1 h => ?_) (fun _ _ h => h)
  refine fx_istore_n (n := 11) (L' := [(2, _), (0, _), (1, _)]) dd_M_isTorn_10 rfl (by decide) rfl rfl ?_
  refine fx_aload_n (n := 12) dd_M_isTorn_11 rfl 1 rfl rfl ?_
  refine fx_bipush (n := 14) (v := 64) dd_M_isTorn_12 (by decide) rfl ?_
  refine fx_iload_n (n := 15) dd_M_isTorn_14 rfl 2 rfl rfl ?_
  refine fx_imul (n := 16) dd_M_isTorn_15 rfl ?_
  refine fx_bipush (n := 18) (v := 30) dd_M_isTorn_16 (by decide) rfl ?_
  refine fx_iadd (n := 19) dd_M_isTorn_18 rfl ?_
  obtain ⟨q5, h⟩ := h
  refine fx_callV (n := 22) (vs := [_]) dd_M_isTorn_19 mw_M_wordAt ⟨wd_639, wd_641, wp_34⟩ rfl (by decide) q5.1 q5.2 rfl rfl ⟨Nat.le_of_ble_eq_true rfl, Nat.le_of_ble_eq_true rfl, Nat.le_of_ble_eq_true rfl, fx_nx, rfl⟩ rfl h (fx_qi_k fun x6 S4 h => ?_) (fun _ _ h => h)
  refine fx_iload_n (n := 23) dd_M_isTorn_22 rfl 0 rfl rfl ?_
  refine fx_icmp_ne (n := 26) (tg := 41) dd_M_isTorn_23 rfl rfl (fun hc => ?_) (fun hc => ?_)
  · replace h := h.1 hc
    refine fx_iconst (n := 42) (v := 1) dd_M_isTorn_41 (by decide) rfl ?_
    refine fx_goto (n := 46) dd_M_isTorn_42 rfl ?_
    exact fx_zret dd_M_isTorn_46 rfl rfl h
  · replace h := h.2 hc
    refine fx_aload_n (n := 27) dd_M_isTorn_26 rfl 1 rfl rfl ?_
    refine fx_bipush (n := 29) (v := 64) dd_M_isTorn_27 (by decide) rfl ?_
    refine fx_iload_n (n := 30) dd_M_isTorn_29 rfl 2 rfl rfl ?_
    refine fx_imul (n := 31) dd_M_isTorn_30 rfl ?_
    refine fx_bipush (n := 33) (v := 62) dd_M_isTorn_31 (by decide) rfl ?_
    refine fx_iadd (n := 34) dd_M_isTorn_33 rfl ?_
    obtain ⟨q8, h⟩ := h
    refine fx_callV (n := 37) (vs := [_]) dd_M_isTorn_34 mw_M_wordAt ⟨wd_639, wd_641, wp_34⟩ rfl (by decide) q8.1 q8.2 rfl rfl ⟨Nat.le_of_ble_eq_true rfl, Nat.le_of_ble_eq_true rfl, Nat.le_of_ble_eq_true rfl, fx_nx, rfl⟩ rfl h (fx_qi_k fun x9 S7 h => ?_) (fun _ _ h => h)
    refine fx_iload_n (n := 38) dd_M_isTorn_37 rfl 0 rfl rfl ?_
    refine fx_icmp_eq (n := 41) (tg := 45) dd_M_isTorn_38 rfl rfl (fun hc => ?_) (fun hc => ?_)
    · replace h := h.1 hc
      refine fx_iconst (n := 46) (v := 0) dd_M_isTorn_45 (by decide) rfl ?_
      exact fx_zret dd_M_isTorn_46 rfl rfl h
    · replace h := h.2 hc
      refine fx_iconst (n := 42) (v := 1) dd_M_isTorn_41 (by decide) rfl ?_
      refine fx_goto (n := 46) dd_M_isTorn_42 rfl ?_
      exact fx_zret dd_M_isTorn_46 rfl rfl h
theorem bk_M_isRecord_0 {G : fx_G} {S : fx_S} {Q : fx_R → fx_S → Prop} (v0 : Nat) (v1 : Int32) (h : fx_is S v0 5 ∧ ((fx_I S v0 4) = 0 → Q (.inl (some (.int 0))) S) ∧ (¬ (fx_I S v0 4) = 0 → (v1 < 0 → Q (.inl (some (.int 0))) S) ∧ (¬ v1 < 0 → (12 ≤ v1 → Q (.inl (some (.int 0))) S) ∧ (¬ 12 ≤ v1 → ∃ r2, fx_P S v0 2 = some r2 ∧ fx_is S r2 101 ∧ vp_in v1 (fx_ln S r2) ∧ ((fx_I S r2 (v1.toNatClampNeg)) = 0 → Q (.inl (some (.int 0))) S) ∧ (¬ (fx_I S r2 (v1.toNatClampNeg)) = 0 → Q (.inl (some (.int 1))) S))))) :
    fx_Go G (0, 0) mm_M_isRecord 0 [(0, fx_r G v0), (1, .int v1)] [] S Q := by
  refine fx_aload_n (n := 1) dd_M_isRecord_0 rfl 0 rfl rfl ?_
  obtain ⟨q1, h⟩ := h
  refine fx_getI (n := 4) dd_M_isRecord_1 fw_M_50 (by decide) rfl rfl q1.1 q1.2 ?_
  refine fx_if_eq (n := 7) (tg := 30) dd_M_isRecord_4 rfl rfl (fun hc => ?_) (fun hc => ?_)
  · replace h := h.1 hc
    refine fx_iconst (n := 31) (v := 0) dd_M_isRecord_30 (by decide) rfl ?_
    exact fx_zret dd_M_isRecord_31 rfl rfl h
  · replace h := h.2 hc
    refine fx_iload_n (n := 8) dd_M_isRecord_7 rfl 1 rfl rfl ?_
    refine fx_if_lt (n := 11) (tg := 30) dd_M_isRecord_8 rfl rfl (fun hc => ?_) (fun hc => ?_)
    · replace h := h.1 hc
      refine fx_iconst (n := 31) (v := 0) dd_M_isRecord_30 (by decide) rfl ?_
      exact fx_zret dd_M_isRecord_31 rfl rfl h
    · replace h := h.2 hc
      refine fx_iload_n (n := 12) dd_M_isRecord_11 rfl 1 rfl rfl ?_
      refine fx_bipush (n := 14) (v := 12) dd_M_isRecord_12 (by decide) rfl ?_
      refine fx_icmp_ge (n := 17) (tg := 30) dd_M_isRecord_14 rfl rfl (fun hc => ?_) (fun hc => ?_)
      · replace h := h.1 hc
        refine fx_iconst (n := 31) (v := 0) dd_M_isRecord_30 (by decide) rfl ?_
        exact fx_zret dd_M_isRecord_31 rfl rfl h
      · replace h := h.2 hc
        refine fx_aload_n (n := 18) dd_M_isRecord_17 rfl 0 rfl rfl ?_
        obtain ⟨r2, hr2, h⟩ := h
        refine fx_getP (n := 21) dd_M_isRecord_18 fw_M_13 (by decide) rfl rfl q1.1 q1.2 hr2 ?_
        refine fx_iload_n (n := 22) dd_M_isRecord_21 rfl 1 rfl rfl ?_
        obtain ⟨q3, h⟩ := h
        obtain ⟨q4, h⟩ := h
        refine fx_zald (n := 23) dd_M_isRecord_22 rfl q3.1 q3.2 q4 ?_
        refine fx_if_eq (n := 26) (tg := 30) dd_M_isRecord_23 rfl rfl (fun hc => ?_) (fun hc => ?_)
        · replace h := h.1 hc
          refine fx_iconst (n := 31) (v := 0) dd_M_isRecord_30 (by decide) rfl ?_
          exact fx_zret dd_M_isRecord_31 rfl rfl h
        · replace h := h.2 hc
          refine fx_iconst (n := 27) (v := 1) dd_M_isRecord_26 (by decide) rfl ?_
          refine fx_goto (n := 31) dd_M_isRecord_27 rfl ?_
          exact fx_zret dd_M_isRecord_31 rfl rfl h
theorem bk_M_isKind_0 {G : fx_G} {S : fx_S} {Q : fx_R → fx_S → Prop} (v0 : Nat) (v1 : Int32) (v2 : Int32) (h : fx_is S v0 5 ∧ fx_Go G (0, 0) mm_M_isRecord 0 [(0, fx_r G v0), (1, .int v1)] [] S (fx_qi (fun x3 S1 => (x3 = 0 → Q (.inl (some (.int 0))) S1) ∧ (¬ x3 = 0 → fx_is S1 v0 5 ∧ fx_Go G (0, 0) mm_M_byteOf 0 [(0, fx_r G v0), (1, .int v1), (2, .int 0)] [] S1 (fx_qi (fun x6 S4 => (¬ x6 = v2 → Q (.inl (some (.int 0))) S4) ∧ (x6 = v2 → Q (.inl (some (.int 1))) S4)) Q))) Q)) :
    fx_Go G (1, 15) mm_M_isKind 0 [(0, fx_r G v0), (1, .int v1), (2, .int v2)] [] S Q := by
  refine fx_aload_n (n := 1) dd_M_isKind_0 rfl 0 rfl rfl ?_
  refine fx_iload_n (n := 2) dd_M_isKind_1 rfl 1 rfl rfl ?_
  obtain ⟨q2, h⟩ := h
  refine fx_callV (n := 5) (vs := [_]) dd_M_isKind_2 mw_M_isRecord ⟨wd_725, wd_727, wp_39⟩ rfl (by decide) q2.1 q2.2 rfl rfl ⟨Nat.le_of_ble_eq_true rfl, Nat.le_of_ble_eq_true rfl, Nat.le_of_ble_eq_true rfl, fx_nx, rfl⟩ rfl h (fx_qi_k fun x3 S1 h => ?_) (fun _ _ h => h)
  refine fx_if_eq (n := 8) (tg := 22) dd_M_isKind_5 rfl rfl (fun hc => ?_) (fun hc => ?_)
  · replace h := h.1 hc
    refine fx_iconst (n := 23) (v := 0) dd_M_isKind_22 (by decide) rfl ?_
    exact fx_zret dd_M_isKind_23 rfl rfl h
  · replace h := h.2 hc
    refine fx_aload_n (n := 9) dd_M_isKind_8 rfl 0 rfl rfl ?_
    refine fx_iload_n (n := 10) dd_M_isKind_9 rfl 1 rfl rfl ?_
    refine fx_iconst (n := 11) (v := 0) dd_M_isKind_10 (by decide) rfl ?_
    obtain ⟨q5, h⟩ := h
    refine fx_callV (n := 14) (vs := [_, _]) dd_M_isKind_11 mw_M_byteOf ⟨wd_729, wd_731, wp_40⟩ rfl (by decide) q5.1 q5.2 rfl rfl ⟨Nat.le_of_ble_eq_true rfl, Nat.le_of_ble_eq_true rfl, Nat.le_of_ble_eq_true rfl, fx_nx, rfl⟩ rfl h (fx_qi_k fun x6 S4 h => ?_) (fun _ _ h => h)
    refine fx_iload_n (n := 15) dd_M_isKind_14 rfl 2 rfl rfl ?_
    refine fx_icmp_ne (n := 18) (tg := 22) dd_M_isKind_15 rfl rfl (fun hc => ?_) (fun hc => ?_)
    · replace h := h.1 hc
      refine fx_iconst (n := 23) (v := 0) dd_M_isKind_22 (by decide) rfl ?_
      exact fx_zret dd_M_isKind_23 rfl rfl h
    · replace h := h.2 hc
      refine fx_iconst (n := 19) (v := 1) dd_M_isKind_18 (by decide) rfl ?_
      refine fx_goto (n := 23) dd_M_isKind_19 rfl ?_
      exact fx_zret dd_M_isKind_23 rfl rfl h
theorem bk_M_attribute_0 {G : fx_G} {S : fx_S} {Q : fx_R → fx_S → Prop} (v0 : Nat) (v1 : Int32) (v2 : Int32) (h : fx_is S v0 5 ∧ fx_Go G (0, 0) mm_M_byteOf 0 [(0, fx_r G v0), (1, .int v1), (2, .int 8)] [] S (fx_qi (fun x3 S1 => fx_Go G (1, 16) mm_M_attribute 15 [(0, fx_r G v0), (1, .int v1), (2, .int v2), (3, .int 10), (4, .int (10 + x3))] [] S1 Q) Q)) :
    fx_Go G (1, 16) mm_M_attribute 0 [(0, fx_r G v0), (1, .int v1), (2, .int v2)] [] S Q := by
  refine fx_bipush (n := 2) (v := 10) dd_M_attribute_0 (by decide) rfl ?_
  refine fx_istore_n (n := 3) (L' := [(3, _), (0, _), (1, _), (2, _)]) dd_M_attribute_2 rfl (by decide) rfl rfl ?_
  refine fx_bipush (n := 5) (v := 10) dd_M_attribute_3 (by decide) rfl ?_
  refine fx_aload_n (n := 6) dd_M_attribute_5 rfl 1 rfl rfl ?_
  refine fx_iload_n (n := 7) dd_M_attribute_6 rfl 2 rfl rfl ?_
  refine fx_bipush (n := 9) (v := 8) dd_M_attribute_7 (by decide) rfl ?_
  obtain ⟨q2, h⟩ := h
  refine fx_callV (n := 12) (vs := [_, _]) dd_M_attribute_9 mw_M_byteOf ⟨wd_729, wd_731, wp_40⟩ rfl (by decide) q2.1 q2.2 rfl rfl ⟨Nat.le_of_ble_eq_true rfl, Nat.le_of_ble_eq_true rfl, Nat.le_of_ble_eq_true rfl, fx_nx, rfl⟩ rfl h (fx_qi_k fun x3 S1 h => ?_) (fun _ _ h => h)
  refine fx_iadd (n := 13) dd_M_attribute_12 rfl ?_
  refine fx_istore (n := 15) (L' := [(4, _), (3, _), (0, _), (1, _), (2, _)]) dd_M_attribute_13 (by decide) rfl rfl ?_
  refine fx_sub (L' := [(0, _), (1, _), (2, _), (3, _), (4, _)]) [2, 3, 4, 1, 0] rfl ?_
  exact h
theorem bk_M_attribute_15 {G : fx_G} {S : fx_S} {Q : fx_R → fx_S → Prop} (v0 : Nat) (v1 : Int32) (v2 : Int32) (v3 : Int32) (v4 : Int32) (h : (v4 ≤ v3 → Q (.inl (some (.int (-1)))) S) ∧ (¬ v4 ≤ v3 → fx_is S v0 5 ∧ fx_Go G (0, 0) mm_M_byteOf 0 [(0, fx_r G v0), (1, .int v1), (2, .int v3)] [] S (fx_qi (fun x3 S1 => (¬ x3 = v2 → fx_is S1 v0 5 ∧ fx_Go G (0, 0) mm_M_byteOf 0 [(0, fx_r G v0), (1, .int v1), (2, .int (v3 + 1))] [] S1 (fx_qi (fun x6 S4 => fx_Go G (1, 16) mm_M_attribute 15 [(0, fx_r G v0), (1, .int v1), (2, .int v2), (3, .int (v3 + x6)), (4, .int v4)] [] S4 Q) Q)) ∧ (x3 = v2 → Q (.inl (some (.int v3))) S1)) Q))) :
    fx_Go G (1, 16) mm_M_attribute 15 [(0, fx_r G v0), (1, .int v1), (2, .int v2), (3, .int v3), (4, .int v4)] [] S Q := by
  refine fx_iload_n (n := 16) dd_M_attribute_15 rfl 3 rfl rfl ?_
  refine fx_iload (n := 18) dd_M_attribute_16 4 rfl rfl ?_
  refine fx_icmp_ge (n := 21) (tg := 47) dd_M_attribute_18 rfl rfl (fun hc => ?_) (fun hc => ?_)
  · replace h := h.1 hc
    refine fx_iconst (n := 48) (v := (-1)) dd_M_attribute_47 (by decide) rfl ?_
    exact fx_iret dd_M_attribute_48 rfl h
  · replace h := h.2 hc
    refine fx_aload_n (n := 22) dd_M_attribute_21 rfl 0 rfl rfl ?_
    refine fx_iload_n (n := 23) dd_M_attribute_22 rfl 1 rfl rfl ?_
    refine fx_iload_n (n := 24) dd_M_attribute_23 rfl 3 rfl rfl ?_
    obtain ⟨q2, h⟩ := h
    refine fx_callV (n := 27) (vs := [_, _]) dd_M_attribute_24 mw_M_byteOf ⟨wd_729, wd_731, wp_40⟩ rfl (by decide) q2.1 q2.2 rfl rfl ⟨Nat.le_of_ble_eq_true rfl, Nat.le_of_ble_eq_true rfl, Nat.le_of_ble_eq_true rfl, fx_nx, rfl⟩ rfl h (fx_qi_k fun x3 S1 h => ?_) (fun _ _ h => h)
    refine fx_iload_n (n := 28) dd_M_attribute_27 rfl 2 rfl rfl ?_
    refine fx_icmp_ne (n := 31) (tg := 33) dd_M_attribute_28 rfl rfl (fun hc => ?_) (fun hc => ?_)
    · replace h := h.1 hc
      refine fx_iload_n (n := 34) dd_M_attribute_33 rfl 3 rfl rfl ?_
      refine fx_aload_n (n := 35) dd_M_attribute_34 rfl 0 rfl rfl ?_
      refine fx_iload_n (n := 36) dd_M_attribute_35 rfl 1 rfl rfl ?_
      refine fx_iload_n (n := 37) dd_M_attribute_36 rfl 3 rfl rfl ?_
      refine fx_iconst (n := 38) (v := 1) dd_M_attribute_37 (by decide) rfl ?_
      refine fx_iadd (n := 39) dd_M_attribute_38 rfl ?_
      obtain ⟨q5, h⟩ := h
      refine fx_callV (n := 42) (vs := [_, _]) dd_M_attribute_39 mw_M_byteOf ⟨wd_729, wd_731, wp_40⟩ rfl (by decide) q5.1 q5.2 rfl rfl ⟨Nat.le_of_ble_eq_true rfl, Nat.le_of_ble_eq_true rfl, Nat.le_of_ble_eq_true rfl, fx_nx, rfl⟩ rfl h (fx_qi_k fun x6 S4 h => ?_) (fun _ _ h => h)
      refine fx_iadd (n := 43) dd_M_attribute_42 rfl ?_
      refine fx_istore_n (n := 44) (L' := [(3, _), (0, _), (1, _), (2, _), (4, _)]) dd_M_attribute_43 rfl (by decide) rfl rfl ?_
      refine fx_goto (n := 15) dd_M_attribute_44 rfl ?_
      refine fx_sub (L' := [(0, _), (1, _), (2, _), (3, _), (4, _)]) [1, 2, 3, 0, 4] rfl ?_
      exact h
    · replace h := h.2 hc
      refine fx_iload_n (n := 32) dd_M_attribute_31 rfl 3 rfl rfl ?_
      exact fx_iret dd_M_attribute_32 rfl h
theorem bk_M_nameLength_0 {G : fx_G} {S : fx_S} {Q : fx_R → fx_S → Prop} (v0 : Nat) (v1 : Int32) (h : fx_is S v0 5 ∧ fx_Go G (1, 16) mm_M_attribute 0 [(0, fx_r G v0), (1, .int v1), (2, .int 1)] [] S (fx_qi (fun x3 S1 => (0 ≤ x3 → fx_is S1 v0 5 ∧ fx_Go G (0, 0) mm_M_byteOf 0 [(0, fx_r G v0), (1, .int v1), (2, .int 11)] [] S1 (fx_qi (fun x6 S4 => Q (.inl (some (.int (x6 - 2)))) S4) Q)) ∧ (¬ 0 ≤ x3 → Q (.inl (some (.int 0))) S1)) Q)) :
    fx_Go G (2, 32) mm_M_nameLength 0 [(0, fx_r G v0), (1, .int v1)] [] S Q := by
  refine fx_aload_n (n := 1) dd_M_nameLength_0 rfl 0 rfl rfl ?_
  refine fx_iload_n (n := 2) dd_M_nameLength_1 rfl 1 rfl rfl ?_
  refine fx_iconst (n := 3) (v := 1) dd_M_nameLength_2 (by decide) rfl ?_
  obtain ⟨q2, h⟩ := h
  refine fx_callV (n := 6) (vs := [_, _]) dd_M_nameLength_3 mw_M_attribute ⟨wd_741, wd_743, wp_43⟩ rfl (by decide) q2.1 q2.2 rfl rfl ⟨Nat.le_of_ble_eq_true rfl, Nat.le_of_ble_eq_true rfl, Nat.le_of_ble_eq_true rfl, fx_nx, rfl⟩ rfl h (fx_qi_k fun x3 S1 h => ?_) (fun _ _ h => h)
  refine fx_if_ge (n := 9) (tg := 13) dd_M_nameLength_6 rfl rfl (fun hc => ?_) (fun hc => ?_)
  · replace h := h.1 hc
    refine fx_aload_n (n := 14) dd_M_nameLength_13 rfl 0 rfl rfl ?_
    refine fx_iload_n (n := 15) dd_M_nameLength_14 rfl 1 rfl rfl ?_
    refine fx_bipush (n := 17) (v := 11) dd_M_nameLength_15 (by decide) rfl ?_
    obtain ⟨q5, h⟩ := h
    refine fx_callV (n := 20) (vs := [_, _]) dd_M_nameLength_17 mw_M_byteOf ⟨wd_729, wd_731, wp_40⟩ rfl (by decide) q5.1 q5.2 rfl rfl ⟨Nat.le_of_ble_eq_true rfl, Nat.le_of_ble_eq_true rfl, Nat.le_of_ble_eq_true rfl, fx_nx, rfl⟩ rfl h (fx_qi_k fun x6 S4 h => ?_) (fun _ _ h => h)
    refine fx_iconst (n := 21) (v := 2) dd_M_nameLength_20 (by decide) rfl ?_
    refine fx_isub (n := 22) dd_M_nameLength_21 rfl ?_
    exact fx_iret dd_M_nameLength_22 rfl h
  · replace h := h.2 hc
    refine fx_iconst (n := 10) (v := 0) dd_M_nameLength_9 (by decide) rfl ?_
    refine fx_goto (n := 22) dd_M_nameLength_10 rfl ?_
    exact fx_iret dd_M_nameLength_22 rfl h
theorem bk_M_nameAt_0 {G : fx_G} {S : fx_S} {Q : fx_R → fx_S → Prop} (v0 : Nat) (v1 : Int32) (v2 : Int32) (h : fx_is S v0 5 ∧ fx_Go G (2, 32) mm_M_nameLength 0 [(0, fx_r G v0), (1, .int v1)] [] S (fx_qi (fun x3 S1 => (x3 ≤ v2 → Q (.inl (some (.int 0))) S1) ∧ (¬ x3 ≤ v2 → fx_is S1 v0 5 ∧ fx_Go G (0, 0) mm_M_byteOf 0 [(0, fx_r G v0), (1, .int v1), (2, .int (12 + v2))] [] S1 (fx_qi (fun x6 S4 => Q (.inl (some (.int x6))) S4) Q))) Q)) :
    fx_Go G (3, 46) mm_M_nameAt 0 [(0, fx_r G v0), (1, .int v1), (2, .int v2)] [] S Q := by
  refine fx_iload_n (n := 1) dd_M_nameAt_0 rfl 2 rfl rfl ?_
  refine fx_aload_n (n := 2) dd_M_nameAt_1 rfl 0 rfl rfl ?_
  refine fx_iload_n (n := 3) dd_M_nameAt_2 rfl 1 rfl rfl ?_
  obtain ⟨q2, h⟩ := h
  refine fx_callV (n := 6) (vs := [_]) dd_M_nameAt_3 mw_M_nameLength ⟨wd_753, wd_755, wp_46⟩ rfl (by decide) q2.1 q2.2 rfl rfl ⟨Nat.le_of_ble_eq_true rfl, Nat.le_of_ble_eq_true rfl, Nat.le_of_ble_eq_true rfl, fx_nx, rfl⟩ rfl h (fx_qi_k fun x3 S1 h => ?_) (fun _ _ h => h)
  refine fx_icmp_ge (n := 9) (tg := 21) dd_M_nameAt_6 rfl rfl (fun hc => ?_) (fun hc => ?_)
  · replace h := h.1 hc
    refine fx_iconst (n := 22) (v := 0) dd_M_nameAt_21 (by decide) rfl ?_
    exact fx_iret dd_M_nameAt_22 rfl h
  · replace h := h.2 hc
    refine fx_aload_n (n := 10) dd_M_nameAt_9 rfl 0 rfl rfl ?_
    refine fx_iload_n (n := 11) dd_M_nameAt_10 rfl 1 rfl rfl ?_
    refine fx_bipush (n := 13) (v := 12) dd_M_nameAt_11 (by decide) rfl ?_
    refine fx_iload_n (n := 14) dd_M_nameAt_13 rfl 2 rfl rfl ?_
    refine fx_iadd (n := 15) dd_M_nameAt_14 rfl ?_
    obtain ⟨q5, h⟩ := h
    refine fx_callV (n := 18) (vs := [_, _]) dd_M_nameAt_15 mw_M_byteOf ⟨wd_729, wd_731, wp_40⟩ rfl (by decide) q5.1 q5.2 rfl rfl ⟨Nat.le_of_ble_eq_true rfl, Nat.le_of_ble_eq_true rfl, Nat.le_of_ble_eq_true rfl, fx_nx, rfl⟩ rfl h (fx_qi_k fun x6 S4 h => ?_) (fun _ _ h => h)
    refine fx_goto (n := 22) dd_M_nameAt_18 rfl ?_
    exact fx_iret dd_M_nameAt_22 rfl h
theorem bk_M_compareNames_0 {G : fx_G} {S : fx_S} {Q : fx_R → fx_S → Prop} (v0 : Nat) (v1 : Int32) (v2 : Int32) (h : fx_Go G (4, 61) mm_M_compareNames 2 [(0, fx_r G v0), (1, .int v1), (2, .int v2), (3, .int 0)] [] S Q) :
    fx_Go G (4, 61) mm_M_compareNames 0 [(0, fx_r G v0), (1, .int v1), (2, .int v2)] [] S Q := by
  refine fx_iconst (n := 1) (v := 0) dd_M_compareNames_0 (by decide) rfl ?_
  refine fx_istore_n (n := 2) (L' := [(3, _), (0, _), (1, _), (2, _)]) dd_M_compareNames_1 rfl (by decide) rfl rfl ?_
  refine fx_sub (L' := [(0, _), (1, _), (2, _), (3, _)]) [1, 2, 3, 0] rfl ?_
  exact h
theorem bk_M_compareNames_2 {G : fx_G} {S : fx_S} {Q : fx_R → fx_S → Prop} (v0 : Nat) (v1 : Int32) (v2 : Int32) (v3 : Int32) (h : (8 ≤ v3 → Q (.inl (some (.int 0))) S) ∧ (¬ 8 ≤ v3 → fx_is S v0 5 ∧ fx_Go G (3, 46) mm_M_nameAt 0 [(0, fx_r G v0), (1, .int v1), (2, .int v3)] [] S (fx_qi (fun x3 S1 => fx_is S1 v0 5 ∧ fx_Go G (3, 46) mm_M_nameAt 0 [(0, fx_r G v0), (1, .int v2), (2, .int v3)] [] S1 (fx_qi (fun x6 S4 => (x3 = x6 → fx_Go G (4, 61) mm_M_compareNames 2 [(0, fx_r G v0), (1, .int v1), (2, .int v2), (3, .int (v3 + Int32.ofInt 1))] [] S4 Q) ∧ (¬ x3 = x6 → fx_is S4 v0 5 ∧ fx_Go G (3, 46) mm_M_nameAt 0 [(0, fx_r G v0), (1, .int v1), (2, .int v3)] [] S4 (fx_qi (fun x9 S7 => fx_is S7 v0 5 ∧ fx_Go G (3, 46) mm_M_nameAt 0 [(0, fx_r G v0), (1, .int v2), (2, .int v3)] [] S7 (fx_qi (fun x12 S10 => (x12 ≤ x9 → Q (.inl (some (.int 1))) S10) ∧ (¬ x12 ≤ x9 → Q (.inl (some (.int (-1)))) S10)) Q)) Q))) Q)) Q))) :
    fx_Go G (4, 61) mm_M_compareNames 2 [(0, fx_r G v0), (1, .int v1), (2, .int v2), (3, .int v3)] [] S Q := by
  refine fx_iload_n (n := 3) dd_M_compareNames_2 rfl 3 rfl rfl ?_
  refine fx_bipush (n := 5) (v := 8) dd_M_compareNames_3 (by decide) rfl ?_
  refine fx_icmp_ge (n := 8) (tg := 50) dd_M_compareNames_5 rfl rfl (fun hc => ?_) (fun hc => ?_)
  · replace h := h.1 hc
    refine fx_iconst (n := 51) (v := 0) dd_M_compareNames_50 (by decide) rfl ?_
    exact fx_iret dd_M_compareNames_51 rfl h
  · replace h := h.2 hc
    refine fx_aload_n (n := 9) dd_M_compareNames_8 rfl 0 rfl rfl ?_
    refine fx_iload_n (n := 10) dd_M_compareNames_9 rfl 1 rfl rfl ?_
    refine fx_iload_n (n := 11) dd_M_compareNames_10 rfl 3 rfl rfl ?_
    obtain ⟨q2, h⟩ := h
    refine fx_callV (n := 14) (vs := [_, _]) dd_M_compareNames_11 mw_M_nameAt ⟨wd_757, wd_759, wp_47⟩ rfl (by decide) q2.1 q2.2 rfl rfl ⟨Nat.le_of_ble_eq_true rfl, Nat.le_of_ble_eq_true rfl, Nat.le_of_ble_eq_true rfl, fx_nx, rfl⟩ rfl h (fx_qi_k fun x3 S1 h => ?_) (fun _ _ h => h)
    refine fx_aload_n (n := 15) dd_M_compareNames_14 rfl 0 rfl rfl ?_
    refine fx_iload_n (n := 16) dd_M_compareNames_15 rfl 2 rfl rfl ?_
    refine fx_iload_n (n := 17) dd_M_compareNames_16 rfl 3 rfl rfl ?_
    obtain ⟨q5, h⟩ := h
    refine fx_callV (n := 20) (vs := [_, _]) dd_M_compareNames_17 mw_M_nameAt ⟨wd_757, wd_759, wp_47⟩ rfl (by decide) q5.1 q5.2 rfl rfl ⟨Nat.le_of_ble_eq_true rfl, Nat.le_of_ble_eq_true rfl, Nat.le_of_ble_eq_true rfl, fx_nx, rfl⟩ rfl h (fx_qi_k fun x6 S4 h => ?_) (fun _ _ h => h)
    refine fx_icmp_eq (n := 23) (tg := 44) dd_M_compareNames_20 rfl rfl (fun hc => ?_) (fun hc => ?_)
    · replace h := h.1 hc
      refine fx_iinc (n := 47) (L' := [(3, _), (0, _), (1, _), (2, _)]) dd_M_compareNames_44 3 rfl rfl (by decide) rfl rfl ?_
      refine fx_goto (n := 2) dd_M_compareNames_47 rfl ?_
      refine fx_sub (L' := [(0, _), (1, _), (2, _), (3, _)]) [1, 2, 3, 0] rfl ?_
      exact h
    · replace h := h.2 hc
      refine fx_aload_n (n := 24) dd_M_compareNames_23 rfl 0 rfl rfl ?_
      refine fx_iload_n (n := 25) dd_M_compareNames_24 rfl 1 rfl rfl ?_
      refine fx_iload_n (n := 26) dd_M_compareNames_25 rfl 3 rfl rfl ?_
      obtain ⟨q8, h⟩ := h
      refine fx_callV (n := 29) (vs := [_, _]) dd_M_compareNames_26 mw_M_nameAt ⟨wd_757, wd_759, wp_47⟩ rfl (by decide) q8.1 q8.2 rfl rfl ⟨Nat.le_of_ble_eq_true rfl, Nat.le_of_ble_eq_true rfl, Nat.le_of_ble_eq_true rfl, fx_nx, rfl⟩ rfl h (fx_qi_k fun x9 S7 h => ?_) (fun _ _ h => h)
      refine fx_aload_n (n := 30) dd_M_compareNames_29 rfl 0 rfl rfl ?_
      refine fx_iload_n (n := 31) dd_M_compareNames_30 rfl 2 rfl rfl ?_
      refine fx_iload_n (n := 32) dd_M_compareNames_31 rfl 3 rfl rfl ?_
      obtain ⟨q11, h⟩ := h
      refine fx_callV (n := 35) (vs := [_, _]) dd_M_compareNames_32 mw_M_nameAt ⟨wd_757, wd_759, wp_47⟩ rfl (by decide) q11.1 q11.2 rfl rfl ⟨Nat.le_of_ble_eq_true rfl, Nat.le_of_ble_eq_true rfl, Nat.le_of_ble_eq_true rfl, fx_nx, rfl⟩ rfl h (fx_qi_k fun x12 S10 h => ?_) (fun _ _ h => h)
      refine fx_icmp_ge (n := 38) (tg := 42) dd_M_compareNames_35 rfl rfl (fun hc => ?_) (fun hc => ?_)
      · replace h := h.1 hc
        refine fx_iconst (n := 43) (v := 1) dd_M_compareNames_42 (by decide) rfl ?_
        exact fx_iret dd_M_compareNames_43 rfl h
      · replace h := h.2 hc
        refine fx_iconst (n := 39) (v := (-1)) dd_M_compareNames_38 (by decide) rfl ?_
        refine fx_goto (n := 43) dd_M_compareNames_39 rfl ?_
        exact fx_iret dd_M_compareNames_43 rfl h
theorem bk_M_isDraft_0 {G : fx_G} {S : fx_S} {Q : fx_R → fx_S → Prop} (v0 : Nat) (v1 : Int32) (h : fx_is S v0 5 ∧ fx_Go G (2, 32) mm_M_nameLength 0 [(0, fx_r G v0), (1, .int v1)] [] S (fx_qi (fun x3 S1 => fx_is S1 v0 5 ∧ (¬ x3 = (fx_I S1 v0 6) → fx_Go G (4, 60) mm_M_isDraft 20 [(0, fx_r G v0), (1, .int v1), (2, .int 0), (3, .int 0)] [] S1 Q) ∧ (x3 = (fx_I S1 v0 6) → fx_Go G (4, 60) mm_M_isDraft 20 [(0, fx_r G v0), (1, .int v1), (2, .int 1), (3, .int 0)] [] S1 Q)) Q)) :
    fx_Go G (4, 60) mm_M_isDraft 0 [(0, fx_r G v0), (1, .int v1)] [] S Q := by
  refine fx_aload_n (n := 1) dd_M_isDraft_0 rfl 0 rfl rfl ?_
  refine fx_iload_n (n := 2) dd_M_isDraft_1 rfl 1 rfl rfl ?_
  obtain ⟨q2, h⟩ := h
  refine fx_callV (n := 5) (vs := [_]) dd_M_isDraft_2 mw_M_nameLength ⟨wd_753, wd_755, wp_46⟩ rfl (by decide) q2.1 q2.2 rfl rfl ⟨Nat.le_of_ble_eq_true rfl, Nat.le_of_ble_eq_true rfl, Nat.le_of_ble_eq_true rfl, fx_nx, rfl⟩ rfl h (fx_qi_k fun x3 S1 h => ?_) (fun _ _ h => h)
  refine fx_aload_n (n := 6) dd_M_isDraft_5 rfl 0 rfl rfl ?_
  obtain ⟨q4, h⟩ := h
  refine fx_getI (n := 9) dd_M_isDraft_6 fw_M_78 (by decide) rfl rfl q4.1 q4.2 ?_
  refine fx_icmp_ne (n := 12) (tg := 16) dd_M_isDraft_9 rfl rfl (fun hc => ?_) (fun hc => ?_)
  · replace h := h.1 hc
    refine fx_iconst (n := 17) (v := 0) dd_M_isDraft_16 (by decide) rfl ?_
    refine fx_istore_n (n := 18) (L' := [(2, _), (0, _), (1, _)]) dd_M_isDraft_17 rfl (by decide) rfl rfl ?_
    refine fx_iconst (n := 19) (v := 0) dd_M_isDraft_18 (by decide) rfl ?_
    refine fx_istore_n (n := 20) (L' := [(3, _), (2, _), (0, _), (1, _)]) dd_M_isDraft_19 rfl (by decide) rfl rfl ?_
    refine fx_sub (L' := [(0, _), (1, _), (2, _), (3, _)]) [2, 3, 1, 0] rfl ?_
    exact h
  · replace h := h.2 hc
    refine fx_iconst (n := 13) (v := 1) dd_M_isDraft_12 (by decide) rfl ?_
    refine fx_goto (n := 17) dd_M_isDraft_13 rfl ?_
    refine fx_istore_n (n := 18) (L' := [(2, _), (0, _), (1, _)]) dd_M_isDraft_17 rfl (by decide) rfl rfl ?_
    refine fx_iconst (n := 19) (v := 0) dd_M_isDraft_18 (by decide) rfl ?_
    refine fx_istore_n (n := 20) (L' := [(3, _), (2, _), (0, _), (1, _)]) dd_M_isDraft_19 rfl (by decide) rfl rfl ?_
    refine fx_sub (L' := [(0, _), (1, _), (2, _), (3, _)]) [2, 3, 1, 0] rfl ?_
    exact h
theorem bk_M_isDraft_20 {G : fx_G} {S : fx_S} {Q : fx_R → fx_S → Prop} (v0 : Nat) (v1 : Int32) (v2 : Int32) (v3 : Int32) (h : fx_is S v0 5 ∧ ((fx_I S v0 6) ≤ v3 → narrow .boolean (.int v2) = .int v2 ∧ Q (.inl (some (.int v2))) S) ∧ (¬ (fx_I S v0 6) ≤ v3 → (v2 = 0 → narrow .boolean (.int v2) = .int v2 ∧ Q (.inl (some (.int v2))) S) ∧ (¬ v2 = 0 → fx_Go G (3, 46) mm_M_nameAt 0 [(0, fx_r G v0), (1, .int v1), (2, .int v3)] [] S (fx_qi (fun x3 S2 => fx_is S2 v0 5 ∧ ∃ r5, fx_P S2 v0 7 = some r5 ∧ fx_is S2 r5 102 ∧ vp_in v3 (fx_ln S2 r5) ∧ (¬ x3 = (fx_I S2 r5 (v3.toNatClampNeg)) → fx_Go G (4, 60) mm_M_isDraft 20 [(0, fx_r G v0), (1, .int v1), (2, .int 0), (3, .int (v3 + Int32.ofInt 1))] [] S2 Q) ∧ (x3 = (fx_I S2 r5 (v3.toNatClampNeg)) → fx_Go G (4, 60) mm_M_isDraft 20 [(0, fx_r G v0), (1, .int v1), (2, .int 1), (3, .int (v3 + Int32.ofInt 1))] [] S2 Q)) Q)))) :
    fx_Go G (4, 60) mm_M_isDraft 20 [(0, fx_r G v0), (1, .int v1), (2, .int v2), (3, .int v3)] [] S Q := by
  refine fx_iload_n (n := 21) dd_M_isDraft_20 rfl 3 rfl rfl ?_
  refine fx_aload_n (n := 22) dd_M_isDraft_21 rfl 0 rfl rfl ?_
  obtain ⟨q1, h⟩ := h
  refine fx_getI (n := 25) dd_M_isDraft_22 fw_M_78 (by decide) rfl rfl q1.1 q1.2 ?_
  refine fx_icmp_ge (n := 28) (tg := 59) dd_M_isDraft_25 rfl rfl (fun hc => ?_) (fun hc => ?_)
  · replace h := h.1 hc
    refine fx_iload_n (n := 60) dd_M_isDraft_59 rfl 2 rfl rfl ?_
    exact fx_zret dd_M_isDraft_60 rfl h.1 h.2
  · replace h := h.2 hc
    refine fx_iload_n (n := 29) dd_M_isDraft_28 rfl 2 rfl rfl ?_
    refine fx_if_eq (n := 32) (tg := 59) dd_M_isDraft_29 rfl rfl (fun hc => ?_) (fun hc => ?_)
    · replace h := h.1 hc
      refine fx_iload_n (n := 60) dd_M_isDraft_59 rfl 2 rfl rfl ?_
      exact fx_zret dd_M_isDraft_60 rfl h.1 h.2
    · replace h := h.2 hc
      refine fx_aload_n (n := 33) dd_M_isDraft_32 rfl 0 rfl rfl ?_
      refine fx_iload_n (n := 34) dd_M_isDraft_33 rfl 1 rfl rfl ?_
      refine fx_iload_n (n := 35) dd_M_isDraft_34 rfl 3 rfl rfl ?_
      refine fx_callV (n := 38) (vs := [_, _]) dd_M_isDraft_35 mw_M_nameAt ⟨wd_757, wd_759, wp_47⟩ rfl (by decide) q1.1 q1.2 rfl rfl ⟨Nat.le_of_ble_eq_true rfl, Nat.le_of_ble_eq_true rfl, Nat.le_of_ble_eq_true rfl, fx_nx, rfl⟩ rfl h (fx_qi_k fun x3 S2 h => ?_) (fun _ _ h => h)
      refine fx_aload_n (n := 39) dd_M_isDraft_38 rfl 0 rfl rfl ?_
      obtain ⟨q4, h⟩ := h
      obtain ⟨r5, hr5, h⟩ := h
      refine fx_getP (n := 42) dd_M_isDraft_39 fw_M_20 (by decide) rfl rfl q4.1 q4.2 hr5 ?_
      refine fx_iload_n (n := 43) dd_M_isDraft_42 rfl 3 rfl rfl ?_
      obtain ⟨q6, h⟩ := h
      obtain ⟨q7, h⟩ := h
      refine fx_cald (n := 44) dd_M_isDraft_43 rfl q6.1 q6.2 q7 ?_
      refine fx_icmp_ne (n := 47) (tg := 51) dd_M_isDraft_44 rfl rfl (fun hc => ?_) (fun hc => ?_)
      · replace h := h.1 hc
        refine fx_iconst (n := 52) (v := 0) dd_M_isDraft_51 (by decide) rfl ?_
        refine fx_istore_n (n := 53) (L' := [(2, _), (0, _), (1, _), (3, _)]) dd_M_isDraft_52 rfl (by decide) rfl rfl ?_
        refine fx_iinc (n := 56) (L' := [(3, _), (2, _), (0, _), (1, _)]) dd_M_isDraft_53 3 rfl rfl (by decide) rfl rfl ?_
        refine fx_goto (n := 20) dd_M_isDraft_56 rfl ?_
        refine fx_sub (L' := [(0, _), (1, _), (2, _), (3, _)]) [2, 3, 1, 0] rfl ?_
        exact h
      · replace h := h.2 hc
        refine fx_iconst (n := 48) (v := 1) dd_M_isDraft_47 (by decide) rfl ?_
        refine fx_goto (n := 52) dd_M_isDraft_48 rfl ?_
        refine fx_istore_n (n := 53) (L' := [(2, _), (0, _), (1, _), (3, _)]) dd_M_isDraft_52 rfl (by decide) rfl rfl ?_
        refine fx_iinc (n := 56) (L' := [(3, _), (2, _), (0, _), (1, _)]) dd_M_isDraft_53 3 rfl rfl (by decide) rfl rfl ?_
        refine fx_goto (n := 20) dd_M_isDraft_56 rfl ?_
        refine fx_sub (L' := [(0, _), (1, _), (2, _), (3, _)]) [2, 3, 1, 0] rfl ?_
        exact h
theorem bk_M_listLength_0 {G : fx_G} {S : fx_S} {Q : fx_R → fx_S → Prop} (v0 : Nat) (v1 : Int32) (h : fx_is S v0 5 ∧ fx_Go G (1, 16) mm_M_attribute 0 [(0, fx_r G v0), (1, .int v1), (2, .int 4)] [] S (fx_qi (fun x3 S1 => fx_is S1 v0 5 ∧ fx_Go G (0, 0) mm_M_byteOf 0 [(0, fx_r G v0), (1, .int v1), (2, .int (x3 + 1))] [] S1 (fx_qi (fun x6 S4 => Q (.inl (some (.int (x6 - 2)))) S4) Q)) Q)) :
    fx_Go G (2, 34) mm_M_listLength 0 [(0, fx_r G v0), (1, .int v1)] [] S Q := by
  refine fx_aload_n (n := 1) dd_M_listLength_0 rfl 0 rfl rfl ?_
  refine fx_iload_n (n := 2) dd_M_listLength_1 rfl 1 rfl rfl ?_
  refine fx_aload_n (n := 3) dd_M_listLength_2 rfl 0 rfl rfl ?_
  refine fx_iload_n (n := 4) dd_M_listLength_3 rfl 1 rfl rfl ?_
  refine fx_iconst (n := 5) (v := 4) dd_M_listLength_4 (by decide) rfl ?_
  obtain ⟨q2, h⟩ := h
  refine fx_callV (n := 8) (vs := [_, _]) dd_M_listLength_5 mw_M_attribute ⟨wd_741, wd_743, wp_43⟩ rfl (by decide) q2.1 q2.2 rfl rfl ⟨Nat.le_of_ble_eq_true rfl, Nat.le_of_ble_eq_true rfl, Nat.le_of_ble_eq_true rfl, fx_nx, rfl⟩ rfl h (fx_qi_k fun x3 S1 h => ?_) (fun _ _ h => h)
  refine fx_iconst (n := 9) (v := 1) dd_M_listLength_8 (by decide) rfl ?_
  refine fx_iadd (n := 10) dd_M_listLength_9 rfl ?_
  obtain ⟨q5, h⟩ := h
  refine fx_callV (n := 13) (vs := [_, _]) dd_M_listLength_10 mw_M_byteOf ⟨wd_729, wd_731, wp_40⟩ rfl (by decide) q5.1 q5.2 rfl rfl ⟨Nat.le_of_ble_eq_true rfl, Nat.le_of_ble_eq_true rfl, Nat.le_of_ble_eq_true rfl, fx_nx, rfl⟩ rfl h (fx_qi_k fun x6 S4 h => ?_) (fun _ _ h => h)
  refine fx_iconst (n := 14) (v := 2) dd_M_listLength_13 (by decide) rfl ?_
  refine fx_isub (n := 15) dd_M_listLength_14 rfl ?_
  exact fx_iret dd_M_listLength_15 rfl h
theorem bk_M_entry_0 {G : fx_G} {S : fx_S} {Q : fx_R → fx_S → Prop} (v0 : Nat) (v1 : Int32) (v2 : Int32) (h : fx_is S v0 5 ∧ fx_Go G (1, 16) mm_M_attribute 0 [(0, fx_r G v0), (1, .int v1), (2, .int 4)] [] S (fx_qi (fun x3 S1 => fx_is S1 v0 5 ∧ fx_Go G (0, 0) mm_M_byteOf 0 [(0, fx_r G v0), (1, .int v1), (2, .int ((x3 + 2) + v2))] [] S1 (fx_qi (fun x6 S4 => Q (.inl (some (.int x6))) S4) Q)) Q)) :
    fx_Go G (2, 34) mm_M_entry 0 [(0, fx_r G v0), (1, .int v1), (2, .int v2)] [] S Q := by
  refine fx_aload_n (n := 1) dd_M_entry_0 rfl 0 rfl rfl ?_
  refine fx_iload_n (n := 2) dd_M_entry_1 rfl 1 rfl rfl ?_
  refine fx_aload_n (n := 3) dd_M_entry_2 rfl 0 rfl rfl ?_
  refine fx_iload_n (n := 4) dd_M_entry_3 rfl 1 rfl rfl ?_
  refine fx_iconst (n := 5) (v := 4) dd_M_entry_4 (by decide) rfl ?_
  obtain ⟨q2, h⟩ := h
  refine fx_callV (n := 8) (vs := [_, _]) dd_M_entry_5 mw_M_attribute ⟨wd_741, wd_743, wp_43⟩ rfl (by decide) q2.1 q2.2 rfl rfl ⟨Nat.le_of_ble_eq_true rfl, Nat.le_of_ble_eq_true rfl, Nat.le_of_ble_eq_true rfl, fx_nx, rfl⟩ rfl h (fx_qi_k fun x3 S1 h => ?_) (fun _ _ h => h)
  refine fx_iconst (n := 9) (v := 2) dd_M_entry_8 (by decide) rfl ?_
  refine fx_iadd (n := 10) dd_M_entry_9 rfl ?_
  refine fx_iload_n (n := 11) dd_M_entry_10 rfl 2 rfl rfl ?_
  refine fx_iadd (n := 12) dd_M_entry_11 rfl ?_
  obtain ⟨q5, h⟩ := h
  refine fx_callV (n := 15) (vs := [_, _]) dd_M_entry_12 mw_M_byteOf ⟨wd_729, wd_731, wp_40⟩ rfl (by decide) q5.1 q5.2 rfl rfl ⟨Nat.le_of_ble_eq_true rfl, Nat.le_of_ble_eq_true rfl, Nat.le_of_ble_eq_true rfl, fx_nx, rfl⟩ rfl h (fx_qi_k fun x6 S4 h => ?_) (fun _ _ h => h)
  exact fx_iret dd_M_entry_15 rfl h
theorem bk_M_isInside_0 {G : fx_G} {S : fx_S} {Q : fx_R → fx_S → Prop} (v0 : Nat) (v1 : Int32) (h : fx_is S v0 5 ∧ fx_Go G (1, 16) mm_M_attribute 0 [(0, fx_r G v0), (1, .int v1), (2, .int 2)] [] S (fx_qi (fun x3 S1 => (x3 < 0 → Q (.inl (some (.int 0))) S1) ∧ (¬ x3 < 0 → Q (.inl (some (.int 1))) S1)) Q)) :
    fx_Go G (2, 32) mm_M_isInside 0 [(0, fx_r G v0), (1, .int v1)] [] S Q := by
  refine fx_aload_n (n := 1) dd_M_isInside_0 rfl 0 rfl rfl ?_
  refine fx_iload_n (n := 2) dd_M_isInside_1 rfl 1 rfl rfl ?_
  refine fx_iconst (n := 3) (v := 2) dd_M_isInside_2 (by decide) rfl ?_
  obtain ⟨q2, h⟩ := h
  refine fx_callV (n := 6) (vs := [_, _]) dd_M_isInside_3 mw_M_attribute ⟨wd_741, wd_743, wp_43⟩ rfl (by decide) q2.1 q2.2 rfl rfl ⟨Nat.le_of_ble_eq_true rfl, Nat.le_of_ble_eq_true rfl, Nat.le_of_ble_eq_true rfl, fx_nx, rfl⟩ rfl h (fx_qi_k fun x3 S1 h => ?_) (fun _ _ h => h)
  refine fx_if_lt (n := 9) (tg := 13) dd_M_isInside_6 rfl rfl (fun hc => ?_) (fun hc => ?_)
  · replace h := h.1 hc
    refine fx_iconst (n := 14) (v := 0) dd_M_isInside_13 (by decide) rfl ?_
    exact fx_zret dd_M_isInside_14 rfl rfl h
  · replace h := h.2 hc
    refine fx_iconst (n := 10) (v := 1) dd_M_isInside_9 (by decide) rfl ?_
    refine fx_goto (n := 14) dd_M_isInside_10 rfl ?_
    exact fx_zret dd_M_isInside_14 rfl rfl h
theorem bk_M_sizeOf_0 {G : fx_G} {S : fx_S} {Q : fx_R → fx_S → Prop} (v0 : Nat) (v1 : Int32) (h : fx_is S v0 5 ∧ fx_Go G (1, 16) mm_M_attribute 0 [(0, fx_r G v0), (1, .int v1), (2, .int 2)] [] S (fx_qi (fun x3 S1 => (x3 < 0 → fx_is S1 v0 5 ∧ fx_Go G (1, 16) mm_M_attribute 0 [(0, fx_r G v0), (1, .int v1), (2, .int 3)] [] S1 (fx_qi (fun x6 S4 => fx_is S4 v0 5 ∧ fx_Go G (0, 0) mm_M_byteOf 0 [(0, fx_r G v0), (1, .int v1), (2, .int (x6 + 2))] [] S4 (fx_qi (fun x9 S7 => fx_is S7 v0 5 ∧ fx_Go G (0, 0) mm_M_byteOf 0 [(0, fx_r G v0), (1, .int v1), (2, .int (x6 + 3))] [] S7 (fx_qi (fun x12 S10 => Q (.inl (some (.int (x9 + (256 * x12))))) S10) Q)) Q)) Q)) ∧ (¬ x3 < 0 → fx_is S1 v0 5 ∧ fx_Go G (0, 0) mm_M_byteOf 0 [(0, fx_r G v0), (1, .int v1), (2, .int (x3 + 1))] [] S1 (fx_qi (fun x15 S13 => Q (.inl (some (.int (x15 - 2)))) S13) Q))) Q)) :
    fx_Go G (2, 32) mm_M_sizeOf 0 [(0, fx_r G v0), (1, .int v1)] [] S Q := by
  refine fx_aload_n (n := 1) dd_M_sizeOf_0 rfl 0 rfl rfl ?_
  refine fx_iload_n (n := 2) dd_M_sizeOf_1 rfl 1 rfl rfl ?_
  refine fx_iconst (n := 3) (v := 2) dd_M_sizeOf_2 (by decide) rfl ?_
  obtain ⟨q2, h⟩ := h
  refine fx_callV (n := 6) (vs := [_, _]) dd_M_sizeOf_3 mw_M_attribute ⟨wd_741, wd_743, wp_43⟩ rfl (by decide) q2.1 q2.2 rfl rfl ⟨Nat.le_of_ble_eq_true rfl, Nat.le_of_ble_eq_true rfl, Nat.le_of_ble_eq_true rfl, fx_nx, rfl⟩ rfl h (fx_qi_k fun x3 S1 h => ?_) (fun _ _ h => h)
  refine fx_istore_n (n := 7) (L' := [(2, _), (0, _), (1, _)]) dd_M_sizeOf_6 rfl (by decide) rfl rfl ?_
  refine fx_iload_n (n := 8) dd_M_sizeOf_7 rfl 0 rfl rfl ?_
  refine fx_if_lt (n := 11) (tg := 22) dd_M_sizeOf_8 rfl rfl (fun hc => ?_) (fun hc => ?_)
  · replace h := h.1 hc
    refine fx_aload_n (n := 23) dd_M_sizeOf_22 rfl 1 rfl rfl ?_
    refine fx_iload_n (n := 24) dd_M_sizeOf_23 rfl 2 rfl rfl ?_
    refine fx_iconst (n := 25) (v := 3) dd_M_sizeOf_24 (by decide) rfl ?_
    obtain ⟨q5, h⟩ := h
    refine fx_callV (n := 28) (vs := [_, _]) dd_M_sizeOf_25 mw_M_attribute ⟨wd_741, wd_743, wp_43⟩ rfl (by decide) q5.1 q5.2 rfl rfl ⟨Nat.le_of_ble_eq_true rfl, Nat.le_of_ble_eq_true rfl, Nat.le_of_ble_eq_true rfl, fx_nx, rfl⟩ rfl h (fx_qi_k fun x6 S4 h => ?_) (fun _ _ h => h)
    refine fx_istore_n (n := 29) (L' := [(2, _), (0, _), (1, _)]) dd_M_sizeOf_28 rfl (by decide) rfl rfl ?_
    refine fx_aload_n (n := 30) dd_M_sizeOf_29 rfl 1 rfl rfl ?_
    refine fx_iload_n (n := 31) dd_M_sizeOf_30 rfl 2 rfl rfl ?_
    refine fx_iload_n (n := 32) dd_M_sizeOf_31 rfl 0 rfl rfl ?_
    refine fx_iconst (n := 33) (v := 2) dd_M_sizeOf_32 (by decide) rfl ?_
    refine fx_iadd (n := 34) dd_M_sizeOf_33 rfl ?_
    obtain ⟨q8, h⟩ := h
    refine fx_callV (n := 37) (vs := [_, _]) dd_M_sizeOf_34 mw_M_byteOf ⟨wd_729, wd_731, wp_40⟩ rfl (by decide) q8.1 q8.2 rfl rfl ⟨Nat.le_of_ble_eq_true rfl, Nat.le_of_ble_eq_true rfl, Nat.le_of_ble_eq_true rfl, fx_nx, rfl⟩ rfl h (fx_qi_k fun x9 S7 h => ?_) (fun _ _ h => h)
    refine fx_sipush (n := 40) (v := 256) dd_M_sizeOf_37 (by decide) rfl ?_
    refine fx_aload_n (n := 41) dd_M_sizeOf_40 rfl 1 rfl rfl ?_
    refine fx_iload_n (n := 42) dd_M_sizeOf_41 rfl 2 rfl rfl ?_
    refine fx_iload_n (n := 43) dd_M_sizeOf_42 rfl 0 rfl rfl ?_
    refine fx_iconst (n := 44) (v := 3) dd_M_sizeOf_43 (by decide) rfl ?_
    refine fx_iadd (n := 45) dd_M_sizeOf_44 rfl ?_
    obtain ⟨q11, h⟩ := h
    refine fx_callV (n := 48) (vs := [_, _]) dd_M_sizeOf_45 mw_M_byteOf ⟨wd_729, wd_731, wp_40⟩ rfl (by decide) q11.1 q11.2 rfl rfl ⟨Nat.le_of_ble_eq_true rfl, Nat.le_of_ble_eq_true rfl, Nat.le_of_ble_eq_true rfl, fx_nx, rfl⟩ rfl h (fx_qi_k fun x12 S10 h => ?_) (fun _ _ h => h)
    refine fx_imul (n := 49) dd_M_sizeOf_48 rfl ?_
    refine fx_iadd (n := 50) dd_M_sizeOf_49 rfl ?_
    exact fx_iret dd_M_sizeOf_50 rfl h
  · replace h := h.2 hc
    refine fx_aload_n (n := 12) dd_M_sizeOf_11 rfl 1 rfl rfl ?_
    refine fx_iload_n (n := 13) dd_M_sizeOf_12 rfl 2 rfl rfl ?_
    refine fx_iload_n (n := 14) dd_M_sizeOf_13 rfl 0 rfl rfl ?_
    refine fx_iconst (n := 15) (v := 1) dd_M_sizeOf_14 (by decide) rfl ?_
    refine fx_iadd (n := 16) dd_M_sizeOf_15 rfl ?_
    obtain ⟨q14, h⟩ := h
    refine fx_callV (n := 19) (vs := [_, _]) dd_M_sizeOf_16 mw_M_byteOf ⟨wd_729, wd_731, wp_40⟩ rfl (by decide) q14.1 q14.2 rfl rfl ⟨Nat.le_of_ble_eq_true rfl, Nat.le_of_ble_eq_true rfl, Nat.le_of_ble_eq_true rfl, fx_nx, rfl⟩ rfl h (fx_qi_k fun x15 S13 h => ?_) (fun _ _ h => h)
    refine fx_iconst (n := 20) (v := 2) dd_M_sizeOf_19 (by decide) rfl ?_
    refine fx_isub (n := 21) dd_M_sizeOf_20 rfl ?_
    exact fx_iret dd_M_sizeOf_21 rfl h
theorem bk_M_begin_0 {G : fx_G} {S : fx_S} {Q : fx_R → fx_S → Prop} (v0 : Nat) (v1 : Int32) (v2 : Int32) (h : fx_Go G (0, 0) mm_M_begin 2 [(0, fx_r G v0), (1, .int v1), (2, .int v2), (3, .int 0)] [] S Q) :
    fx_Go G (0, 0) mm_M_begin 0 [(0, fx_r G v0), (1, .int v1), (2, .int v2)] [] S Q := by
  refine fx_iconst (n := 1) (v := 0) dd_M_begin_0 (by decide) rfl ?_
  refine fx_istore_n (n := 2) (L' := [(3, _), (0, _), (1, _), (2, _)]) dd_M_begin_1 rfl (by decide) rfl rfl ?_
  refine fx_sub (L' := [(0, _), (1, _), (2, _), (3, _)]) [1, 2, 3, 0] rfl ?_
  exact h
theorem bk_M_begin_2 {G : fx_G} {S : fx_S} {Q : fx_R → fx_S → Prop} (v0 : Nat) (v1 : Int32) (v2 : Int32) (v3 : Int32) (h : (64 ≤ v3 → fx_is S v0 5 ∧ ∃ r2, fx_P S v0 8 = some r2 ∧ fx_is S r2 100 ∧ vp_in 0 (fx_ln S r2) ∧ ∀ S5, S5 = fx_setI S r2 ((0 : Int32).toNatClampNeg) v1 → ∃ r6, fx_P S5 v0 8 = some r6 ∧ fx_is S5 r6 100 ∧ vp_in 1 (fx_ln S5 r6) ∧ ∀ S9, S9 = fx_setI S5 r6 ((1 : Int32).toNatClampNeg) v2 → ∀ S10, S10 = fx_setI S9 v0 9 10 → Q (.inl none) S10) ∧ (¬ 64 ≤ v3 → fx_is S v0 5 ∧ ∃ r12, fx_P S v0 8 = some r12 ∧ fx_is S r12 100 ∧ vp_in v3 (fx_ln S r12) ∧ ∀ S15, S15 = fx_setI S r12 (v3.toNatClampNeg) 0 → fx_Go G (0, 0) mm_M_begin 2 [(0, fx_r G v0), (1, .int v1), (2, .int v2), (3, .int (v3 + Int32.ofInt 1))] [] S15 Q)) :
    fx_Go G (0, 0) mm_M_begin 2 [(0, fx_r G v0), (1, .int v1), (2, .int v2), (3, .int v3)] [] S Q := by
  refine fx_iload_n (n := 3) dd_M_begin_2 rfl 3 rfl rfl ?_
  refine fx_bipush (n := 5) (v := 64) dd_M_begin_3 (by decide) rfl ?_
  refine fx_icmp_ge (n := 8) (tg := 21) dd_M_begin_5 rfl rfl (fun hc => ?_) (fun hc => ?_)
  · replace h := h.1 hc
    refine fx_aload_n (n := 22) dd_M_begin_21 rfl 0 rfl rfl ?_
    obtain ⟨q1, h⟩ := h
    obtain ⟨r2, hr2, h⟩ := h
    refine fx_getP (n := 25) dd_M_begin_22 fw_M_24 (by decide) rfl rfl q1.1 q1.2 hr2 ?_
    refine fx_iconst (n := 26) (v := 0) dd_M_begin_25 (by decide) rfl ?_
    refine fx_iload_n (n := 27) dd_M_begin_26 rfl 1 rfl rfl ?_
    obtain ⟨q3, h⟩ := h
    obtain ⟨q4, h⟩ := h
    replace h := h _ rfl
    refine fx_iast (n := 28) dd_M_begin_27 rfl q3.1 q3.2 q4 ?_
    refine fx_aload_n (n := 29) dd_M_begin_28 rfl 0 rfl rfl ?_
    obtain ⟨r6, hr6, h⟩ := h
    refine fx_getP (n := 32) dd_M_begin_29 fw_M_24 (by decide) rfl rfl q1.1 q1.2 hr6 ?_
    refine fx_iconst (n := 33) (v := 1) dd_M_begin_32 (by decide) rfl ?_
    refine fx_iload_n (n := 34) dd_M_begin_33 rfl 2 rfl rfl ?_
    obtain ⟨q7, h⟩ := h
    obtain ⟨q8, h⟩ := h
    replace h := h _ rfl
    refine fx_iast (n := 35) dd_M_begin_34 rfl q7.1 q7.2 q8 ?_
    refine fx_aload_n (n := 36) dd_M_begin_35 rfl 0 rfl rfl ?_
    refine fx_bipush (n := 38) (v := 10) dd_M_begin_36 (by decide) rfl ?_
    replace h := h _ rfl
    refine fx_putI (n := 41) dd_M_begin_38 fw_M_81 (by decide) rfl rfl rfl rfl q1.1 q1.2 ?_
    exact fx_vret dd_M_begin_41 rfl h
  · replace h := h.2 hc
    refine fx_aload_n (n := 9) dd_M_begin_8 rfl 0 rfl rfl ?_
    obtain ⟨q11, h⟩ := h
    obtain ⟨r12, hr12, h⟩ := h
    refine fx_getP (n := 12) dd_M_begin_9 fw_M_24 (by decide) rfl rfl q11.1 q11.2 hr12 ?_
    refine fx_iload_n (n := 13) dd_M_begin_12 rfl 3 rfl rfl ?_
    refine fx_iconst (n := 14) (v := 0) dd_M_begin_13 (by decide) rfl ?_
    obtain ⟨q13, h⟩ := h
    obtain ⟨q14, h⟩ := h
    replace h := h _ rfl
    refine fx_iast (n := 15) dd_M_begin_14 rfl q13.1 q13.2 q14 ?_
    refine fx_iinc (n := 18) (L' := [(3, _), (0, _), (1, _), (2, _)]) dd_M_begin_15 3 rfl rfl (by decide) rfl rfl ?_
    refine fx_goto (n := 2) dd_M_begin_18 rfl ?_
    refine fx_sub (L' := [(0, _), (1, _), (2, _), (3, _)]) [1, 2, 3, 0] rfl ?_
    exact h
theorem bk_M_put_0 {G : fx_G} {S : fx_S} {Q : fx_R → fx_S → Prop} (v0 : Nat) (v1 : Int32) (h : fx_is S v0 5 ∧ (64 ≤ (fx_I S v0 9) → ∀ S2, S2 = fx_setI S v0 9 ((fx_I S v0 9) + 1) → Q (.inl none) S2) ∧ (¬ 64 ≤ (fx_I S v0 9) → ∃ r3, fx_P S v0 8 = some r3 ∧ fx_is S r3 100 ∧ vp_in (fx_I S v0 9) (fx_ln S r3) ∧ ∀ S6, S6 = fx_setI S r3 ((fx_I S v0 9).toNatClampNeg) v1 → ∀ S7, S7 = fx_setI S6 v0 9 ((fx_I S6 v0 9) + 1) → Q (.inl none) S7)) :
    fx_Go G (0, 0) mm_M_put 0 [(0, fx_r G v0), (1, .int v1)] [] S Q := by
  refine fx_aload_n (n := 1) dd_M_put_0 rfl 0 rfl rfl ?_
  obtain ⟨q1, h⟩ := h
  refine fx_getI (n := 4) dd_M_put_1 fw_M_81 (by decide) rfl rfl q1.1 q1.2 ?_
  refine fx_bipush (n := 6) (v := 64) dd_M_put_4 (by decide) rfl ?_
  refine fx_icmp_ge (n := 9) (tg := 19) dd_M_put_6 rfl rfl (fun hc => ?_) (fun hc => ?_)
  · replace h := h.1 hc
    refine fx_aload_n (n := 20) dd_M_put_19 rfl 0 rfl rfl ?_
    refine fx_dup (n := 21) dd_M_put_20 rfl rfl ?_
    refine fx_getI (n := 24) dd_M_put_21 fw_M_81 (by decide) rfl rfl q1.1 q1.2 ?_
    refine fx_iconst (n := 25) (v := 1) dd_M_put_24 (by decide) rfl ?_
    refine fx_iadd (n := 26) dd_M_put_25 rfl ?_
    replace h := h _ rfl
    refine fx_putI (n := 29) dd_M_put_26 fw_M_81 (by decide) rfl rfl rfl rfl q1.1 q1.2 ?_
    exact fx_vret dd_M_put_29 rfl h
  · replace h := h.2 hc
    refine fx_aload_n (n := 10) dd_M_put_9 rfl 0 rfl rfl ?_
    obtain ⟨r3, hr3, h⟩ := h
    refine fx_getP (n := 13) dd_M_put_10 fw_M_24 (by decide) rfl rfl q1.1 q1.2 hr3 ?_
    refine fx_aload_n (n := 14) dd_M_put_13 rfl 0 rfl rfl ?_
    refine fx_getI (n := 17) dd_M_put_14 fw_M_81 (by decide) rfl rfl q1.1 q1.2 ?_
    refine fx_iload_n (n := 18) dd_M_put_17 rfl 1 rfl rfl ?_
    obtain ⟨q4, h⟩ := h
    obtain ⟨q5, h⟩ := h
    replace h := h _ rfl
    refine fx_iast (n := 19) dd_M_put_18 rfl q4.1 q4.2 q5 ?_
    refine fx_aload_n (n := 20) dd_M_put_19 rfl 0 rfl rfl ?_
    refine fx_dup (n := 21) dd_M_put_20 rfl rfl ?_
    refine fx_getI (n := 24) dd_M_put_21 fw_M_81 (by decide) rfl rfl q1.1 q1.2 ?_
    refine fx_iconst (n := 25) (v := 1) dd_M_put_24 (by decide) rfl ?_
    refine fx_iadd (n := 26) dd_M_put_25 rfl ?_
    replace h := h _ rfl
    refine fx_putI (n := 29) dd_M_put_26 fw_M_81 (by decide) rfl rfl rfl rfl q1.1 q1.2 ?_
    exact fx_vret dd_M_put_29 rfl h
theorem bk_M_putName_0 {G : fx_G} {S : fx_S} {Q : fx_R → fx_S → Prop} (v0 : Nat) (v1 : Int32) (h : fx_is S v0 5 ∧ fx_Go G (2, 32) mm_M_nameLength 0 [(0, fx_r G v0), (1, .int v1)] [] S (fx_qi (fun x3 S1 => (¬ x3 = 0 → fx_is S1 v0 5 ∧ fx_Go G (0, 0) mm_M_put 0 [(0, fx_r G v0), (1, .int 1)] [] S1 (fx_qv (fun S4 => fx_is S4 v0 5 ∧ fx_Go G (0, 0) mm_M_put 0 [(0, fx_r G v0), (1, .int (x3 + 2))] [] S4 (fx_qv (fun S6 => fx_Go G (3, 45) mm_M_putName 25 [(0, fx_r G v0), (1, .int v1), (2, .int x3), (3, .int 0)] [] S6 Q) Q)) Q)) ∧ (x3 = 0 → Q (.inl none) S1)) Q)) :
    fx_Go G (3, 45) mm_M_putName 0 [(0, fx_r G v0), (1, .int v1)] [] S Q := by
  refine fx_aload_n (n := 1) dd_M_putName_0 rfl 0 rfl rfl ?_
  refine fx_iload_n (n := 2) dd_M_putName_1 rfl 1 rfl rfl ?_
  obtain ⟨q2, h⟩ := h
  refine fx_callV (n := 5) (vs := [_]) dd_M_putName_2 mw_M_nameLength ⟨wd_753, wd_755, wp_46⟩ rfl (by decide) q2.1 q2.2 rfl rfl ⟨Nat.le_of_ble_eq_true rfl, Nat.le_of_ble_eq_true rfl, Nat.le_of_ble_eq_true rfl, fx_nx, rfl⟩ rfl h (fx_qi_k fun x3 S1 h => ?_) (fun _ _ h => h)
  refine fx_istore_n (n := 6) (L' := [(2, _), (0, _), (1, _)]) dd_M_putName_5 rfl (by decide) rfl rfl ?_
  refine fx_iload_n (n := 7) dd_M_putName_6 rfl 0 rfl rfl ?_
  refine fx_if_ne (n := 10) (tg := 11) dd_M_putName_7 rfl rfl (fun hc => ?_) (fun hc => ?_)
  · replace h := h.1 hc
    refine fx_aload_n (n := 12) dd_M_putName_11 rfl 1 rfl rfl ?_
    refine fx_iconst (n := 13) (v := 1) dd_M_putName_12 (by decide) rfl ?_
    obtain ⟨q5, h⟩ := h
    refine fx_callV (n := 16) (vs := [_]) dd_M_putName_13 mw_M_put ⟨wd_631, wd_633, wp_32⟩ rfl (by decide) q5.1 q5.2 rfl rfl ⟨Nat.le_of_ble_eq_true rfl, Nat.le_of_ble_eq_true rfl, Nat.le_of_ble_eq_true rfl, fx_nx, rfl⟩ rfl h (fx_qv_k fun S4 h => ?_) (fun _ _ h => h)
    refine fx_aload_n (n := 17) dd_M_putName_16 rfl 1 rfl rfl ?_
    refine fx_iload_n (n := 18) dd_M_putName_17 rfl 0 rfl rfl ?_
    refine fx_iconst (n := 19) (v := 2) dd_M_putName_18 (by decide) rfl ?_
    refine fx_iadd (n := 20) dd_M_putName_19 rfl ?_
    obtain ⟨q7, h⟩ := h
    refine fx_callV (n := 23) (vs := [_]) dd_M_putName_20 mw_M_put ⟨wd_631, wd_633, wp_32⟩ rfl (by decide) q7.1 q7.2 rfl rfl ⟨Nat.le_of_ble_eq_true rfl, Nat.le_of_ble_eq_true rfl, Nat.le_of_ble_eq_true rfl, fx_nx, rfl⟩ rfl h (fx_qv_k fun S6 h => ?_) (fun _ _ h => h)
    refine fx_iconst (n := 24) (v := 0) dd_M_putName_23 (by decide) rfl ?_
    refine fx_istore_n (n := 25) (L' := [(3, _), (2, _), (0, _), (1, _)]) dd_M_putName_24 rfl (by decide) rfl rfl ?_
    refine fx_sub (L' := [(0, _), (1, _), (2, _), (3, _)]) [2, 3, 1, 0] rfl ?_
    exact h
  · replace h := h.2 hc
    exact fx_vret dd_M_putName_10 rfl h
theorem bk_M_putName_25 {G : fx_G} {S : fx_S} {Q : fx_R → fx_S → Prop} (v0 : Nat) (v1 : Int32) (v2 : Int32) (v3 : Int32) (h : (v2 ≤ v3 → Q (.inl none) S) ∧ (¬ v2 ≤ v3 → fx_is S v0 5 ∧ fx_Go G (0, 0) mm_M_byteOf 0 [(0, fx_r G v0), (1, .int v1), (2, .int (12 + v3))] [] S (fx_qi (fun x3 S1 => fx_is S1 v0 5 ∧ fx_Go G (0, 0) mm_M_put 0 [(0, fx_r G v0), (1, .int x3)] [] S1 (fx_qv (fun S4 => fx_Go G (3, 45) mm_M_putName 25 [(0, fx_r G v0), (1, .int v1), (2, .int v2), (3, .int (v3 + Int32.ofInt 1))] [] S4 Q) Q)) Q))) :
    fx_Go G (3, 45) mm_M_putName 25 [(0, fx_r G v0), (1, .int v1), (2, .int v2), (3, .int v3)] [] S Q := by
  refine fx_iload_n (n := 26) dd_M_putName_25 rfl 3 rfl rfl ?_
  refine fx_iload_n (n := 27) dd_M_putName_26 rfl 2 rfl rfl ?_
  refine fx_icmp_ge (n := 30) (tg := 49) dd_M_putName_27 rfl rfl (fun hc => ?_) (fun hc => ?_)
  · replace h := h.1 hc
    exact fx_vret dd_M_putName_49 rfl h
  · replace h := h.2 hc
    refine fx_aload_n (n := 31) dd_M_putName_30 rfl 0 rfl rfl ?_
    refine fx_aload_n (n := 32) dd_M_putName_31 rfl 0 rfl rfl ?_
    refine fx_iload_n (n := 33) dd_M_putName_32 rfl 1 rfl rfl ?_
    refine fx_bipush (n := 35) (v := 12) dd_M_putName_33 (by decide) rfl ?_
    refine fx_iload_n (n := 36) dd_M_putName_35 rfl 3 rfl rfl ?_
    refine fx_iadd (n := 37) dd_M_putName_36 rfl ?_
    obtain ⟨q2, h⟩ := h
    refine fx_callV (n := 40) (vs := [_, _]) dd_M_putName_37 mw_M_byteOf ⟨wd_729, wd_731, wp_40⟩ rfl (by decide) q2.1 q2.2 rfl rfl ⟨Nat.le_of_ble_eq_true rfl, Nat.le_of_ble_eq_true rfl, Nat.le_of_ble_eq_true rfl, fx_nx, rfl⟩ rfl h (fx_qi_k fun x3 S1 h => ?_) (fun _ _ h => h)
    obtain ⟨q5, h⟩ := h
    refine fx_callV (n := 43) (vs := [_]) dd_M_putName_40 mw_M_put ⟨wd_631, wd_633, wp_32⟩ rfl (by decide) q5.1 q5.2 rfl rfl ⟨Nat.le_of_ble_eq_true rfl, Nat.le_of_ble_eq_true rfl, Nat.le_of_ble_eq_true rfl, fx_nx, rfl⟩ rfl h (fx_qv_k fun S4 h => ?_) (fun _ _ h => h)
    refine fx_iinc (n := 46) (L' := [(3, _), (0, _), (1, _), (2, _)]) dd_M_putName_43 3 rfl rfl (by decide) rfl rfl ?_
    refine fx_goto (n := 25) dd_M_putName_46 rfl ?_
    refine fx_sub (L' := [(0, _), (1, _), (2, _), (3, _)]) [1, 2, 3, 0] rfl ?_
    exact h
theorem bk_M_putDraft_0 {G : fx_G} {S : fx_S} {Q : fx_R → fx_S → Prop} (v0 : Nat) (h : fx_is S v0 5 ∧ fx_Go G (0, 0) mm_M_put 0 [(0, fx_r G v0), (1, .int 1)] [] S (fx_qv (fun S1 => fx_is S1 v0 5 ∧ fx_Go G (0, 0) mm_M_put 0 [(0, fx_r G v0), (1, .int ((fx_I S1 v0 6) + 2))] [] S1 (fx_qv (fun S4 => fx_Go G (1, 13) mm_M_putDraft 17 [(0, fx_r G v0), (1, .int 0)] [] S4 Q) Q)) Q)) :
    fx_Go G (1, 13) mm_M_putDraft 0 [(0, fx_r G v0)] [] S Q := by
  refine fx_aload_n (n := 1) dd_M_putDraft_0 rfl 0 rfl rfl ?_
  refine fx_iconst (n := 2) (v := 1) dd_M_putDraft_1 (by decide) rfl ?_
  obtain ⟨q2, h⟩ := h
  refine fx_callV (n := 5) (vs := [_]) dd_M_putDraft_2 mw_M_put ⟨wd_631, wd_633, wp_32⟩ rfl (by decide) q2.1 q2.2 rfl rfl ⟨Nat.le_of_ble_eq_true rfl, Nat.le_of_ble_eq_true rfl, Nat.le_of_ble_eq_true rfl, fx_nx, rfl⟩ rfl h (fx_qv_k fun S1 h => ?_) (fun _ _ h => h)
  refine fx_aload_n (n := 6) dd_M_putDraft_5 rfl 0 rfl rfl ?_
  refine fx_aload_n (n := 7) dd_M_putDraft_6 rfl 0 rfl rfl ?_
  obtain ⟨q3, h⟩ := h
  refine fx_getI (n := 10) dd_M_putDraft_7 fw_M_78 (by decide) rfl rfl q3.1 q3.2 ?_
  refine fx_iconst (n := 11) (v := 2) dd_M_putDraft_10 (by decide) rfl ?_
  refine fx_iadd (n := 12) dd_M_putDraft_11 rfl ?_
  refine fx_callV (n := 15) (vs := [_]) dd_M_putDraft_12 mw_M_put ⟨wd_631, wd_633, wp_32⟩ rfl (by decide) q3.1 q3.2 rfl rfl ⟨Nat.le_of_ble_eq_true rfl, Nat.le_of_ble_eq_true rfl, Nat.le_of_ble_eq_true rfl, fx_nx, rfl⟩ rfl h (fx_qv_k fun S4 h => ?_) (fun _ _ h => h)
  refine fx_iconst (n := 16) (v := 0) dd_M_putDraft_15 (by decide) rfl ?_
  refine fx_istore_n (n := 17) (L' := [(1, _), (0, _)]) dd_M_putDraft_16 rfl (by decide) rfl rfl ?_
  refine fx_sub (L' := [(0, _), (1, _)]) [1, 0] rfl ?_
  exact h
theorem bk_M_putDraft_17 {G : fx_G} {S : fx_S} {Q : fx_R → fx_S → Prop} (v0 : Nat) (v1 : Int32) (h : fx_is S v0 5 ∧ ((fx_I S v0 6) ≤ v1 → Q (.inl none) S) ∧ (¬ (fx_I S v0 6) ≤ v1 → ∃ r2, fx_P S v0 7 = some r2 ∧ fx_is S r2 102 ∧ vp_in v1 (fx_ln S r2) ∧ fx_Go G (0, 0) mm_M_put 0 [(0, fx_r G v0), (1, .int (fx_I S r2 (v1.toNatClampNeg)))] [] S (fx_qv (fun S5 => fx_Go G (1, 13) mm_M_putDraft 17 [(0, fx_r G v0), (1, .int (v1 + Int32.ofInt 1))] [] S5 Q) Q))) :
    fx_Go G (1, 13) mm_M_putDraft 17 [(0, fx_r G v0), (1, .int v1)] [] S Q := by
  refine fx_iload_n (n := 18) dd_M_putDraft_17 rfl 1 rfl rfl ?_
  refine fx_aload_n (n := 19) dd_M_putDraft_18 rfl 0 rfl rfl ?_
  obtain ⟨q1, h⟩ := h
  refine fx_getI (n := 22) dd_M_putDraft_19 fw_M_78 (by decide) rfl rfl q1.1 q1.2 ?_
  refine fx_icmp_ge (n := 25) (tg := 41) dd_M_putDraft_22 rfl rfl (fun hc => ?_) (fun hc => ?_)
  · replace h := h.1 hc
    exact fx_vret dd_M_putDraft_41 rfl h
  · replace h := h.2 hc
    refine fx_aload_n (n := 26) dd_M_putDraft_25 rfl 0 rfl rfl ?_
    refine fx_aload_n (n := 27) dd_M_putDraft_26 rfl 0 rfl rfl ?_
    obtain ⟨r2, hr2, h⟩ := h
    refine fx_getP (n := 30) dd_M_putDraft_27 fw_M_20 (by decide) rfl rfl q1.1 q1.2 hr2 ?_
    refine fx_iload_n (n := 31) dd_M_putDraft_30 rfl 1 rfl rfl ?_
    obtain ⟨q3, h⟩ := h
    obtain ⟨q4, h⟩ := h
    refine fx_cald (n := 32) dd_M_putDraft_31 rfl q3.1 q3.2 q4 ?_
    refine fx_callV (n := 35) (vs := [_]) dd_M_putDraft_32 mw_M_put ⟨wd_631, wd_633, wp_32⟩ rfl (by decide) q1.1 q1.2 rfl rfl ⟨Nat.le_of_ble_eq_true rfl, Nat.le_of_ble_eq_true rfl, Nat.le_of_ble_eq_true rfl, fx_nx, rfl⟩ rfl h (fx_qv_k fun S5 h => ?_) (fun _ _ h => h)
    refine fx_iinc (n := 38) (L' := [(1, _), (0, _)]) dd_M_putDraft_35 1 rfl rfl (by decide) rfl rfl ?_
    refine fx_goto (n := 17) dd_M_putDraft_38 rfl ?_
    refine fx_sub (L' := [(0, _), (1, _)]) [1, 0] rfl ?_
    exact h
theorem bk_M_putList_0 {G : fx_G} {S : fx_S} {Q : fx_R → fx_S → Prop} (v0 : Nat) (h : fx_is S v0 5 ∧ fx_Go G (0, 0) mm_M_put 0 [(0, fx_r G v0), (1, .int 4)] [] S (fx_qv (fun S1 => fx_is S1 v0 5 ∧ fx_Go G (0, 0) mm_M_put 0 [(0, fx_r G v0), (1, .int ((fx_I S1 v0 14) + 2))] [] S1 (fx_qv (fun S4 => fx_Go G (1, 13) mm_M_putList 17 [(0, fx_r G v0), (1, .int 0)] [] S4 Q) Q)) Q)) :
    fx_Go G (1, 13) mm_M_putList 0 [(0, fx_r G v0)] [] S Q := by
  refine fx_aload_n (n := 1) dd_M_putList_0 rfl 0 rfl rfl ?_
  refine fx_iconst (n := 2) (v := 4) dd_M_putList_1 (by decide) rfl ?_
  obtain ⟨q2, h⟩ := h
  refine fx_callV (n := 5) (vs := [_]) dd_M_putList_2 mw_M_put ⟨wd_631, wd_633, wp_32⟩ rfl (by decide) q2.1 q2.2 rfl rfl ⟨Nat.le_of_ble_eq_true rfl, Nat.le_of_ble_eq_true rfl, Nat.le_of_ble_eq_true rfl, fx_nx, rfl⟩ rfl h (fx_qv_k fun S1 h => ?_) (fun _ _ h => h)
  refine fx_aload_n (n := 6) dd_M_putList_5 rfl 0 rfl rfl ?_
  refine fx_aload_n (n := 7) dd_M_putList_6 rfl 0 rfl rfl ?_
  obtain ⟨q3, h⟩ := h
  refine fx_getI (n := 10) dd_M_putList_7 fw_M_88 (by decide) rfl rfl q3.1 q3.2 ?_
  refine fx_iconst (n := 11) (v := 2) dd_M_putList_10 (by decide) rfl ?_
  refine fx_iadd (n := 12) dd_M_putList_11 rfl ?_
  refine fx_callV (n := 15) (vs := [_]) dd_M_putList_12 mw_M_put ⟨wd_631, wd_633, wp_32⟩ rfl (by decide) q3.1 q3.2 rfl rfl ⟨Nat.le_of_ble_eq_true rfl, Nat.le_of_ble_eq_true rfl, Nat.le_of_ble_eq_true rfl, fx_nx, rfl⟩ rfl h (fx_qv_k fun S4 h => ?_) (fun _ _ h => h)
  refine fx_iconst (n := 16) (v := 0) dd_M_putList_15 (by decide) rfl ?_
  refine fx_istore_n (n := 17) (L' := [(1, _), (0, _)]) dd_M_putList_16 rfl (by decide) rfl rfl ?_
  refine fx_sub (L' := [(0, _), (1, _)]) [1, 0] rfl ?_
  exact h
theorem bk_M_putList_17 {G : fx_G} {S : fx_S} {Q : fx_R → fx_S → Prop} (v0 : Nat) (v1 : Int32) (h : fx_is S v0 5 ∧ ((fx_I S v0 14) ≤ v1 → Q (.inl none) S) ∧ (¬ (fx_I S v0 14) ≤ v1 → ∃ r2, fx_P S v0 15 = some r2 ∧ fx_is S r2 100 ∧ vp_in v1 (fx_ln S r2) ∧ fx_Go G (0, 0) mm_M_put 0 [(0, fx_r G v0), (1, .int (fx_I S r2 (v1.toNatClampNeg)))] [] S (fx_qv (fun S5 => fx_Go G (1, 13) mm_M_putList 17 [(0, fx_r G v0), (1, .int (v1 + Int32.ofInt 1))] [] S5 Q) Q))) :
    fx_Go G (1, 13) mm_M_putList 17 [(0, fx_r G v0), (1, .int v1)] [] S Q := by
  refine fx_iload_n (n := 18) dd_M_putList_17 rfl 1 rfl rfl ?_
  refine fx_aload_n (n := 19) dd_M_putList_18 rfl 0 rfl rfl ?_
  obtain ⟨q1, h⟩ := h
  refine fx_getI (n := 22) dd_M_putList_19 fw_M_88 (by decide) rfl rfl q1.1 q1.2 ?_
  refine fx_icmp_ge (n := 25) (tg := 41) dd_M_putList_22 rfl rfl (fun hc => ?_) (fun hc => ?_)
  · replace h := h.1 hc
    exact fx_vret dd_M_putList_41 rfl h
  · replace h := h.2 hc
    refine fx_aload_n (n := 26) dd_M_putList_25 rfl 0 rfl rfl ?_
    refine fx_aload_n (n := 27) dd_M_putList_26 rfl 0 rfl rfl ?_
    obtain ⟨r2, hr2, h⟩ := h
    refine fx_getP (n := 30) dd_M_putList_27 fw_M_36 (by decide) rfl rfl q1.1 q1.2 hr2 ?_
    refine fx_iload_n (n := 31) dd_M_putList_30 rfl 1 rfl rfl ?_
    obtain ⟨q3, h⟩ := h
    obtain ⟨q4, h⟩ := h
    refine fx_iald (n := 32) dd_M_putList_31 rfl q3.1 q3.2 q4 ?_
    refine fx_callV (n := 35) (vs := [_]) dd_M_putList_32 mw_M_put ⟨wd_631, wd_633, wp_32⟩ rfl (by decide) q1.1 q1.2 rfl rfl ⟨Nat.le_of_ble_eq_true rfl, Nat.le_of_ble_eq_true rfl, Nat.le_of_ble_eq_true rfl, fx_nx, rfl⟩ rfl h (fx_qv_k fun S5 h => ?_) (fun _ _ h => h)
    refine fx_iinc (n := 38) (L' := [(1, _), (0, _)]) dd_M_putList_35 1 rfl rfl (by decide) rfl rfl ?_
    refine fx_goto (n := 17) dd_M_putList_38 rfl ?_
    refine fx_sub (L' := [(0, _), (1, _)]) [1, 0] rfl ?_
    exact h
theorem bk_M_putInside_0 {G : fx_G} {S : fx_S} {Q : fx_R → fx_S → Prop} (v0 : Nat) (v1 : Int32) (h : fx_is S v0 5 ∧ fx_Go G (0, 0) mm_M_put 0 [(0, fx_r G v0), (1, .int 2)] [] S (fx_qv (fun S1 => fx_is S1 v0 5 ∧ fx_Go G (0, 0) mm_M_put 0 [(0, fx_r G v0), (1, .int (v1 + 2))] [] S1 (fx_qv (fun S3 => fx_Go G (1, 13) mm_M_putInside 14 [(0, fx_r G v0), (1, .int v1), (2, .int 0)] [] S3 Q) Q)) Q)) :
    fx_Go G (1, 13) mm_M_putInside 0 [(0, fx_r G v0), (1, .int v1)] [] S Q := by
  refine fx_aload_n (n := 1) dd_M_putInside_0 rfl 0 rfl rfl ?_
  refine fx_iconst (n := 2) (v := 2) dd_M_putInside_1 (by decide) rfl ?_
  obtain ⟨q2, h⟩ := h
  refine fx_callV (n := 5) (vs := [_]) dd_M_putInside_2 mw_M_put ⟨wd_631, wd_633, wp_32⟩ rfl (by decide) q2.1 q2.2 rfl rfl ⟨Nat.le_of_ble_eq_true rfl, Nat.le_of_ble_eq_true rfl, Nat.le_of_ble_eq_true rfl, fx_nx, rfl⟩ rfl h (fx_qv_k fun S1 h => ?_) (fun _ _ h => h)
  refine fx_aload_n (n := 6) dd_M_putInside_5 rfl 0 rfl rfl ?_
  refine fx_iload_n (n := 7) dd_M_putInside_6 rfl 1 rfl rfl ?_
  refine fx_iconst (n := 8) (v := 2) dd_M_putInside_7 (by decide) rfl ?_
  refine fx_iadd (n := 9) dd_M_putInside_8 rfl ?_
  obtain ⟨q4, h⟩ := h
  refine fx_callV (n := 12) (vs := [_]) dd_M_putInside_9 mw_M_put ⟨wd_631, wd_633, wp_32⟩ rfl (by decide) q4.1 q4.2 rfl rfl ⟨Nat.le_of_ble_eq_true rfl, Nat.le_of_ble_eq_true rfl, Nat.le_of_ble_eq_true rfl, fx_nx, rfl⟩ rfl h (fx_qv_k fun S3 h => ?_) (fun _ _ h => h)
  refine fx_iconst (n := 13) (v := 0) dd_M_putInside_12 (by decide) rfl ?_
  refine fx_istore_n (n := 14) (L' := [(2, _), (0, _), (1, _)]) dd_M_putInside_13 rfl (by decide) rfl rfl ?_
  refine fx_sub (L' := [(0, _), (1, _), (2, _)]) [1, 2, 0] rfl ?_
  exact h
theorem bk_M_putInside_14 {G : fx_G} {S : fx_S} {Q : fx_R → fx_S → Prop} (v0 : Nat) (v1 : Int32) (v2 : Int32) (h : (v1 ≤ v2 → Q (.inl none) S) ∧ (¬ v1 ≤ v2 → fx_is S v0 5 ∧ ∃ r2, fx_P S v0 13 = some r2 ∧ fx_is S r2 100 ∧ vp_in v2 (fx_ln S r2) ∧ fx_Go G (0, 0) mm_M_put 0 [(0, fx_r G v0), (1, .int (fx_I S r2 (v2.toNatClampNeg)))] [] S (fx_qv (fun S5 => fx_Go G (1, 13) mm_M_putInside 14 [(0, fx_r G v0), (1, .int v1), (2, .int (v2 + Int32.ofInt 1))] [] S5 Q) Q))) :
    fx_Go G (1, 13) mm_M_putInside 14 [(0, fx_r G v0), (1, .int v1), (2, .int v2)] [] S Q := by
  refine fx_iload_n (n := 15) dd_M_putInside_14 rfl 2 rfl rfl ?_
  refine fx_iload_n (n := 16) dd_M_putInside_15 rfl 1 rfl rfl ?_
  refine fx_icmp_ge (n := 19) (tg := 35) dd_M_putInside_16 rfl rfl (fun hc => ?_) (fun hc => ?_)
  · replace h := h.1 hc
    exact fx_vret dd_M_putInside_35 rfl h
  · replace h := h.2 hc
    refine fx_aload_n (n := 20) dd_M_putInside_19 rfl 0 rfl rfl ?_
    refine fx_aload_n (n := 21) dd_M_putInside_20 rfl 0 rfl rfl ?_
    obtain ⟨q1, h⟩ := h
    obtain ⟨r2, hr2, h⟩ := h
    refine fx_getP (n := 24) dd_M_putInside_21 fw_M_33 (by decide) rfl rfl q1.1 q1.2 hr2 ?_
    refine fx_iload_n (n := 25) dd_M_putInside_24 rfl 2 rfl rfl ?_
    obtain ⟨q3, h⟩ := h
    obtain ⟨q4, h⟩ := h
    refine fx_iald (n := 26) dd_M_putInside_25 rfl q3.1 q3.2 q4 ?_
    refine fx_callV (n := 29) (vs := [_]) dd_M_putInside_26 mw_M_put ⟨wd_631, wd_633, wp_32⟩ rfl (by decide) q1.1 q1.2 rfl rfl ⟨Nat.le_of_ble_eq_true rfl, Nat.le_of_ble_eq_true rfl, Nat.le_of_ble_eq_true rfl, fx_nx, rfl⟩ rfl h (fx_qv_k fun S5 h => ?_) (fun _ _ h => h)
    refine fx_iinc (n := 32) (L' := [(2, _), (0, _), (1, _)]) dd_M_putInside_29 2 rfl rfl (by decide) rfl rfl ?_
    refine fx_goto (n := 14) dd_M_putInside_32 rfl ?_
    refine fx_sub (L' := [(0, _), (1, _), (2, _)]) [1, 2, 0] rfl ?_
    exact h
theorem bk_M_putOutside_0 {G : fx_G} {S : fx_S} {Q : fx_R → fx_S → Prop} (v0 : Nat) (v1 : Int32) (h : fx_is S v0 5 ∧ fx_Go G (0, 0) mm_M_put 0 [(0, fx_r G v0), (1, .int 3)] [] S (fx_qv (fun S2 => fx_is S2 v0 5 ∧ fx_Go G (0, 0) mm_M_put 0 [(0, fx_r G v0), (1, .int 0)] [] S2 (fx_qv (fun S3 => fx_is S3 v0 5 ∧ fx_Go G (0, 0) mm_M_put 0 [(0, fx_r G v0), (1, .int (v1 - v1 / 256 * 256))] [] S3 (fx_qv (fun S5 => fx_is S5 v0 5 ∧ fx_Go G (0, 0) mm_M_put 0 [(0, fx_r G v0), (1, .int (v1 / 256))] [] S5 (fx_qv (fun S7 => fx_Go G (1, 13) mm_M_putOutside 39 [(0, fx_r G v0), (2, .int (fx_I S v0 9)), (3, .int 48), (4, .int 0)] [] S7 Q) Q)) Q)) Q)) Q)) :
    fx_Go G (1, 13) mm_M_putOutside 0 [(0, fx_r G v0), (1, .int v1)] [] S Q := by
  refine fx_aload_n (n := 1) dd_M_putOutside_0 rfl 0 rfl rfl ?_
  obtain ⟨q1, h⟩ := h
  refine fx_getI (n := 4) dd_M_putOutside_1 fw_M_81 (by decide) rfl rfl q1.1 q1.2 ?_
  refine fx_istore_n (n := 5) (L' := [(2, _), (0, _), (1, _)]) dd_M_putOutside_4 rfl (by decide) rfl rfl ?_
  refine fx_aload_n (n := 6) dd_M_putOutside_5 rfl 1 rfl rfl ?_
  refine fx_iconst (n := 7) (v := 3) dd_M_putOutside_6 (by decide) rfl ?_
  refine fx_callV (n := 10) (vs := [_]) dd_M_putOutside_7 mw_M_put ⟨wd_631, wd_633, wp_32⟩ rfl (by decide) q1.1 q1.2 rfl rfl ⟨Nat.le_of_ble_eq_true rfl, Nat.le_of_ble_eq_true rfl, Nat.le_of_ble_eq_true rfl, fx_nx, rfl⟩ rfl h (fx_qv_k fun S2 h => ?_) (fun _ _ h => h)
  refine fx_aload_n (n := 11) dd_M_putOutside_10 rfl 1 rfl rfl ?_
  refine fx_iconst (n := 12) (v := 0) dd_M_putOutside_11 (by decide) rfl ?_
  obtain ⟨q4, h⟩ := h
  refine fx_callV (n := 15) (vs := [_]) dd_M_putOutside_12 mw_M_put ⟨wd_631, wd_633, wp_32⟩ rfl (by decide) q4.1 q4.2 rfl rfl ⟨Nat.le_of_ble_eq_true rfl, Nat.le_of_ble_eq_true rfl, Nat.le_of_ble_eq_true rfl, fx_nx, rfl⟩ rfl h (fx_qv_k fun S3 h => ?_) (fun _ _ h => h)
  refine fx_aload_n (n := 16) dd_M_putOutside_15 rfl 1 rfl rfl ?_
  refine fx_iload_n (n := 17) dd_M_putOutside_16 rfl 2 rfl rfl ?_
  refine fx_sipush (n := 20) (v := 256) dd_M_putOutside_17 (by decide) rfl ?_
  refine fx_irem (n := 21) dd_M_putOutside_20 (by decide) rfl ?_
  obtain ⟨q6, h⟩ := h
  refine fx_callV (n := 24) (vs := [_]) dd_M_putOutside_21 mw_M_put ⟨wd_631, wd_633, wp_32⟩ rfl (by decide) q6.1 q6.2 rfl rfl ⟨Nat.le_of_ble_eq_true rfl, Nat.le_of_ble_eq_true rfl, Nat.le_of_ble_eq_true rfl, fx_nx, rfl⟩ rfl h (fx_qv_k fun S5 h => ?_) (fun _ _ h => h)
  refine fx_aload_n (n := 25) dd_M_putOutside_24 rfl 1 rfl rfl ?_
  refine fx_iload_n (n := 26) dd_M_putOutside_25 rfl 2 rfl rfl ?_
  refine fx_sipush (n := 29) (v := 256) dd_M_putOutside_26 (by decide) rfl ?_
  refine fx_idiv (n := 30) dd_M_putOutside_29 (by decide) rfl ?_
  obtain ⟨q8, h⟩ := h
  refine fx_callV (n := 33) (vs := [_]) dd_M_putOutside_30 mw_M_put ⟨wd_631, wd_633, wp_32⟩ rfl (by decide) q8.1 q8.2 rfl rfl ⟨Nat.le_of_ble_eq_true rfl, Nat.le_of_ble_eq_true rfl, Nat.le_of_ble_eq_true rfl, fx_nx, rfl⟩ rfl h (fx_qv_k fun S7 h => ?_) (fun _ _ h => h)
  refine fx_bipush (n := 35) (v := 48) dd_M_putOutside_33 (by decide) rfl ?_
  refine fx_istore_n (n := 36) (L' := [(3, _), (2, _), (0, _), (1, _)]) dd_M_putOutside_35 rfl (by decide) rfl rfl ?_
  refine fx_iconst (n := 37) (v := 0) dd_M_putOutside_36 (by decide) rfl ?_
  refine fx_istore (n := 39) (L' := [(4, _), (3, _), (2, _), (0, _), (1, _)]) dd_M_putOutside_37 (by decide) rfl rfl ?_
  refine fx_sub (L' := [(0, _), (2, _), (3, _), (4, _)]) [3, 2, 1, 0] rfl ?_
  exact h
theorem bk_M_putOutside_39 {G : fx_G} {S : fx_S} {Q : fx_R → fx_S → Prop} (v0 : Nat) (v2 : Int32) (v3 : Int32) (v4 : Int32) (h : fx_is S v0 5 ∧ ((fx_I S v0 10) ≤ v4 → fx_Go G (0, 0) mm_M_put 0 [(0, fx_r G v0), (1, .int 0)] [] S (fx_qv (fun S2 => (64 ≤ (v2 + 1) → Q (.inl none) S2) ∧ (¬ 64 ≤ (v2 + 1) → fx_is S2 v0 5 ∧ ∃ r4, fx_P S2 v0 8 = some r4 ∧ fx_is S2 r4 100 ∧ vp_in (v2 + 1) (fx_ln S2 r4) ∧ ∀ S7, S7 = fx_setI S2 r4 ((v2 + 1).toNatClampNeg) ((fx_I S2 v0 9) - v2) → Q (.inl none) S7)) Q)) ∧ (¬ (fx_I S v0 10) ≤ v4 → fx_Go G (1, 13) mm_M_putOutside 54 [(0, fx_r G v0), (2, .int v2), (3, .int v3), (4, .int v4), (5, .int (v4 + 1))] [] S Q)) :
    fx_Go G (1, 13) mm_M_putOutside 39 [(0, fx_r G v0), (2, .int v2), (3, .int v3), (4, .int v4)] [] S Q := by
  refine fx_iload (n := 41) dd_M_putOutside_39 3 rfl rfl ?_
  refine fx_aload_n (n := 42) dd_M_putOutside_41 rfl 0 rfl rfl ?_
  obtain ⟨q1, h⟩ := h
  refine fx_getI (n := 45) dd_M_putOutside_42 fw_M_91 (by decide) rfl rfl q1.1 q1.2 ?_
  refine fx_icmp_ge (n := 48) (tg := 186) dd_M_putOutside_45 rfl rfl (fun hc => ?_) (fun hc => ?_)
  · replace h := h.1 hc
    refine fx_aload_n (n := 187) dd_M_putOutside_186 rfl 0 rfl rfl ?_
    refine fx_iconst (n := 188) (v := 0) dd_M_putOutside_187 (by decide) rfl ?_
    refine fx_callV (n := 191) (vs := [_]) dd_M_putOutside_188 mw_M_put ⟨wd_631, wd_633, wp_32⟩ rfl (by decide) q1.1 q1.2 rfl rfl ⟨Nat.le_of_ble_eq_true rfl, Nat.le_of_ble_eq_true rfl, Nat.le_of_ble_eq_true rfl, fx_nx, rfl⟩ rfl h (fx_qv_k fun S2 h => ?_) (fun _ _ h => h)
    refine fx_iload_n (n := 192) dd_M_putOutside_191 rfl 1 rfl rfl ?_
    refine fx_iconst (n := 193) (v := 1) dd_M_putOutside_192 (by decide) rfl ?_
    refine fx_iadd (n := 194) dd_M_putOutside_193 rfl ?_
    refine fx_bipush (n := 196) (v := 64) dd_M_putOutside_194 (by decide) rfl ?_
    refine fx_icmp_ge (n := 199) (tg := 213) dd_M_putOutside_196 rfl rfl (fun hc => ?_) (fun hc => ?_)
    · replace h := h.1 hc
      exact fx_vret dd_M_putOutside_213 rfl h
    · replace h := h.2 hc
      refine fx_aload_n (n := 200) dd_M_putOutside_199 rfl 0 rfl rfl ?_
      obtain ⟨q3, h⟩ := h
      obtain ⟨r4, hr4, h⟩ := h
      refine fx_getP (n := 203) dd_M_putOutside_200 fw_M_24 (by decide) rfl rfl q3.1 q3.2 hr4 ?_
      refine fx_iload_n (n := 204) dd_M_putOutside_203 rfl 1 rfl rfl ?_
      refine fx_iconst (n := 205) (v := 1) dd_M_putOutside_204 (by decide) rfl ?_
      refine fx_iadd (n := 206) dd_M_putOutside_205 rfl ?_
      refine fx_aload_n (n := 207) dd_M_putOutside_206 rfl 0 rfl rfl ?_
      refine fx_getI (n := 210) dd_M_putOutside_207 fw_M_81 (by decide) rfl rfl q3.1 q3.2 ?_
      refine fx_iload_n (n := 211) dd_M_putOutside_210 rfl 1 rfl rfl ?_
      refine fx_isub (n := 212) dd_M_putOutside_211 rfl ?_
      obtain ⟨q5, h⟩ := h
      obtain ⟨q6, h⟩ := h
      replace h := h _ rfl
      refine fx_iast (n := 213) dd_M_putOutside_212 rfl q5.1 q5.2 q6 ?_
      exact fx_vret dd_M_putOutside_213 rfl h
  · replace h := h.2 hc
    refine fx_iload (n := 50) dd_M_putOutside_48 3 rfl rfl ?_
    refine fx_iconst (n := 51) (v := 1) dd_M_putOutside_50 (by decide) rfl ?_
    refine fx_iadd (n := 52) dd_M_putOutside_51 rfl ?_
    refine fx_istore (n := 54) (L' := [(5, _), (0, _), (2, _), (3, _), (4, _)]) dd_M_putOutside_52 (by decide) rfl rfl ?_
    refine fx_sub (L' := [(0, _), (2, _), (3, _), (4, _), (5, _)]) [1, 2, 3, 4, 0] rfl ?_
    exact h
