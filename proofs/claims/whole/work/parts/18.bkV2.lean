theorem bk_V_putOutside_0 {G : fx_G} {S : fx_S} {Q : fx_R → fx_S → Prop} (v0 : Nat) (v1 : Nat) (v2 : Int32) (v3 : Int32) (v4 : Int32) (v5 : Int32) (h : fx_is S v0 4 ∧ fx_Go G (3, 45) mm_V_takePlanned 0 [(0, fx_r G v0)] [] S (fx_qv (fun S1 => fx_is S1 v1 3 ∧ (¬ (fx_I S1 v1 3) = 2 → fx_is S1 v0 4 ∧ ∃ r5, fx_P S1 v0 0 = some r5 ∧ ∃ r6, fx_P S1 v0 6 = some r6 ∧ fx_is S1 r5 0 ∧ fx_Go G (2, 29) mm_D_clearFile 0 [(0, fx_r G r5), (1, fx_r G r6), (2, .int (fx_I S1 v1 4)), (3, .int v2)] [] S1 (fx_qv (fun S7 => fx_Go G (4, 59) mm_V_putOutside 69 [(0, fx_r G v0), (1, fx_r G v1), (2, .int v2), (3, .int v3), (4, .int v4), (5, .int v5), (6, .int 0)] [] S7 Q) Q)) ∧ ((fx_I S1 v1 3) = 2 → fx_Go G (4, 59) mm_V_putOutside 15 [(0, fx_r G v0), (1, fx_r G v1), (2, .int v2), (3, .int v3), (4, .int v4), (5, .int v5), (6, .int 0)] [] S1 Q)) Q)) :
    fx_Go G (4, 59) mm_V_putOutside 0 [(0, fx_r G v0), (1, fx_r G v1), (2, .int v2), (3, .int v3), (4, .int v4), (5, .int v5)] [] S Q := by
  refine fx_aload_n (n := 1) dd_V_putOutside_0 rfl 0 rfl rfl ?_
  obtain ⟨q2, h⟩ := h
  refine fx_callV (n := 4) (vs := []) dd_V_putOutside_1 mw_V_takePlanned ⟨wd_493, wd_495, wp_17⟩ rfl (by decide) q2.1 q2.2 rfl rfl ⟨Nat.le_of_ble_eq_true rfl, Nat.le_of_ble_eq_true rfl, Nat.le_of_ble_eq_true rfl, fx_nx, rfl⟩ rfl h (fx_qv_k fun S1 h => ?_) (fun _ _ h => h)
  refine fx_aload_n (n := 5) dd_V_putOutside_4 rfl 1 rfl rfl ?_
  obtain ⟨q3, h⟩ := h
  refine fx_getI (n := 8) dd_V_putOutside_5 fw_V_132 (by decide) rfl rfl q3.1 q3.2 ?_
  refine fx_iconst (n := 9) (v := 2) dd_V_putOutside_8 (by decide) rfl ?_
  refine fx_icmp_ne (n := 12) (tg := 50) dd_V_putOutside_9 rfl rfl (fun hc => ?_) (fun hc => ?_)
  · replace h := h.1 hc
    refine fx_aload_n (n := 51) dd_V_putOutside_50 rfl 0 rfl rfl ?_
    obtain ⟨q4, h⟩ := h
    obtain ⟨r5, hr5, h⟩ := h
    refine fx_getP (n := 54) dd_V_putOutside_51 fw_V_12 (by decide) rfl rfl q4.1 q4.2 hr5 ?_
    refine fx_aload_n (n := 55) dd_V_putOutside_54 rfl 0 rfl rfl ?_
    obtain ⟨r6, hr6, h⟩ := h
    refine fx_getP (n := 58) dd_V_putOutside_55 fw_V_40 (by decide) rfl rfl q4.1 q4.2 hr6 ?_
    refine fx_aload_n (n := 59) dd_V_putOutside_58 rfl 1 rfl rfl ?_
    refine fx_getI (n := 62) dd_V_putOutside_59 fw_V_123 (by decide) rfl rfl q3.1 q3.2 ?_
    refine fx_iload_n (n := 63) dd_V_putOutside_62 rfl 2 rfl rfl ?_
    obtain ⟨q8, h⟩ := h
    refine fx_callV (n := 66) (vs := [_, _, _]) dd_V_putOutside_63 mw_D_clearFile ⟨wd_498, wd_499, wd_500⟩ rfl (by decide) q8.1 q8.2 rfl rfl ⟨Nat.le_of_ble_eq_true rfl, Nat.le_of_ble_eq_true rfl, Nat.le_of_ble_eq_true rfl, fx_nx, rfl⟩ rfl h (fx_qv_k fun S7 h => ?_) (fun _ _ h => h)
    refine fx_iconst (n := 67) (v := 0) dd_V_putOutside_66 (by decide) rfl ?_
    refine fx_istore (n := 69) (L' := [(6, _), (0, _), (1, _), (2, _), (3, _), (4, _), (5, _)]) dd_V_putOutside_67 (by decide) rfl rfl ?_
    refine fx_sub (L' := [(0, _), (1, _), (2, _), (3, _), (4, _), (5, _), (6, _)]) [1, 2, 3, 4, 5, 6, 0] rfl ?_
    exact h
  · replace h := h.2 hc
    refine fx_iconst (n := 13) (v := 0) dd_V_putOutside_12 (by decide) rfl ?_
    refine fx_istore (n := 15) (L' := [(6, _), (0, _), (1, _), (2, _), (3, _), (4, _), (5, _)]) dd_V_putOutside_13 (by decide) rfl rfl ?_
    refine fx_sub (L' := [(0, _), (1, _), (2, _), (3, _), (4, _), (5, _), (6, _)]) [1, 2, 3, 4, 5, 6, 0] rfl ?_
    exact h
theorem bk_V_putOutside_15 {G : fx_G} {S : fx_S} {Q : fx_R → fx_S → Prop} (v0 : Nat) (v1 : Nat) (v2 : Int32) (v3 : Int32) (v4 : Int32) (v5 : Int32) (v6 : Int32) (h : fx_is S v1 3 ∧ ((fx_I S v1 4) ≤ v6 → fx_is S v0 4 ∧ ∃ r3, fx_P S v0 0 = some r3 ∧ ∃ r4, fx_P S v0 6 = some r4 ∧ fx_is S r3 0 ∧ fx_Go G (2, 29) mm_D_clearFile 0 [(0, fx_r G r3), (1, fx_r G r4), (2, .int (fx_I S v1 4)), (3, .int v2)] [] S (fx_qv (fun S5 => fx_Go G (4, 59) mm_V_putOutside 69 [(0, fx_r G v0), (1, fx_r G v1), (2, .int v2), (3, .int v3), (4, .int v4), (5, .int v5), (6, .int 0)] [] S5 Q) Q)) ∧ (¬ (fx_I S v1 4) ≤ v6 → fx_is S v0 4 ∧ ∃ r8, fx_P S v0 0 = some r8 ∧ ∃ r9, fx_P S v0 6 = some r9 ∧ ∃ r10, fx_P S v1 6 = some r10 ∧ fx_is S r10 100 ∧ vp_in v6 (fx_ln S r10) ∧ fx_is S r8 0 ∧ fx_Go G (1, 13) mm_D_putFileByte 0 [(0, fx_r G r8), (1, fx_r G r9), (2, .int v6), (3, .int (fx_I S r10 (v6.toNatClampNeg)))] [] S (fx_qv (fun S13 => fx_Go G (4, 59) mm_V_putOutside 15 [(0, fx_r G v0), (1, fx_r G v1), (2, .int v2), (3, .int v3), (4, .int v4), (5, .int v5), (6, .int (v6 + Int32.ofInt 1))] [] S13 Q) Q))) :
    fx_Go G (4, 59) mm_V_putOutside 15 [(0, fx_r G v0), (1, fx_r G v1), (2, .int v2), (3, .int v3), (4, .int v4), (5, .int v5), (6, .int v6)] [] S Q := by
  refine fx_iload (n := 17) dd_V_putOutside_15 6 rfl rfl ?_
  refine fx_aload_n (n := 18) dd_V_putOutside_17 rfl 1 rfl rfl ?_
  obtain ⟨q1, h⟩ := h
  refine fx_getI (n := 21) dd_V_putOutside_18 fw_V_123 (by decide) rfl rfl q1.1 q1.2 ?_
  refine fx_icmp_ge (n := 24) (tg := 50) dd_V_putOutside_21 rfl rfl (fun hc => ?_) (fun hc => ?_)
  · replace h := h.1 hc
    refine fx_aload_n (n := 51) dd_V_putOutside_50 rfl 0 rfl rfl ?_
    obtain ⟨q2, h⟩ := h
    obtain ⟨r3, hr3, h⟩ := h
    refine fx_getP (n := 54) dd_V_putOutside_51 fw_V_12 (by decide) rfl rfl q2.1 q2.2 hr3 ?_
    refine fx_aload_n (n := 55) dd_V_putOutside_54 rfl 0 rfl rfl ?_
    obtain ⟨r4, hr4, h⟩ := h
    refine fx_getP (n := 58) dd_V_putOutside_55 fw_V_40 (by decide) rfl rfl q2.1 q2.2 hr4 ?_
    refine fx_aload_n (n := 59) dd_V_putOutside_58 rfl 1 rfl rfl ?_
    refine fx_getI (n := 62) dd_V_putOutside_59 fw_V_123 (by decide) rfl rfl q1.1 q1.2 ?_
    refine fx_iload_n (n := 63) dd_V_putOutside_62 rfl 2 rfl rfl ?_
    obtain ⟨q6, h⟩ := h
    refine fx_callV (n := 66) (vs := [_, _, _]) dd_V_putOutside_63 mw_D_clearFile ⟨wd_498, wd_499, wd_500⟩ rfl (by decide) q6.1 q6.2 rfl rfl ⟨Nat.le_of_ble_eq_true rfl, Nat.le_of_ble_eq_true rfl, Nat.le_of_ble_eq_true rfl, fx_nx, rfl⟩ rfl h (fx_qv_k fun S5 h => ?_) (fun _ _ h => h)
    refine fx_iconst (n := 67) (v := 0) dd_V_putOutside_66 (by decide) rfl ?_
    refine fx_istore (n := 69) (L' := [(6, _), (0, _), (1, _), (2, _), (3, _), (4, _), (5, _)]) dd_V_putOutside_67 (by decide) rfl rfl ?_
    refine fx_sub (L' := [(0, _), (1, _), (2, _), (3, _), (4, _), (5, _), (6, _)]) [1, 2, 3, 4, 5, 6, 0] rfl ?_
    exact h
  · replace h := h.2 hc
    refine fx_aload_n (n := 25) dd_V_putOutside_24 rfl 0 rfl rfl ?_
    obtain ⟨q7, h⟩ := h
    obtain ⟨r8, hr8, h⟩ := h
    refine fx_getP (n := 28) dd_V_putOutside_25 fw_V_12 (by decide) rfl rfl q7.1 q7.2 hr8 ?_
    refine fx_aload_n (n := 29) dd_V_putOutside_28 rfl 0 rfl rfl ?_
    obtain ⟨r9, hr9, h⟩ := h
    refine fx_getP (n := 32) dd_V_putOutside_29 fw_V_40 (by decide) rfl rfl q7.1 q7.2 hr9 ?_
    refine fx_iload (n := 34) dd_V_putOutside_32 6 rfl rfl ?_
    refine fx_aload_n (n := 35) dd_V_putOutside_34 rfl 1 rfl rfl ?_
    obtain ⟨r10, hr10, h⟩ := h
    refine fx_getP (n := 38) dd_V_putOutside_35 fw_V_220 (by decide) rfl rfl q1.1 q1.2 hr10 ?_
    refine fx_iload (n := 40) dd_V_putOutside_38 6 rfl rfl ?_
    obtain ⟨q11, h⟩ := h
    obtain ⟨q12, h⟩ := h
    refine fx_iald (n := 41) dd_V_putOutside_40 rfl q11.1 q11.2 q12 ?_
    obtain ⟨q14, h⟩ := h
    refine fx_callV (n := 44) (vs := [_, _, _]) dd_V_putOutside_41 mw_D_putFileByte ⟨wd_506, wd_503, wd_504⟩ rfl (by decide) q14.1 q14.2 rfl rfl ⟨Nat.le_of_ble_eq_true rfl, Nat.le_of_ble_eq_true rfl, Nat.le_of_ble_eq_true rfl, fx_nx, rfl⟩ rfl h (fx_qv_k fun S13 h => ?_) (fun _ _ h => h)
    refine fx_iinc (n := 47) (L' := [(6, _), (0, _), (1, _), (2, _), (3, _), (4, _), (5, _)]) dd_V_putOutside_44 6 rfl rfl (by decide) rfl rfl ?_
    refine fx_goto (n := 15) dd_V_putOutside_47 rfl ?_
    refine fx_sub (L' := [(0, _), (1, _), (2, _), (3, _), (4, _), (5, _), (6, _)]) [1, 2, 3, 4, 5, 6, 0] rfl ?_
    exact h
theorem bk_V_putOutside_69 {G : fx_G} {S : fx_S} {Q : fx_R → fx_S → Prop} (v0 : Nat) (v1 : Nat) (v2 : Int32) (v3 : Int32) (v4 : Int32) (v5 : Int32) (v6 : Int32) (h : (v3 ≤ v6 → fx_is S v0 4 ∧ ∃ r2, fx_P S v0 0 = some r2 ∧ ∃ r3, fx_P S v0 6 = some r3 ∧ fx_Go G (1, 12) mm_V_endOfLastCluster 0 [(0, .int v5)] [] S (fx_qi (fun x5 S4 => fx_is S4 r2 0 ∧ fx_Go G (2, 29) mm_D_clearFile 0 [(0, fx_r G r2), (1, fx_r G r3), (2, .int v5), (3, .int x5)] [] S4 (fx_qv (fun S6 => fx_is S6 v1 3 ∧ ∀ S9, S9 = fx_setI S6 v1 3 3 → ∀ S10, S10 = fx_setI S9 v1 4 v5 → ∃ r11, fx_P S10 v1 7 = some r11 ∧ fx_is S10 v0 4 ∧ ∃ r13, fx_P S10 v0 6 = some r13 ∧ fx_is S10 r11 1 ∧ fx_Go G (1, 18) mm_Y_copyFrom 0 [(0, fx_r G r11), (1, fx_r G r13)] [] S10 (fx_qv (fun S14 => Q (.inl none) S14) Q)) Q)) Q)) ∧ (¬ v3 ≤ v6 → fx_is S v0 4 ∧ ∃ r17, fx_P S v0 0 = some r17 ∧ ∃ r18, fx_P S v0 6 = some r18 ∧ fx_is S r17 0 ∧ fx_Go G (1, 13) mm_D_putFileByte 0 [(0, fx_r G r17), (1, fx_r G r18), (2, .int (v2 + v6)), (3, .int ((v4 + v6) &&& 255))] [] S (fx_qv (fun S19 => fx_Go G (4, 59) mm_V_putOutside 69 [(0, fx_r G v0), (1, fx_r G v1), (2, .int v2), (3, .int v3), (4, .int v4), (5, .int v5), (6, .int (v6 + Int32.ofInt 1))] [] S19 Q) Q))) :
    fx_Go G (4, 59) mm_V_putOutside 69 [(0, fx_r G v0), (1, fx_r G v1), (2, .int v2), (3, .int v3), (4, .int v4), (5, .int v5), (6, .int v6)] [] S Q := by
  refine fx_iload (n := 71) dd_V_putOutside_69 6 rfl rfl ?_
  refine fx_iload_n (n := 72) dd_V_putOutside_71 rfl 3 rfl rfl ?_
  refine fx_icmp_ge (n := 75) (tg := 105) dd_V_putOutside_72 rfl rfl (fun hc => ?_) (fun hc => ?_)
  · replace h := h.1 hc
    refine fx_aload_n (n := 106) dd_V_putOutside_105 rfl 0 rfl rfl ?_
    obtain ⟨q1, h⟩ := h
    obtain ⟨r2, hr2, h⟩ := h
    refine fx_getP (n := 109) dd_V_putOutside_106 fw_V_12 (by decide) rfl rfl q1.1 q1.2 hr2 ?_
    refine fx_aload_n (n := 110) dd_V_putOutside_109 rfl 0 rfl rfl ?_
    obtain ⟨r3, hr3, h⟩ := h
    refine fx_getP (n := 113) dd_V_putOutside_110 fw_V_40 (by decide) rfl rfl q1.1 q1.2 hr3 ?_
    refine fx_iload (n := 115) dd_V_putOutside_113 5 rfl rfl ?_
    refine fx_iload (n := 117) dd_V_putOutside_115 5 rfl rfl ?_
    refine fx_callS (n := 120) (vs := [_]) dd_V_putOutside_117 mw_V_endOfLastCluster ⟨wd_507, wd_508, wd_1⟩ rfl rfl ⟨Nat.le_of_ble_eq_true rfl, Nat.le_of_ble_eq_true rfl, Nat.le_of_ble_eq_true rfl, fx_nx, rfl⟩ rfl h (fx_qi_k fun x5 S4 h => ?_) (fun _ _ h => h)
    obtain ⟨q7, h⟩ := h
    refine fx_callV (n := 123) (vs := [_, _, _]) dd_V_putOutside_120 mw_D_clearFile ⟨wd_498, wd_499, wd_500⟩ rfl (by decide) q7.1 q7.2 rfl rfl ⟨Nat.le_of_ble_eq_true rfl, Nat.le_of_ble_eq_true rfl, Nat.le_of_ble_eq_true rfl, fx_nx, rfl⟩ rfl h (fx_qv_k fun S6 h => ?_) (fun _ _ h => h)
    refine fx_aload_n (n := 124) dd_V_putOutside_123 rfl 1 rfl rfl ?_
    refine fx_iconst (n := 125) (v := 3) dd_V_putOutside_124 (by decide) rfl ?_
    obtain ⟨q8, h⟩ := h
    replace h := h _ rfl
    refine fx_putI (n := 128) dd_V_putOutside_125 fw_V_132 (by decide) rfl rfl rfl rfl q8.1 q8.2 ?_
    refine fx_aload_n (n := 129) dd_V_putOutside_128 rfl 1 rfl rfl ?_
    refine fx_iload (n := 131) dd_V_putOutside_129 5 rfl rfl ?_
    replace h := h _ rfl
    refine fx_putI (n := 134) dd_V_putOutside_131 fw_V_123 (by decide) rfl rfl rfl rfl q8.1 q8.2 ?_
    refine fx_aload_n (n := 135) dd_V_putOutside_134 rfl 1 rfl rfl ?_
    obtain ⟨r11, hr11, h⟩ := h
    refine fx_getP (n := 138) dd_V_putOutside_135 fw_V_152 (by decide) rfl rfl q8.1 q8.2 hr11 ?_
    refine fx_aload_n (n := 139) dd_V_putOutside_138 rfl 0 rfl rfl ?_
    obtain ⟨q12, h⟩ := h
    obtain ⟨r13, hr13, h⟩ := h
    refine fx_getP (n := 142) dd_V_putOutside_139 fw_V_40 (by decide) rfl rfl q12.1 q12.2 hr13 ?_
    obtain ⟨q15, h⟩ := h
    refine fx_callV (n := 145) (vs := [_]) dd_V_putOutside_142 mw_Y_copyFrom ⟨wd_510, wd_511, wd_512⟩ rfl (by decide) q15.1 q15.2 rfl rfl ⟨Nat.le_of_ble_eq_true rfl, Nat.le_of_ble_eq_true rfl, Nat.le_of_ble_eq_true rfl, fx_nx, rfl⟩ rfl h (fx_qv_k fun S14 h => ?_) (fun _ _ h => h)
    exact fx_vret dd_V_putOutside_145 rfl h
  · replace h := h.2 hc
    refine fx_aload_n (n := 76) dd_V_putOutside_75 rfl 0 rfl rfl ?_
    obtain ⟨q16, h⟩ := h
    obtain ⟨r17, hr17, h⟩ := h
    refine fx_getP (n := 79) dd_V_putOutside_76 fw_V_12 (by decide) rfl rfl q16.1 q16.2 hr17 ?_
    refine fx_aload_n (n := 80) dd_V_putOutside_79 rfl 0 rfl rfl ?_
    obtain ⟨r18, hr18, h⟩ := h
    refine fx_getP (n := 83) dd_V_putOutside_80 fw_V_40 (by decide) rfl rfl q16.1 q16.2 hr18 ?_
    refine fx_iload_n (n := 84) dd_V_putOutside_83 rfl 2 rfl rfl ?_
    refine fx_iload (n := 86) dd_V_putOutside_84 6 rfl rfl ?_
    refine fx_iadd (n := 87) dd_V_putOutside_86 rfl ?_
    refine fx_iload (n := 89) dd_V_putOutside_87 4 rfl rfl ?_
    refine fx_iload (n := 91) dd_V_putOutside_89 6 rfl rfl ?_
    refine fx_iadd (n := 92) dd_V_putOutside_91 rfl ?_
    refine fx_sipush (n := 95) (v := 255) dd_V_putOutside_92 (by decide) rfl ?_
    refine fx_iand (n := 96) dd_V_putOutside_95 rfl ?_
    obtain ⟨q20, h⟩ := h
    refine fx_callV (n := 99) (vs := [_, _, _]) dd_V_putOutside_96 mw_D_putFileByte ⟨wd_506, wd_503, wd_504⟩ rfl (by decide) q20.1 q20.2 rfl rfl ⟨Nat.le_of_ble_eq_true rfl, Nat.le_of_ble_eq_true rfl, Nat.le_of_ble_eq_true rfl, fx_nx, rfl⟩ rfl h (fx_qv_k fun S19 h => ?_) (fun _ _ h => h)
    refine fx_iinc (n := 102) (L' := [(6, _), (0, _), (1, _), (2, _), (3, _), (4, _), (5, _)]) dd_V_putOutside_99 6 rfl rfl (by decide) rfl rfl ?_
    refine fx_goto (n := 69) dd_V_putOutside_102 rfl ?_
    refine fx_sub (L' := [(0, _), (1, _), (2, _), (3, _), (4, _), (5, _), (6, _)]) [1, 2, 3, 4, 5, 6, 0] rfl ?_
    exact h
theorem bk_V_takePlanned_0 {G : fx_G} {S : fx_S} {Q : fx_R → fx_S → Prop} (v0 : Nat) (h : fx_Go G (3, 45) mm_V_takePlanned 2 [(0, fx_r G v0), (1, .int 0)] [] S Q) :
    fx_Go G (3, 45) mm_V_takePlanned 0 [(0, fx_r G v0)] [] S Q := by
  refine fx_iconst (n := 1) (v := 0) dd_V_takePlanned_0 (by decide) rfl ?_
  refine fx_istore_n (n := 2) (L' := [(1, _), (0, _)]) dd_V_takePlanned_1 rfl (by decide) rfl rfl ?_
  refine fx_sub (L' := [(0, _), (1, _)]) [1, 0] rfl ?_
  exact h
theorem bk_V_takePlanned_2 {G : fx_G} {S : fx_S} {Q : fx_R → fx_S → Prop} (v0 : Nat) (v1 : Int32) (h : fx_is S v0 4 ∧ ∃ r2, fx_P S v0 6 = some r2 ∧ fx_is S r2 1 ∧ ((fx_I S r2 1) ≤ v1 → Q (.inl none) S) ∧ (¬ (fx_I S r2 1) ≤ v1 → ∃ r4, fx_P S v0 6 = some r4 ∧ fx_is S r4 1 ∧ ∃ r6, fx_P S r4 0 = some r6 ∧ fx_is S r6 100 ∧ vp_in v1 (fx_ln S r6) ∧ fx_Go G (0, 0) mm_V_isDataCluster 0 [(0, .int (fx_I S r6 (v1.toNatClampNeg)))] [] S (fx_qi (fun x10 S9 => (x10 = 0 → fx_Go G (3, 45) mm_V_takePlanned 2 [(0, fx_r G v0), (1, .int (v1 + Int32.ofInt 1))] [] S9 Q) ∧ (¬ x10 = 0 → fx_is S9 v0 4 ∧ ∃ r12, fx_P S9 v0 2 = some r12 ∧ fx_is S9 r12 101 ∧ vp_in (fx_I S r6 (v1.toNatClampNeg)) (fx_ln S9 r12) ∧ (¬ (fx_I S9 r12 ((fx_I S r6 (v1.toNatClampNeg)).toNatClampNeg)) = 0 → fx_Go G (3, 45) mm_V_takePlanned 2 [(0, fx_r G v0), (1, .int (v1 + Int32.ofInt 1))] [] S9 Q) ∧ ((fx_I S9 r12 ((fx_I S r6 (v1.toNatClampNeg)).toNatClampNeg)) = 0 → ∃ r15, fx_P S9 v0 2 = some r15 ∧ fx_is S9 r15 101 ∧ vp_in (fx_I S r6 (v1.toNatClampNeg)) (fx_ln S9 r15) ∧ ∀ S18, S18 = fx_setI S9 r15 ((fx_I S r6 (v1.toNatClampNeg)).toNatClampNeg) (vp_nar .boolean 1) → ∃ r19, fx_P S18 v0 0 = some r19 ∧ ∃ r20, fx_P S18 v0 6 = some r20 ∧ fx_is S18 r19 0 ∧ fx_Go G (2, 29) mm_D_clearFile 0 [(0, fx_r G r19), (1, fx_r G r20), (2, .int (v1 * 16)), (3, .int ((v1 + 1) * 16))] [] S18 (fx_qv (fun S21 => fx_Go G (3, 45) mm_V_takePlanned 2 [(0, fx_r G v0), (1, .int (v1 + Int32.ofInt 1))] [] S21 Q) Q)))) Q))) :
    fx_Go G (3, 45) mm_V_takePlanned 2 [(0, fx_r G v0), (1, .int v1)] [] S Q := by
  refine fx_iload_n (n := 3) dd_V_takePlanned_2 rfl 1 rfl rfl ?_
  refine fx_aload_n (n := 4) dd_V_takePlanned_3 rfl 0 rfl rfl ?_
  obtain ⟨q1, h⟩ := h
  obtain ⟨r2, hr2, h⟩ := h
  refine fx_getP (n := 7) dd_V_takePlanned_4 fw_V_40 (by decide) rfl rfl q1.1 q1.2 hr2 ?_
  obtain ⟨q3, h⟩ := h
  refine fx_getI (n := 10) dd_V_takePlanned_7 fw_V_262 (by decide) rfl rfl q3.1 q3.2 ?_
  refine fx_icmp_ge (n := 13) (tg := 73) dd_V_takePlanned_10 rfl rfl (fun hc => ?_) (fun hc => ?_)
  · replace h := h.1 hc
    exact fx_vret dd_V_takePlanned_73 rfl h
  · replace h := h.2 hc
    refine fx_aload_n (n := 14) dd_V_takePlanned_13 rfl 0 rfl rfl ?_
    obtain ⟨r4, hr4, h⟩ := h
    refine fx_getP (n := 17) dd_V_takePlanned_14 fw_V_40 (by decide) rfl rfl q1.1 q1.2 hr4 ?_
    obtain ⟨q5, h⟩ := h
    obtain ⟨r6, hr6, h⟩ := h
    refine fx_getP (n := 20) dd_V_takePlanned_17 fw_V_286 (by decide) rfl rfl q5.1 q5.2 hr6 ?_
    refine fx_iload_n (n := 21) dd_V_takePlanned_20 rfl 1 rfl rfl ?_
    obtain ⟨q7, h⟩ := h
    obtain ⟨q8, h⟩ := h
    refine fx_iald (n := 22) dd_V_takePlanned_21 rfl q7.1 q7.2 q8 ?_
    refine fx_istore_n (n := 23) (L' := [(2, _), (0, _), (1, _)]) dd_V_takePlanned_22 rfl (by decide) rfl rfl ?_
    refine fx_iload_n (n := 24) dd_V_takePlanned_23 rfl 0 rfl rfl ?_
    refine fx_callS (n := 27) (vs := [_]) dd_V_takePlanned_24 mw_V_isDataCluster ⟨wd_497, wd_276, wd_1⟩ rfl rfl ⟨Nat.le_of_ble_eq_true rfl, Nat.le_of_ble_eq_true rfl, Nat.le_of_ble_eq_true rfl, fx_nx, rfl⟩ rfl h (fx_qi_k fun x10 S9 h => ?_) (fun _ _ h => h)
    refine fx_if_eq (n := 30) (tg := 67) dd_V_takePlanned_27 rfl rfl (fun hc => ?_) (fun hc => ?_)
    · replace h := h.1 hc
      refine fx_iinc (n := 70) (L' := [(1, _), (2, _), (0, _)]) dd_V_takePlanned_67 2 rfl rfl (by decide) rfl rfl ?_
      refine fx_goto (n := 2) dd_V_takePlanned_70 rfl ?_
      refine fx_sub (L' := [(0, _), (1, _)]) [2, 0] rfl ?_
      exact h
    · replace h := h.2 hc
      refine fx_aload_n (n := 31) dd_V_takePlanned_30 rfl 1 rfl rfl ?_
      obtain ⟨q11, h⟩ := h
      obtain ⟨r12, hr12, h⟩ := h
      refine fx_getP (n := 34) dd_V_takePlanned_31 fw_V_23 (by decide) rfl rfl q11.1 q11.2 hr12 ?_
      refine fx_iload_n (n := 35) dd_V_takePlanned_34 rfl 0 rfl rfl ?_
      obtain ⟨q13, h⟩ := h
      obtain ⟨q14, h⟩ := h
      refine fx_zald (n := 36) dd_V_takePlanned_35 rfl q13.1 q13.2 q14 ?_
      refine fx_if_ne (n := 39) (tg := 67) dd_V_takePlanned_36 rfl rfl (fun hc => ?_) (fun hc => ?_)
      · replace h := h.1 hc
        refine fx_iinc (n := 70) (L' := [(1, _), (2, _), (0, _)]) dd_V_takePlanned_67 2 rfl rfl (by decide) rfl rfl ?_
        refine fx_goto (n := 2) dd_V_takePlanned_70 rfl ?_
        refine fx_sub (L' := [(0, _), (1, _)]) [2, 0] rfl ?_
        exact h
      · replace h := h.2 hc
        refine fx_aload_n (n := 40) dd_V_takePlanned_39 rfl 1 rfl rfl ?_
        obtain ⟨r15, hr15, h⟩ := h
        refine fx_getP (n := 43) dd_V_takePlanned_40 fw_V_23 (by decide) rfl rfl q11.1 q11.2 hr15 ?_
        refine fx_iload_n (n := 44) dd_V_takePlanned_43 rfl 0 rfl rfl ?_
        refine fx_iconst (n := 45) (v := 1) dd_V_takePlanned_44 (by decide) rfl ?_
        obtain ⟨q16, h⟩ := h
        obtain ⟨q17, h⟩ := h
        replace h := h _ rfl
        refine fx_zast (n := 46) dd_V_takePlanned_45 rfl q16.1 q16.2 q17 ?_
        refine fx_aload_n (n := 47) dd_V_takePlanned_46 rfl 1 rfl rfl ?_
        obtain ⟨r19, hr19, h⟩ := h
        refine fx_getP (n := 50) dd_V_takePlanned_47 fw_V_12 (by decide) rfl rfl q11.1 q11.2 hr19 ?_
        refine fx_aload_n (n := 51) dd_V_takePlanned_50 rfl 1 rfl rfl ?_
        obtain ⟨r20, hr20, h⟩ := h
        refine fx_getP (n := 54) dd_V_takePlanned_51 fw_V_40 (by decide) rfl rfl q11.1 q11.2 hr20 ?_
        refine fx_iload_n (n := 55) dd_V_takePlanned_54 rfl 2 rfl rfl ?_
        refine fx_bipush (n := 57) (v := 16) dd_V_takePlanned_55 (by decide) rfl ?_
        refine fx_imul (n := 58) dd_V_takePlanned_57 rfl ?_
        refine fx_iload_n (n := 59) dd_V_takePlanned_58 rfl 2 rfl rfl ?_
        refine fx_iconst (n := 60) (v := 1) dd_V_takePlanned_59 (by decide) rfl ?_
        refine fx_iadd (n := 61) dd_V_takePlanned_60 rfl ?_
        refine fx_bipush (n := 63) (v := 16) dd_V_takePlanned_61 (by decide) rfl ?_
        refine fx_imul (n := 64) dd_V_takePlanned_63 rfl ?_
        obtain ⟨q22, h⟩ := h
        refine fx_callV (n := 67) (vs := [_, _, _]) dd_V_takePlanned_64 mw_D_clearFile ⟨wd_498, wd_499, wd_500⟩ rfl (by decide) q22.1 q22.2 rfl rfl ⟨Nat.le_of_ble_eq_true rfl, Nat.le_of_ble_eq_true rfl, Nat.le_of_ble_eq_true rfl, fx_nx, rfl⟩ rfl h (fx_qv_k fun S21 h => ?_) (fun _ _ h => h)
        refine fx_iinc (n := 70) (L' := [(1, _), (2, _), (0, _)]) dd_V_takePlanned_67 2 rfl rfl (by decide) rfl rfl ?_
        refine fx_goto (n := 2) dd_V_takePlanned_70 rfl ?_
        refine fx_sub (L' := [(0, _), (1, _)]) [2, 0] rfl ?_
        exact h
theorem bk_V_releaseFrom_0 {G : fx_G} {S : fx_S} {Q : fx_R → fx_S → Prop} (v0 : Nat) (v1 : Nat) (v2 : Int32) (h : fx_Go G (1, 14) mm_V_releaseFrom 5 [(0, fx_r G v0), (1, fx_r G v1), (2, .int v2), (3, .int 0), (4, .int v2)] [] S Q) :
    fx_Go G (1, 14) mm_V_releaseFrom 0 [(0, fx_r G v0), (1, fx_r G v1), (2, .int v2)] [] S Q := by
  refine fx_iconst (n := 1) (v := 0) dd_V_releaseFrom_0 (by decide) rfl ?_
  refine fx_istore_n (n := 2) (L' := [(3, _), (0, _), (1, _), (2, _)]) dd_V_releaseFrom_1 rfl (by decide) rfl rfl ?_
  refine fx_iload_n (n := 3) dd_V_releaseFrom_2 rfl 3 rfl rfl ?_
  refine fx_istore (n := 5) (L' := [(4, _), (3, _), (0, _), (1, _), (2, _)]) dd_V_releaseFrom_3 (by decide) rfl rfl ?_
  refine fx_sub (L' := [(0, _), (1, _), (2, _), (3, _), (4, _)]) [2, 3, 4, 1, 0] rfl ?_
  exact h
theorem bk_V_releaseFrom_5 {G : fx_G} {S : fx_S} {Q : fx_R → fx_S → Prop} (v0 : Nat) (v1 : Nat) (v2 : Int32) (v3 : Int32) (v4 : Int32) (h : fx_is S v1 1 ∧ ((fx_I S v1 1) ≤ v4 → ∀ S2, S2 = fx_setI S v1 1 (if v2 < (fx_I S v1 1) then v2 else (fx_I S v1 1)) → Q (.inl (some (.int v3))) S2) ∧ (¬ (fx_I S v1 1) ≤ v4 → ∃ r3, fx_P S v1 0 = some r3 ∧ fx_is S r3 100 ∧ vp_in v4 (fx_ln S r3) ∧ fx_Go G (0, 0) mm_V_isDataCluster 0 [(0, .int (fx_I S r3 (v4.toNatClampNeg)))] [] S (fx_qi (fun x7 S6 => (x7 = 0 → fx_Go G (1, 14) mm_V_releaseFrom 5 [(0, fx_r G v0), (1, fx_r G v1), (2, .int v2), (3, .int v3), (4, .int (v4 + Int32.ofInt 1))] [] S6 Q) ∧ (¬ x7 = 0 → fx_is S6 v0 4 ∧ ∃ r9, fx_P S6 v0 2 = some r9 ∧ fx_is S6 v1 1 ∧ ∃ r11, fx_P S6 v1 0 = some r11 ∧ fx_is S6 r11 100 ∧ vp_in v4 (fx_ln S6 r11) ∧ fx_is S6 r9 101 ∧ vp_in (fx_I S6 r11 (v4.toNatClampNeg)) (fx_ln S6 r9) ∧ ∀ S16, S16 = fx_setI S6 r9 ((fx_I S6 r11 (v4.toNatClampNeg)).toNatClampNeg) (vp_nar .boolean 0) → fx_Go G (1, 14) mm_V_releaseFrom 5 [(0, fx_r G v0), (1, fx_r G v1), (2, .int v2), (3, .int (v3 + Int32.ofInt 1)), (4, .int (v4 + Int32.ofInt 1))] [] S16 Q)) Q))) :
    fx_Go G (1, 14) mm_V_releaseFrom 5 [(0, fx_r G v0), (1, fx_r G v1), (2, .int v2), (3, .int v3), (4, .int v4)] [] S Q := by
  refine fx_iload (n := 7) dd_V_releaseFrom_5 4 rfl rfl ?_
  refine fx_aload_n (n := 8) dd_V_releaseFrom_7 rfl 1 rfl rfl ?_
  obtain ⟨q1, h⟩ := h
  refine fx_getI (n := 11) dd_V_releaseFrom_8 fw_V_262 (by decide) rfl rfl q1.1 q1.2 ?_
  refine fx_icmp_ge (n := 14) (tg := 49) dd_V_releaseFrom_11 rfl rfl (fun hc => ?_) (fun hc => ?_)
  · replace h := h.1 hc
    refine fx_aload_n (n := 50) dd_V_releaseFrom_49 rfl 1 rfl rfl ?_
    refine fx_aload_n (n := 51) dd_V_releaseFrom_50 rfl 1 rfl rfl ?_
    refine fx_getI (n := 54) dd_V_releaseFrom_51 fw_V_262 (by decide) rfl rfl q1.1 q1.2 ?_
    refine fx_iload_n (n := 55) dd_V_releaseFrom_54 rfl 2 rfl rfl ?_
    refine fx_mmin (n := 58) dd_V_releaseFrom_55 ⟨wd_526, wd_236, wd_13, wd_237⟩ rfl ⟨by decide, Nat.le_of_ble_eq_true rfl⟩ ?_
    replace h := h _ rfl
    refine fx_putI (n := 61) dd_V_releaseFrom_58 fw_V_262 (by decide) rfl rfl rfl rfl q1.1 q1.2 ?_
    refine fx_iload_n (n := 62) dd_V_releaseFrom_61 rfl 3 rfl rfl ?_
    exact fx_iret dd_V_releaseFrom_62 rfl h
  · replace h := h.2 hc
    refine fx_aload_n (n := 15) dd_V_releaseFrom_14 rfl 1 rfl rfl ?_
    obtain ⟨r3, hr3, h⟩ := h
    refine fx_getP (n := 18) dd_V_releaseFrom_15 fw_V_286 (by decide) rfl rfl q1.1 q1.2 hr3 ?_
    refine fx_iload (n := 20) dd_V_releaseFrom_18 4 rfl rfl ?_
    obtain ⟨q4, h⟩ := h
    obtain ⟨q5, h⟩ := h
    refine fx_iald (n := 21) dd_V_releaseFrom_20 rfl q4.1 q4.2 q5 ?_
    refine fx_callS (n := 24) (vs := [_]) dd_V_releaseFrom_21 mw_V_isDataCluster ⟨wd_497, wd_276, wd_1⟩ rfl rfl ⟨Nat.le_of_ble_eq_true rfl, Nat.le_of_ble_eq_true rfl, Nat.le_of_ble_eq_true rfl, fx_nx, rfl⟩ rfl h (fx_qi_k fun x7 S6 h => ?_) (fun _ _ h => h)
    refine fx_if_eq (n := 27) (tg := 43) dd_V_releaseFrom_24 rfl rfl (fun hc => ?_) (fun hc => ?_)
    · replace h := h.1 hc
      refine fx_iinc (n := 46) (L' := [(4, _), (0, _), (1, _), (2, _), (3, _)]) dd_V_releaseFrom_43 4 rfl rfl (by decide) rfl rfl ?_
      refine fx_goto (n := 5) dd_V_releaseFrom_46 rfl ?_
      refine fx_sub (L' := [(0, _), (1, _), (2, _), (3, _), (4, _)]) [1, 2, 3, 4, 0] rfl ?_
      exact h
    · replace h := h.2 hc
      refine fx_aload_n (n := 28) dd_V_releaseFrom_27 rfl 0 rfl rfl ?_
      obtain ⟨q8, h⟩ := h
      obtain ⟨r9, hr9, h⟩ := h
      refine fx_getP (n := 31) dd_V_releaseFrom_28 fw_V_23 (by decide) rfl rfl q8.1 q8.2 hr9 ?_
      refine fx_aload_n (n := 32) dd_V_releaseFrom_31 rfl 1 rfl rfl ?_
      obtain ⟨q10, h⟩ := h
      obtain ⟨r11, hr11, h⟩ := h
      refine fx_getP (n := 35) dd_V_releaseFrom_32 fw_V_286 (by decide) rfl rfl q10.1 q10.2 hr11 ?_
      refine fx_iload (n := 37) dd_V_releaseFrom_35 4 rfl rfl ?_
      obtain ⟨q12, h⟩ := h
      obtain ⟨q13, h⟩ := h
      refine fx_iald (n := 38) dd_V_releaseFrom_37 rfl q12.1 q12.2 q13 ?_
      refine fx_iconst (n := 39) (v := 0) dd_V_releaseFrom_38 (by decide) rfl ?_
      obtain ⟨q14, h⟩ := h
      obtain ⟨q15, h⟩ := h
      replace h := h _ rfl
      refine fx_zast (n := 40) dd_V_releaseFrom_39 rfl q14.1 q14.2 q15 ?_
      refine fx_iinc (n := 43) (L' := [(3, _), (0, _), (1, _), (2, _), (4, _)]) dd_V_releaseFrom_40 3 rfl rfl (by decide) rfl rfl ?_
      refine fx_iinc (n := 46) (L' := [(4, _), (3, _), (0, _), (1, _), (2, _)]) dd_V_releaseFrom_43 4 rfl rfl (by decide) rfl rfl ?_
      refine fx_goto (n := 5) dd_V_releaseFrom_46 rfl ?_
      refine fx_sub (L' := [(0, _), (1, _), (2, _), (3, _), (4, _)]) [2, 3, 4, 1, 0] rfl ?_
      exact h
theorem bk_V_restoreRoot_0 {G : fx_G} {S : fx_S} {Q : fx_R → fx_S → Prop} (v0 : Nat) (h : fx_is S v0 4 ∧ fx_Go G (0, 0) mm_V_isUsed 0 [(0, fx_r G v0), (1, .int 0)] [] S (fx_qi (fun x3 S1 => (x3 = 0 → fx_is S1 v0 4 ∧ ∃ r5, fx_P S1 v0 1 = some r5 ∧ fx_is S1 r5 104 ∧ vp_in 0 (fx_ln S1 r5) ∧ ∃ r8, fx_P S1 r5 ((0 : Int32).toNatClampNeg) = some r8 ∧ fx_is S1 r8 3 ∧ fx_Go G (1, 12) mm_H_become 0 [(0, fx_r G r8), (1, .int 2), (2, .int 0)] [] S1 (fx_qv (fun S9 => fx_is S9 v0 4 ∧ fx_Go G (7, 96) mm_V_store 0 [(0, fx_r G v0), (1, .int 0)] [] S9 (fx_qv (fun S11 => Q (.inl (some (.int 1))) S11) Q)) Q)) ∧ (¬ x3 = 0 → Q (.inl (some (.int 0))) S1)) Q)) :
    fx_Go G (8, 109) mm_V_restoreRoot 0 [(0, fx_r G v0)] [] S Q := by
  refine fx_aload_n (n := 1) dd_V_restoreRoot_0 rfl 0 rfl rfl ?_
  refine fx_iconst (n := 2) (v := 0) dd_V_restoreRoot_1 (by decide) rfl ?_
  obtain ⟨q2, h⟩ := h
  refine fx_callV (n := 5) (vs := [_]) dd_V_restoreRoot_2 mw_V_isUsed ⟨wd_223, wd_225, wp_4⟩ rfl (by decide) q2.1 q2.2 rfl rfl ⟨Nat.le_of_ble_eq_true rfl, Nat.le_of_ble_eq_true rfl, Nat.le_of_ble_eq_true rfl, fx_nx, rfl⟩ rfl h (fx_qi_k fun x3 S1 h => ?_) (fun _ _ h => h)
  refine fx_if_eq (n := 8) (tg := 10) dd_V_restoreRoot_5 rfl rfl (fun hc => ?_) (fun hc => ?_)
  · replace h := h.1 hc
    refine fx_aload_n (n := 11) dd_V_restoreRoot_10 rfl 0 rfl rfl ?_
    obtain ⟨q4, h⟩ := h
    obtain ⟨r5, hr5, h⟩ := h
    refine fx_getP (n := 14) dd_V_restoreRoot_11 fw_V_18 (by decide) rfl rfl q4.1 q4.2 hr5 ?_
    refine fx_iconst (n := 15) (v := 0) dd_V_restoreRoot_14 (by decide) rfl ?_
    obtain ⟨q6, h⟩ := h
    obtain ⟨q7, r8, hr8, h⟩ := h
    refine fx_aald (n := 16) dd_V_restoreRoot_15 rfl q6.1 q6.2 q7 hr8 ?_
    refine fx_iconst (n := 17) (v := 2) dd_V_restoreRoot_16 (by decide) rfl ?_
    refine fx_iconst (n := 18) (v := 0) dd_V_restoreRoot_17 (by decide) rfl ?_
    obtain ⟨q10, h⟩ := h
    refine fx_callV (n := 21) (vs := [_, _]) dd_V_restoreRoot_18 mw_H_become ⟨wd_116, wd_117, wd_118⟩ rfl (by decide) q10.1 q10.2 rfl rfl ⟨Nat.le_of_ble_eq_true rfl, Nat.le_of_ble_eq_true rfl, Nat.le_of_ble_eq_true rfl, fx_nx, rfl⟩ rfl h (fx_qv_k fun S9 h => ?_) (fun _ _ h => h)
    refine fx_aload_n (n := 22) dd_V_restoreRoot_21 rfl 0 rfl rfl ?_
    refine fx_iconst (n := 23) (v := 0) dd_V_restoreRoot_22 (by decide) rfl ?_
    obtain ⟨q12, h⟩ := h
    refine fx_callV (n := 26) (vs := [_]) dd_V_restoreRoot_23 mw_V_store ⟨wd_429, wd_431, wp_10⟩ rfl (by decide) q12.1 q12.2 rfl rfl ⟨Nat.le_of_ble_eq_true rfl, Nat.le_of_ble_eq_true rfl, Nat.le_of_ble_eq_true rfl, fx_nx, rfl⟩ rfl h (fx_qv_k fun S11 h => ?_) (fun _ _ h => h)
    refine fx_iconst (n := 27) (v := 1) dd_V_restoreRoot_26 (by decide) rfl ?_
    exact fx_iret dd_V_restoreRoot_27 rfl h
  · replace h := h.2 hc
    refine fx_iconst (n := 9) (v := 0) dd_V_restoreRoot_8 (by decide) rfl ?_
    exact fx_iret dd_V_restoreRoot_9 rfl h
theorem bk_V_adoptStrays_0 {G : fx_G} {S : fx_S} {Q : fx_R → fx_S → Prop} (v0 : Nat) (h : fx_Go G (8, 109) mm_V_adoptStrays 4 [(0, fx_r G v0), (1, .int 0), (2, .int 0)] [] S Q) :
    fx_Go G (8, 109) mm_V_adoptStrays 0 [(0, fx_r G v0)] [] S Q := by
  refine fx_iconst (n := 1) (v := 0) dd_V_adoptStrays_0 (by decide) rfl ?_
  refine fx_istore_n (n := 2) (L' := [(1, _), (0, _)]) dd_V_adoptStrays_1 rfl (by decide) rfl rfl ?_
  refine fx_iconst (n := 3) (v := 0) dd_V_adoptStrays_2 (by decide) rfl ?_
  refine fx_istore_n (n := 4) (L' := [(2, _), (1, _), (0, _)]) dd_V_adoptStrays_3 rfl (by decide) rfl rfl ?_
  refine fx_sub (L' := [(0, _), (1, _), (2, _)]) [2, 1, 0] rfl ?_
  exact h
theorem bk_V_adoptStrays_4 {G : fx_G} {S : fx_S} {Q : fx_R → fx_S → Prop} (v0 : Nat) (v1 : Int32) (v2 : Int32) (h : (12 ≤ v2 → Q (.inl (some (.int v1))) S) ∧ (¬ 12 ≤ v2 → fx_is S v0 4 ∧ fx_Go G (0, 0) mm_V_isUsed 0 [(0, fx_r G v0), (1, .int v2)] [] S (fx_qi (fun x3 S1 => (x3 = 0 → fx_Go G (8, 109) mm_V_adoptStrays 4 [(0, fx_r G v0), (1, .int v1), (2, .int (v2 + Int32.ofInt 1))] [] S1 Q) ∧ (¬ x3 = 0 → fx_is S1 v0 4 ∧ fx_Go G (2, 26) mm_V_leadsToRoot 0 [(0, fx_r G v0), (1, .int v2)] [] S1 (fx_qi (fun x6 S4 => (¬ x6 = 0 → fx_Go G (8, 109) mm_V_adoptStrays 4 [(0, fx_r G v0), (1, .int v1), (2, .int (v2 + Int32.ofInt 1))] [] S4 Q) ∧ (x6 = 0 → fx_is S4 v0 4 ∧ ∃ r8, fx_P S4 v0 1 = some r8 ∧ fx_is S4 r8 104 ∧ vp_in v2 (fx_ln S4 r8) ∧ ∃ r11, fx_P S4 r8 (v2.toNatClampNeg) = some r11 ∧ fx_is S4 r11 3 ∧ ∀ S13, S13 = fx_setI S4 r11 1 0 → fx_Go G (7, 96) mm_V_store 0 [(0, fx_r G v0), (1, .int v2)] [] S13 (fx_qv (fun S14 => fx_Go G (8, 109) mm_V_adoptStrays 4 [(0, fx_r G v0), (1, .int (v1 + Int32.ofInt 1)), (2, .int (v2 + Int32.ofInt 1))] [] S14 Q) Q))) Q))) Q))) :
    fx_Go G (8, 109) mm_V_adoptStrays 4 [(0, fx_r G v0), (1, .int v1), (2, .int v2)] [] S Q := by
  refine fx_iload_n (n := 5) dd_V_adoptStrays_4 rfl 2 rfl rfl ?_
  refine fx_bipush (n := 7) (v := 12) dd_V_adoptStrays_5 (by decide) rfl ?_
  refine fx_icmp_ge (n := 10) (tg := 50) dd_V_adoptStrays_7 rfl rfl (fun hc => ?_) (fun hc => ?_)
  · replace h := h.1 hc
    refine fx_iload_n (n := 51) dd_V_adoptStrays_50 rfl 1 rfl rfl ?_
    exact fx_iret dd_V_adoptStrays_51 rfl h
  · replace h := h.2 hc
    refine fx_aload_n (n := 11) dd_V_adoptStrays_10 rfl 0 rfl rfl ?_
    refine fx_iload_n (n := 12) dd_V_adoptStrays_11 rfl 2 rfl rfl ?_
    obtain ⟨q2, h⟩ := h
    refine fx_callV (n := 15) (vs := [_]) dd_V_adoptStrays_12 mw_V_isUsed ⟨wd_223, wd_225, wp_4⟩ rfl (by decide) q2.1 q2.2 rfl rfl ⟨Nat.le_of_ble_eq_true rfl, Nat.le_of_ble_eq_true rfl, Nat.le_of_ble_eq_true rfl, fx_nx, rfl⟩ rfl h (fx_qi_k fun x3 S1 h => ?_) (fun _ _ h => h)
    refine fx_if_eq (n := 18) (tg := 44) dd_V_adoptStrays_15 rfl rfl (fun hc => ?_) (fun hc => ?_)
    · replace h := h.1 hc
      refine fx_iinc (n := 47) (L' := [(2, _), (0, _), (1, _)]) dd_V_adoptStrays_44 2 rfl rfl (by decide) rfl rfl ?_
      refine fx_goto (n := 4) dd_V_adoptStrays_47 rfl ?_
      refine fx_sub (L' := [(0, _), (1, _), (2, _)]) [1, 2, 0] rfl ?_
      exact h
    · replace h := h.2 hc
      refine fx_aload_n (n := 19) dd_V_adoptStrays_18 rfl 0 rfl rfl ?_
      refine fx_iload_n (n := 20) dd_V_adoptStrays_19 rfl 2 rfl rfl ?_
      obtain ⟨q5, h⟩ := h
      refine fx_callV (n := 23) (vs := [_]) dd_V_adoptStrays_20 mw_V_leadsToRoot ⟨wd_593, wd_595, wp_26⟩ rfl (by decide) q5.1 q5.2 rfl rfl ⟨Nat.le_of_ble_eq_true rfl, Nat.le_of_ble_eq_true rfl, Nat.le_of_ble_eq_true rfl, fx_nx, rfl⟩ rfl h (fx_qi_k fun x6 S4 h => ?_) (fun _ _ h => h)
      refine fx_if_ne (n := 26) (tg := 44) dd_V_adoptStrays_23 rfl rfl (fun hc => ?_) (fun hc => ?_)
      · replace h := h.1 hc
        refine fx_iinc (n := 47) (L' := [(2, _), (0, _), (1, _)]) dd_V_adoptStrays_44 2 rfl rfl (by decide) rfl rfl ?_
        refine fx_goto (n := 4) dd_V_adoptStrays_47 rfl ?_
        refine fx_sub (L' := [(0, _), (1, _), (2, _)]) [1, 2, 0] rfl ?_
        exact h
      · replace h := h.2 hc
        refine fx_aload_n (n := 27) dd_V_adoptStrays_26 rfl 0 rfl rfl ?_
        obtain ⟨q7, h⟩ := h
        obtain ⟨r8, hr8, h⟩ := h
        refine fx_getP (n := 30) dd_V_adoptStrays_27 fw_V_18 (by decide) rfl rfl q7.1 q7.2 hr8 ?_
        refine fx_iload_n (n := 31) dd_V_adoptStrays_30 rfl 2 rfl rfl ?_
        obtain ⟨q9, h⟩ := h
        obtain ⟨q10, r11, hr11, h⟩ := h
        refine fx_aald (n := 32) dd_V_adoptStrays_31 rfl q9.1 q9.2 q10 hr11 ?_
        refine fx_iconst (n := 33) (v := 0) dd_V_adoptStrays_32 (by decide) rfl ?_
        obtain ⟨q12, h⟩ := h
        replace h := h _ rfl
        refine fx_putI (n := 36) dd_V_adoptStrays_33 fw_V_173 (by decide) rfl rfl rfl rfl q12.1 q12.2 ?_
        refine fx_aload_n (n := 37) dd_V_adoptStrays_36 rfl 0 rfl rfl ?_
        refine fx_iload_n (n := 38) dd_V_adoptStrays_37 rfl 2 rfl rfl ?_
        refine fx_callV (n := 41) (vs := [_]) dd_V_adoptStrays_38 mw_V_store ⟨wd_429, wd_431, wp_10⟩ rfl (by decide) q7.1 q7.2 rfl rfl ⟨Nat.le_of_ble_eq_true rfl, Nat.le_of_ble_eq_true rfl, Nat.le_of_ble_eq_true rfl, fx_nx, rfl⟩ rfl h (fx_qv_k fun S14 h => ?_) (fun _ _ h => h)
        refine fx_iinc (n := 44) (L' := [(1, _), (0, _), (2, _)]) dd_V_adoptStrays_41 1 rfl rfl (by decide) rfl rfl ?_
        refine fx_iinc (n := 47) (L' := [(2, _), (1, _), (0, _)]) dd_V_adoptStrays_44 2 rfl rfl (by decide) rfl rfl ?_
        refine fx_goto (n := 4) dd_V_adoptStrays_47 rfl ?_
        refine fx_sub (L' := [(0, _), (1, _), (2, _)]) [2, 1, 0] rfl ?_
        exact h
theorem bk_V_mendLists_0 {G : fx_G} {S : fx_S} {Q : fx_R → fx_S → Prop} (v0 : Nat) (h : fx_Go G (8, 109) mm_V_mendLists 4 [(0, fx_r G v0), (1, .int 0), (2, .int 0)] [] S Q) :
    fx_Go G (8, 109) mm_V_mendLists 0 [(0, fx_r G v0)] [] S Q := by
  refine fx_iconst (n := 1) (v := 0) dd_V_mendLists_0 (by decide) rfl ?_
  refine fx_istore_n (n := 2) (L' := [(1, _), (0, _)]) dd_V_mendLists_1 rfl (by decide) rfl rfl ?_
  refine fx_iconst (n := 3) (v := 0) dd_V_mendLists_2 (by decide) rfl ?_
  refine fx_istore_n (n := 4) (L' := [(2, _), (1, _), (0, _)]) dd_V_mendLists_3 rfl (by decide) rfl rfl ?_
  refine fx_sub (L' := [(0, _), (1, _), (2, _)]) [2, 1, 0] rfl ?_
  exact h
theorem bk_V_mendLists_4 {G : fx_G} {S : fx_S} {Q : fx_R → fx_S → Prop} (v0 : Nat) (v1 : Int32) (v2 : Int32) (h : (12 ≤ v2 → Q (.inl (some (.int v1))) S) ∧ (¬ 12 ≤ v2 → fx_is S v0 4 ∧ fx_Go G (1, 13) mm_V_isDirectory 0 [(0, fx_r G v0), (1, .int v2)] [] S (fx_qi (fun x3 S1 => (x3 = 0 → fx_Go G (8, 109) mm_V_mendLists 4 [(0, fx_r G v0), (1, .int v1), (2, .int (v2 + Int32.ofInt 1))] [] S1 Q) ∧ (¬ x3 = 0 → fx_is S1 v0 4 ∧ fx_Go G (3, 44) mm_V_collectEntries 0 [(0, fx_r G v0), (1, .int v2)] [] S1 (fx_qi (fun x6 S4 => fx_is S4 v0 4 ∧ ∃ r8, fx_P S4 v0 1 = some r8 ∧ fx_is S4 r8 104 ∧ vp_in v2 (fx_ln S4 r8) ∧ ∃ r11, fx_P S4 r8 (v2.toNatClampNeg) = some r11 ∧ ∃ r12, fx_P S4 v0 8 = some r12 ∧ fx_is S4 r11 3 ∧ fx_Go G (0, 0) mm_H_hasList 0 [(0, fx_r G r11), (1, fx_r G r12), (2, .int x6)] [] S4 (fx_qi (fun x15 S13 => (¬ x15 = 0 → fx_Go G (8, 109) mm_V_mendLists 4 [(0, fx_r G v0), (1, .int v1), (2, .int (v2 + Int32.ofInt 1))] [] S13 Q) ∧ (x15 = 0 → fx_is S13 v0 4 ∧ ∃ r17, fx_P S13 v0 1 = some r17 ∧ fx_is S13 r17 104 ∧ vp_in v2 (fx_ln S13 r17) ∧ ∃ r20, fx_P S13 r17 (v2.toNatClampNeg) = some r20 ∧ ∃ r21, fx_P S13 v0 8 = some r21 ∧ fx_is S13 r20 3 ∧ fx_Go G (1, 18) mm_H_setList 0 [(0, fx_r G r20), (1, fx_r G r21), (2, .int x6)] [] S13 (fx_qv (fun S22 => fx_is S22 v0 4 ∧ fx_Go G (7, 96) mm_V_store 0 [(0, fx_r G v0), (1, .int v2)] [] S22 (fx_qv (fun S24 => fx_Go G (8, 109) mm_V_mendLists 4 [(0, fx_r G v0), (1, .int (v1 + Int32.ofInt 1)), (2, .int (v2 + Int32.ofInt 1))] [] S24 Q) Q)) Q))) Q)) Q))) Q))) :
    fx_Go G (8, 109) mm_V_mendLists 4 [(0, fx_r G v0), (1, .int v1), (2, .int v2)] [] S Q := by
  refine fx_iload_n (n := 5) dd_V_mendLists_4 rfl 2 rfl rfl ?_
  refine fx_bipush (n := 7) (v := 12) dd_V_mendLists_5 (by decide) rfl ?_
  refine fx_icmp_ge (n := 10) (tg := 69) dd_V_mendLists_7 rfl rfl (fun hc => ?_) (fun hc => ?_)
  · replace h := h.1 hc
    refine fx_iload_n (n := 70) dd_V_mendLists_69 rfl 1 rfl rfl ?_
    exact fx_iret dd_V_mendLists_70 rfl h
  · replace h := h.2 hc
    refine fx_aload_n (n := 11) dd_V_mendLists_10 rfl 0 rfl rfl ?_
    refine fx_iload_n (n := 12) dd_V_mendLists_11 rfl 2 rfl rfl ?_
    obtain ⟨q2, h⟩ := h
    refine fx_callV (n := 15) (vs := [_]) dd_V_mendLists_12 mw_V_isDirectory ⟨wd_219, wd_221, wp_3⟩ rfl (by decide) q2.1 q2.2 rfl rfl ⟨Nat.le_of_ble_eq_true rfl, Nat.le_of_ble_eq_true rfl, Nat.le_of_ble_eq_true rfl, fx_nx, rfl⟩ rfl h (fx_qi_k fun x3 S1 h => ?_) (fun _ _ h => h)
    refine fx_if_eq (n := 18) (tg := 63) dd_V_mendLists_15 rfl rfl (fun hc => ?_) (fun hc => ?_)
    · replace h := h.1 hc
      refine fx_iinc (n := 66) (L' := [(2, _), (0, _), (1, _)]) dd_V_mendLists_63 2 rfl rfl (by decide) rfl rfl ?_
      refine fx_goto (n := 4) dd_V_mendLists_66 rfl ?_
      refine fx_sub (L' := [(0, _), (1, _), (2, _)]) [1, 2, 0] rfl ?_
      exact h
    · replace h := h.2 hc
      refine fx_aload_n (n := 19) dd_V_mendLists_18 rfl 0 rfl rfl ?_
      refine fx_iload_n (n := 20) dd_V_mendLists_19 rfl 2 rfl rfl ?_
      obtain ⟨q5, h⟩ := h
      refine fx_callV (n := 23) (vs := [_]) dd_V_mendLists_20 mw_V_collectEntries ⟨wd_601, wd_603, wp_28⟩ rfl (by decide) q5.1 q5.2 rfl rfl ⟨Nat.le_of_ble_eq_true rfl, Nat.le_of_ble_eq_true rfl, Nat.le_of_ble_eq_true rfl, fx_nx, rfl⟩ rfl h (fx_qi_k fun x6 S4 h => ?_) (fun _ _ h => h)
      refine fx_istore_n (n := 24) (L' := [(3, _), (0, _), (1, _), (2, _)]) dd_V_mendLists_23 rfl (by decide) rfl rfl ?_
      refine fx_aload_n (n := 25) dd_V_mendLists_24 rfl 1 rfl rfl ?_
      obtain ⟨q7, h⟩ := h
      obtain ⟨r8, hr8, h⟩ := h
      refine fx_getP (n := 28) dd_V_mendLists_25 fw_V_18 (by decide) rfl rfl q7.1 q7.2 hr8 ?_
      refine fx_iload_n (n := 29) dd_V_mendLists_28 rfl 3 rfl rfl ?_
      obtain ⟨q9, h⟩ := h
      obtain ⟨q10, r11, hr11, h⟩ := h
      refine fx_aald (n := 30) dd_V_mendLists_29 rfl q9.1 q9.2 q10 hr11 ?_
      refine fx_aload_n (n := 31) dd_V_mendLists_30 rfl 1 rfl rfl ?_
      obtain ⟨r12, hr12, h⟩ := h
      refine fx_getP (n := 34) dd_V_mendLists_31 fw_V_48 (by decide) rfl rfl q7.1 q7.2 hr12 ?_
      refine fx_iload_n (n := 35) dd_V_mendLists_34 rfl 0 rfl rfl ?_
      obtain ⟨q14, h⟩ := h
      refine fx_callV (n := 38) (vs := [_, _]) dd_V_mendLists_35 mw_H_hasList ⟨wd_605, wd_606, wd_607⟩ rfl (by decide) q14.1 q14.2 rfl rfl ⟨Nat.le_of_ble_eq_true rfl, Nat.le_of_ble_eq_true rfl, Nat.le_of_ble_eq_true rfl, fx_nx, rfl⟩ rfl h (fx_qi_k fun x15 S13 h => ?_) (fun _ _ h => h)
      refine fx_if_ne (n := 41) (tg := 63) dd_V_mendLists_38 rfl rfl (fun hc => ?_) (fun hc => ?_)
      · replace h := h.1 hc
        refine fx_iinc (n := 66) (L' := [(2, _), (3, _), (0, _), (1, _)]) dd_V_mendLists_63 3 rfl rfl (by decide) rfl rfl ?_
        refine fx_goto (n := 4) dd_V_mendLists_66 rfl ?_
        refine fx_sub (L' := [(0, _), (1, _), (2, _)]) [2, 3, 0] rfl ?_
        exact h
      · replace h := h.2 hc
        refine fx_aload_n (n := 42) dd_V_mendLists_41 rfl 1 rfl rfl ?_
        obtain ⟨q16, h⟩ := h
        obtain ⟨r17, hr17, h⟩ := h
        refine fx_getP (n := 45) dd_V_mendLists_42 fw_V_18 (by decide) rfl rfl q16.1 q16.2 hr17 ?_
        refine fx_iload_n (n := 46) dd_V_mendLists_45 rfl 3 rfl rfl ?_
        obtain ⟨q18, h⟩ := h
        obtain ⟨q19, r20, hr20, h⟩ := h
        refine fx_aald (n := 47) dd_V_mendLists_46 rfl q18.1 q18.2 q19 hr20 ?_
        refine fx_aload_n (n := 48) dd_V_mendLists_47 rfl 1 rfl rfl ?_
        obtain ⟨r21, hr21, h⟩ := h
        refine fx_getP (n := 51) dd_V_mendLists_48 fw_V_48 (by decide) rfl rfl q16.1 q16.2 hr21 ?_
        refine fx_iload_n (n := 52) dd_V_mendLists_51 rfl 0 rfl rfl ?_
        obtain ⟨q23, h⟩ := h
        refine fx_callV (n := 55) (vs := [_, _]) dd_V_mendLists_52 mw_H_setList ⟨wd_609, wd_610, wd_611⟩ rfl (by decide) q23.1 q23.2 rfl rfl ⟨Nat.le_of_ble_eq_true rfl, Nat.le_of_ble_eq_true rfl, Nat.le_of_ble_eq_true rfl, fx_nx, rfl⟩ rfl h (fx_qv_k fun S22 h => ?_) (fun _ _ h => h)
        refine fx_aload_n (n := 56) dd_V_mendLists_55 rfl 1 rfl rfl ?_
        refine fx_iload_n (n := 57) dd_V_mendLists_56 rfl 3 rfl rfl ?_
        obtain ⟨q25, h⟩ := h
        refine fx_callV (n := 60) (vs := [_]) dd_V_mendLists_57 mw_V_store ⟨wd_429, wd_431, wp_10⟩ rfl (by decide) q25.1 q25.2 rfl rfl ⟨Nat.le_of_ble_eq_true rfl, Nat.le_of_ble_eq_true rfl, Nat.le_of_ble_eq_true rfl, fx_nx, rfl⟩ rfl h (fx_qv_k fun S24 h => ?_) (fun _ _ h => h)
        refine fx_iinc (n := 63) (L' := [(1, _), (3, _), (0, _), (2, _)]) dd_V_mendLists_60 2 rfl rfl (by decide) rfl rfl ?_
        refine fx_iinc (n := 66) (L' := [(2, _), (1, _), (3, _), (0, _)]) dd_V_mendLists_63 3 rfl rfl (by decide) rfl rfl ?_
        refine fx_goto (n := 4) dd_V_mendLists_66 rfl ?_
        refine fx_sub (L' := [(0, _), (1, _), (2, _)]) [3, 1, 0] rfl ?_
        exact h
theorem bk_V_collectEntries_0 {G : fx_G} {S : fx_S} {Q : fx_R → fx_S → Prop} (v0 : Nat) (v1 : Int32) (h : fx_Go G (3, 44) mm_V_collectEntries 4 [(0, fx_r G v0), (1, .int v1), (2, .int 0), (3, .int 1)] [] S Q) :
    fx_Go G (3, 44) mm_V_collectEntries 0 [(0, fx_r G v0), (1, .int v1)] [] S Q := by
  refine fx_iconst (n := 1) (v := 0) dd_V_collectEntries_0 (by decide) rfl ?_
  refine fx_istore_n (n := 2) (L' := [(2, _), (0, _), (1, _)]) dd_V_collectEntries_1 rfl (by decide) rfl rfl ?_
  refine fx_iconst (n := 3) (v := 1) dd_V_collectEntries_2 (by decide) rfl ?_
  refine fx_istore_n (n := 4) (L' := [(3, _), (2, _), (0, _), (1, _)]) dd_V_collectEntries_3 rfl (by decide) rfl rfl ?_
  refine fx_sub (L' := [(0, _), (1, _), (2, _), (3, _)]) [2, 3, 1, 0] rfl ?_
  exact h
theorem bk_V_collectEntries_4 {G : fx_G} {S : fx_S} {Q : fx_R → fx_S → Prop} (v0 : Nat) (v1 : Int32) (v2 : Int32) (v3 : Int32) (h : (12 ≤ v3 → Q (.inl (some (.int v2))) S) ∧ (¬ 12 ≤ v3 → fx_is S v0 4 ∧ fx_Go G (0, 0) mm_V_isUsed 0 [(0, fx_r G v0), (1, .int v3)] [] S (fx_qi (fun x3 S1 => (x3 = 0 → fx_Go G (3, 44) mm_V_collectEntries 4 [(0, fx_r G v0), (1, .int v1), (2, .int v2), (3, .int (v3 + Int32.ofInt 1))] [] S1 Q) ∧ (¬ x3 = 0 → fx_is S1 v0 4 ∧ ∃ r5, fx_P S1 v0 1 = some r5 ∧ fx_is S1 r5 104 ∧ vp_in v3 (fx_ln S1 r5) ∧ ∃ r8, fx_P S1 r5 (v3.toNatClampNeg) = some r8 ∧ fx_is S1 r8 3 ∧ (¬ (fx_I S1 r8 1) = v1 → fx_Go G (3, 44) mm_V_collectEntries 4 [(0, fx_r G v0), (1, .int v1), (2, .int v2), (3, .int (v3 + Int32.ofInt 1))] [] S1 Q) ∧ ((fx_I S1 r8 1) = v1 → ∃ r10, fx_P S1 v0 8 = some r10 ∧ fx_Go G (2, 28) mm_V_insertByName 0 [(0, fx_r G v0), (1, fx_r G r10), (2, .int v2), (3, .int v3)] [] S1 (fx_qi (fun x12 S11 => fx_Go G (3, 44) mm_V_collectEntries 4 [(0, fx_r G v0), (1, .int v1), (2, .int x12), (3, .int (v3 + Int32.ofInt 1))] [] S11 Q) Q)))) Q))) :
    fx_Go G (3, 44) mm_V_collectEntries 4 [(0, fx_r G v0), (1, .int v1), (2, .int v2), (3, .int v3)] [] S Q := by
  refine fx_iload_n (n := 5) dd_V_collectEntries_4 rfl 3 rfl rfl ?_
  refine fx_bipush (n := 7) (v := 12) dd_V_collectEntries_5 (by decide) rfl ?_
  refine fx_icmp_ge (n := 10) (tg := 48) dd_V_collectEntries_7 rfl rfl (fun hc => ?_) (fun hc => ?_)
  · replace h := h.1 hc
    refine fx_iload_n (n := 49) dd_V_collectEntries_48 rfl 2 rfl rfl ?_
    exact fx_iret dd_V_collectEntries_49 rfl h
  · replace h := h.2 hc
    refine fx_aload_n (n := 11) dd_V_collectEntries_10 rfl 0 rfl rfl ?_
    refine fx_iload_n (n := 12) dd_V_collectEntries_11 rfl 3 rfl rfl ?_
    obtain ⟨q2, h⟩ := h
    refine fx_callV (n := 15) (vs := [_]) dd_V_collectEntries_12 mw_V_isUsed ⟨wd_223, wd_225, wp_4⟩ rfl (by decide) q2.1 q2.2 rfl rfl ⟨Nat.le_of_ble_eq_true rfl, Nat.le_of_ble_eq_true rfl, Nat.le_of_ble_eq_true rfl, fx_nx, rfl⟩ rfl h (fx_qi_k fun x3 S1 h => ?_) (fun _ _ h => h)
    refine fx_if_eq (n := 18) (tg := 42) dd_V_collectEntries_15 rfl rfl (fun hc => ?_) (fun hc => ?_)
    · replace h := h.1 hc
      refine fx_iinc (n := 45) (L' := [(3, _), (0, _), (1, _), (2, _)]) dd_V_collectEntries_42 3 rfl rfl (by decide) rfl rfl ?_
      refine fx_goto (n := 4) dd_V_collectEntries_45 rfl ?_
      refine fx_sub (L' := [(0, _), (1, _), (2, _), (3, _)]) [1, 2, 3, 0] rfl ?_
      exact h
    · replace h := h.2 hc
      refine fx_aload_n (n := 19) dd_V_collectEntries_18 rfl 0 rfl rfl ?_
      obtain ⟨q4, h⟩ := h
      obtain ⟨r5, hr5, h⟩ := h
      refine fx_getP (n := 22) dd_V_collectEntries_19 fw_V_18 (by decide) rfl rfl q4.1 q4.2 hr5 ?_
      refine fx_iload_n (n := 23) dd_V_collectEntries_22 rfl 3 rfl rfl ?_
      obtain ⟨q6, h⟩ := h
      obtain ⟨q7, r8, hr8, h⟩ := h
      refine fx_aald (n := 24) dd_V_collectEntries_23 rfl q6.1 q6.2 q7 hr8 ?_
      obtain ⟨q9, h⟩ := h
      refine fx_getI (n := 27) dd_V_collectEntries_24 fw_V_173 (by decide) rfl rfl q9.1 q9.2 ?_
      refine fx_iload_n (n := 28) dd_V_collectEntries_27 rfl 1 rfl rfl ?_
      refine fx_icmp_ne (n := 31) (tg := 42) dd_V_collectEntries_28 rfl rfl (fun hc => ?_) (fun hc => ?_)
      · replace h := h.1 hc
        refine fx_iinc (n := 45) (L' := [(3, _), (0, _), (1, _), (2, _)]) dd_V_collectEntries_42 3 rfl rfl (by decide) rfl rfl ?_
        refine fx_goto (n := 4) dd_V_collectEntries_45 rfl ?_
        refine fx_sub (L' := [(0, _), (1, _), (2, _), (3, _)]) [1, 2, 3, 0] rfl ?_
        exact h
      · replace h := h.2 hc
        refine fx_aload_n (n := 32) dd_V_collectEntries_31 rfl 0 rfl rfl ?_
        refine fx_aload_n (n := 33) dd_V_collectEntries_32 rfl 0 rfl rfl ?_
        obtain ⟨r10, hr10, h⟩ := h
        refine fx_getP (n := 36) dd_V_collectEntries_33 fw_V_48 (by decide) rfl rfl q4.1 q4.2 hr10 ?_
        refine fx_iload_n (n := 37) dd_V_collectEntries_36 rfl 2 rfl rfl ?_
        refine fx_iload_n (n := 38) dd_V_collectEntries_37 rfl 3 rfl rfl ?_
        refine fx_callV (n := 41) (vs := [_, _, _]) dd_V_collectEntries_38 mw_V_insertByName ⟨wd_446, wd_448, wp_13⟩ rfl (by decide) q4.1 q4.2 rfl rfl ⟨Nat.le_of_ble_eq_true rfl, Nat.le_of_ble_eq_true rfl, Nat.le_of_ble_eq_true rfl, fx_nx, rfl⟩ rfl h (fx_qi_k fun x12 S11 h => ?_) (fun _ _ h => h)
        refine fx_istore_n (n := 42) (L' := [(2, _), (0, _), (1, _), (3, _)]) dd_V_collectEntries_41 rfl (by decide) rfl rfl ?_
        refine fx_iinc (n := 45) (L' := [(3, _), (2, _), (0, _), (1, _)]) dd_V_collectEntries_42 3 rfl rfl (by decide) rfl rfl ?_
        refine fx_goto (n := 4) dd_V_collectEntries_45 rfl ?_
        refine fx_sub (L' := [(0, _), (1, _), (2, _), (3, _)]) [2, 3, 1, 0] rfl ?_
        exact h
theorem bk_V_noteTaken_0 {G : fx_G} {S : fx_S} {Q : fx_R → fx_S → Prop} (v0 : Nat) (h : fx_Go G (1, 12) mm_V_noteTaken 2 [(0, fx_r G v0), (1, .int 0)] [] S Q) :
    fx_Go G (1, 12) mm_V_noteTaken 0 [(0, fx_r G v0)] [] S Q := by
  refine fx_iconst (n := 1) (v := 0) dd_V_noteTaken_0 (by decide) rfl ?_
  refine fx_istore_n (n := 2) (L' := [(1, _), (0, _)]) dd_V_noteTaken_1 rfl (by decide) rfl rfl ?_
  refine fx_sub (L' := [(0, _), (1, _)]) [1, 0] rfl ?_
  exact h
theorem bk_V_noteTaken_2 {G : fx_G} {S : fx_S} {Q : fx_R → fx_S → Prop} (v0 : Nat) (v1 : Int32) (h : (128 ≤ v1 → fx_Go G (1, 12) mm_V_noteTaken 24 [(0, fx_r G v0), (1, .int 0)] [] S Q) ∧ (¬ 128 ≤ v1 → fx_is S v0 4 ∧ ∃ r2, fx_P S v0 2 = some r2 ∧ fx_is S r2 101 ∧ vp_in v1 (fx_ln S r2) ∧ ∀ S5, S5 = fx_setI S r2 (v1.toNatClampNeg) (vp_nar .boolean 0) → fx_Go G (1, 12) mm_V_noteTaken 2 [(0, fx_r G v0), (1, .int (v1 + Int32.ofInt 1))] [] S5 Q)) :
    fx_Go G (1, 12) mm_V_noteTaken 2 [(0, fx_r G v0), (1, .int v1)] [] S Q := by
  refine fx_iload_n (n := 3) dd_V_noteTaken_2 rfl 1 rfl rfl ?_
  refine fx_sipush (n := 6) (v := 128) dd_V_noteTaken_3 (by decide) rfl ?_
  refine fx_icmp_ge (n := 9) (tg := 22) dd_V_noteTaken_6 rfl rfl (fun hc => ?_) (fun hc => ?_)
  · replace h := h.1 hc
    refine fx_iconst (n := 23) (v := 0) dd_V_noteTaken_22 (by decide) rfl ?_
    refine fx_istore_n (n := 24) (L' := [(1, _), (0, _)]) dd_V_noteTaken_23 rfl (by decide) rfl rfl ?_
    refine fx_sub (L' := [(0, _), (1, _)]) [1, 0] rfl ?_
    exact h
  · replace h := h.2 hc
    refine fx_aload_n (n := 10) dd_V_noteTaken_9 rfl 0 rfl rfl ?_
    obtain ⟨q1, h⟩ := h
    obtain ⟨r2, hr2, h⟩ := h
    refine fx_getP (n := 13) dd_V_noteTaken_10 fw_V_23 (by decide) rfl rfl q1.1 q1.2 hr2 ?_
    refine fx_iload_n (n := 14) dd_V_noteTaken_13 rfl 1 rfl rfl ?_
    refine fx_iconst (n := 15) (v := 0) dd_V_noteTaken_14 (by decide) rfl ?_
    obtain ⟨q3, h⟩ := h
    obtain ⟨q4, h⟩ := h
    replace h := h _ rfl
    refine fx_zast (n := 16) dd_V_noteTaken_15 rfl q3.1 q3.2 q4 ?_
    refine fx_iinc (n := 19) (L' := [(1, _), (0, _)]) dd_V_noteTaken_16 1 rfl rfl (by decide) rfl rfl ?_
    refine fx_goto (n := 2) dd_V_noteTaken_19 rfl ?_
    refine fx_sub (L' := [(0, _), (1, _)]) [1, 0] rfl ?_
    exact h
theorem bk_V_noteTaken_24 {G : fx_G} {S : fx_S} {Q : fx_R → fx_S → Prop} (v0 : Nat) (v1 : Int32) (h : (12 ≤ v1 → Q (.inl none) S) ∧ (¬ 12 ≤ v1 → fx_is S v0 4 ∧ ∃ r2, fx_P S v0 1 = some r2 ∧ fx_is S r2 104 ∧ vp_in v1 (fx_ln S r2) ∧ ∃ r5, fx_P S r2 (v1.toNatClampNeg) = some r5 ∧ fx_is S r5 3 ∧ ∃ r7, fx_P S r5 7 = some r7 ∧ fx_Go G (1, 12) mm_V_noteTaken 42 [(0, fx_r G v0), (1, .int v1), (2, fx_r G r7), (3, .int 0)] [] S Q)) :
    fx_Go G (1, 12) mm_V_noteTaken 24 [(0, fx_r G v0), (1, .int v1)] [] S Q := by
  refine fx_iload_n (n := 25) dd_V_noteTaken_24 rfl 1 rfl rfl ?_
  refine fx_bipush (n := 27) (v := 12) dd_V_noteTaken_25 (by decide) rfl ?_
  refine fx_icmp_ge (n := 30) (tg := 86) dd_V_noteTaken_27 rfl rfl (fun hc => ?_) (fun hc => ?_)
  · replace h := h.1 hc
    exact fx_vret dd_V_noteTaken_86 rfl h
  · replace h := h.2 hc
    refine fx_aload_n (n := 31) dd_V_noteTaken_30 rfl 0 rfl rfl ?_
    obtain ⟨q1, h⟩ := h
    obtain ⟨r2, hr2, h⟩ := h
    refine fx_getP (n := 34) dd_V_noteTaken_31 fw_V_18 (by decide) rfl rfl q1.1 q1.2 hr2 ?_
    refine fx_iload_n (n := 35) dd_V_noteTaken_34 rfl 1 rfl rfl ?_
    obtain ⟨q3, h⟩ := h
    obtain ⟨q4, r5, hr5, h⟩ := h
    refine fx_aald (n := 36) dd_V_noteTaken_35 rfl q3.1 q3.2 q4 hr5 ?_
    obtain ⟨q6, h⟩ := h
    obtain ⟨r7, hr7, h⟩ := h
    refine fx_getP (n := 39) dd_V_noteTaken_36 fw_V_152 (by decide) rfl rfl q6.1 q6.2 hr7 ?_
    refine fx_astore_n (n := 40) (L' := [(2, _), (0, _), (1, _)]) dd_V_noteTaken_39 rfl (by decide) rfl rfl ?_
    refine fx_iconst (n := 41) (v := 0) dd_V_noteTaken_40 (by decide) rfl ?_
    refine fx_istore_n (n := 42) (L' := [(3, _), (2, _), (0, _), (1, _)]) dd_V_noteTaken_41 rfl (by decide) rfl rfl ?_
    refine fx_sub (L' := [(0, _), (1, _), (2, _), (3, _)]) [2, 3, 1, 0] rfl ?_
    exact h
theorem bk_V_noteTaken_42 {G : fx_G} {S : fx_S} {Q : fx_R → fx_S → Prop} (v0 : Nat) (v1 : Int32) (v2 : Nat) (v3 : Int32) (h : fx_is S v2 1 ∧ ((fx_I S v2 1) ≤ v3 → fx_Go G (1, 12) mm_V_noteTaken 24 [(0, fx_r G v0), (1, .int (v1 + Int32.ofInt 1))] [] S Q) ∧ (¬ (fx_I S v2 1) ≤ v3 → ∃ r2, fx_P S v2 0 = some r2 ∧ fx_is S r2 100 ∧ vp_in v3 (fx_ln S r2) ∧ fx_Go G (0, 0) mm_V_isDataCluster 0 [(0, .int (fx_I S r2 (v3.toNatClampNeg)))] [] S (fx_qi (fun x6 S5 => (x6 = 0 → fx_Go G (1, 12) mm_V_noteTaken 42 [(0, fx_r G v0), (1, .int v1), (2, fx_r G v2), (3, .int (v3 + Int32.ofInt 1))] [] S5 Q) ∧ (¬ x6 = 0 → fx_is S5 v0 4 ∧ ∃ r8, fx_P S5 v0 2 = some r8 ∧ fx_is S5 v2 1 ∧ ∃ r10, fx_P S5 v2 0 = some r10 ∧ fx_is S5 r10 100 ∧ vp_in v3 (fx_ln S5 r10) ∧ fx_is S5 r8 101 ∧ vp_in (fx_I S5 r10 (v3.toNatClampNeg)) (fx_ln S5 r8) ∧ ∀ S15, S15 = fx_setI S5 r8 ((fx_I S5 r10 (v3.toNatClampNeg)).toNatClampNeg) (vp_nar .boolean 1) → fx_Go G (1, 12) mm_V_noteTaken 42 [(0, fx_r G v0), (1, .int v1), (2, fx_r G v2), (3, .int (v3 + Int32.ofInt 1))] [] S15 Q)) Q))) :
    fx_Go G (1, 12) mm_V_noteTaken 42 [(0, fx_r G v0), (1, .int v1), (2, fx_r G v2), (3, .int v3)] [] S Q := by
  refine fx_iload_n (n := 43) dd_V_noteTaken_42 rfl 3 rfl rfl ?_
  refine fx_aload_n (n := 44) dd_V_noteTaken_43 rfl 2 rfl rfl ?_
  obtain ⟨q1, h⟩ := h
  refine fx_getI (n := 47) dd_V_noteTaken_44 fw_V_262 (by decide) rfl rfl q1.1 q1.2 ?_
  refine fx_icmp_ge (n := 50) (tg := 80) dd_V_noteTaken_47 rfl rfl (fun hc => ?_) (fun hc => ?_)
  · replace h := h.1 hc
    refine fx_iinc (n := 83) (L' := [(1, _), (0, _), (2, _), (3, _)]) dd_V_noteTaken_80 1 rfl rfl (by decide) rfl rfl ?_
    refine fx_goto (n := 24) dd_V_noteTaken_83 rfl ?_
    refine fx_sub (L' := [(0, _), (1, _)]) [1, 0] rfl ?_
    exact h
  · replace h := h.2 hc
    refine fx_aload_n (n := 51) dd_V_noteTaken_50 rfl 2 rfl rfl ?_
    obtain ⟨r2, hr2, h⟩ := h
    refine fx_getP (n := 54) dd_V_noteTaken_51 fw_V_286 (by decide) rfl rfl q1.1 q1.2 hr2 ?_
    refine fx_iload_n (n := 55) dd_V_noteTaken_54 rfl 3 rfl rfl ?_
    obtain ⟨q3, h⟩ := h
    obtain ⟨q4, h⟩ := h
    refine fx_iald (n := 56) dd_V_noteTaken_55 rfl q3.1 q3.2 q4 ?_
    refine fx_callS (n := 59) (vs := [_]) dd_V_noteTaken_56 mw_V_isDataCluster ⟨wd_497, wd_276, wd_1⟩ rfl rfl ⟨Nat.le_of_ble_eq_true rfl, Nat.le_of_ble_eq_true rfl, Nat.le_of_ble_eq_true rfl, fx_nx, rfl⟩ rfl h (fx_qi_k fun x6 S5 h => ?_) (fun _ _ h => h)
    refine fx_if_eq (n := 62) (tg := 74) dd_V_noteTaken_59 rfl rfl (fun hc => ?_) (fun hc => ?_)
    · replace h := h.1 hc
      refine fx_iinc (n := 77) (L' := [(3, _), (0, _), (1, _), (2, _)]) dd_V_noteTaken_74 3 rfl rfl (by decide) rfl rfl ?_
      refine fx_goto (n := 42) dd_V_noteTaken_77 rfl ?_
      refine fx_sub (L' := [(0, _), (1, _), (2, _), (3, _)]) [1, 2, 3, 0] rfl ?_
      exact h
    · replace h := h.2 hc
      refine fx_aload_n (n := 63) dd_V_noteTaken_62 rfl 0 rfl rfl ?_
      obtain ⟨q7, h⟩ := h
      obtain ⟨r8, hr8, h⟩ := h
      refine fx_getP (n := 66) dd_V_noteTaken_63 fw_V_23 (by decide) rfl rfl q7.1 q7.2 hr8 ?_
      refine fx_aload_n (n := 67) dd_V_noteTaken_66 rfl 2 rfl rfl ?_
      obtain ⟨q9, h⟩ := h
      obtain ⟨r10, hr10, h⟩ := h
      refine fx_getP (n := 70) dd_V_noteTaken_67 fw_V_286 (by decide) rfl rfl q9.1 q9.2 hr10 ?_
      refine fx_iload_n (n := 71) dd_V_noteTaken_70 rfl 3 rfl rfl ?_
      obtain ⟨q11, h⟩ := h
      obtain ⟨q12, h⟩ := h
      refine fx_iald (n := 72) dd_V_noteTaken_71 rfl q11.1 q11.2 q12 ?_
      refine fx_iconst (n := 73) (v := 1) dd_V_noteTaken_72 (by decide) rfl ?_
      obtain ⟨q13, h⟩ := h
      obtain ⟨q14, h⟩ := h
      replace h := h _ rfl
      refine fx_zast (n := 74) dd_V_noteTaken_73 rfl q13.1 q13.2 q14 ?_
      refine fx_iinc (n := 77) (L' := [(3, _), (0, _), (1, _), (2, _)]) dd_V_noteTaken_74 3 rfl rfl (by decide) rfl rfl ?_
      refine fx_goto (n := 42) dd_V_noteTaken_77 rfl ?_
      refine fx_sub (L' := [(0, _), (1, _), (2, _), (3, _)]) [1, 2, 3, 0] rfl ?_
      exact h
theorem bk_V_isDataCluster_0 {G : fx_G} {S : fx_S} {Q : fx_R → fx_S → Prop} (v0 : Int32) (h : (v0 < 48 → Q (.inl (some (.int 0))) S) ∧ (¬ v0 < 48 → (128 ≤ v0 → Q (.inl (some (.int 0))) S) ∧ (¬ 128 ≤ v0 → Q (.inl (some (.int 1))) S))) :
    fx_Go G (0, 0) mm_V_isDataCluster 0 [(0, .int v0)] [] S Q := by
  refine fx_iload_n (n := 1) dd_V_isDataCluster_0 rfl 0 rfl rfl ?_
  refine fx_bipush (n := 3) (v := 48) dd_V_isDataCluster_1 (by decide) rfl ?_
  refine fx_icmp_lt (n := 6) (tg := 17) dd_V_isDataCluster_3 rfl rfl (fun hc => ?_) (fun hc => ?_)
  · replace h := h.1 hc
    refine fx_iconst (n := 18) (v := 0) dd_V_isDataCluster_17 (by decide) rfl ?_
    exact fx_zret dd_V_isDataCluster_18 rfl rfl h
  · replace h := h.2 hc
    refine fx_iload_n (n := 7) dd_V_isDataCluster_6 rfl 0 rfl rfl ?_
    refine fx_sipush (n := 10) (v := 128) dd_V_isDataCluster_7 (by decide) rfl ?_
    refine fx_icmp_ge (n := 13) (tg := 17) dd_V_isDataCluster_10 rfl rfl (fun hc => ?_) (fun hc => ?_)
    · replace h := h.1 hc
      refine fx_iconst (n := 18) (v := 0) dd_V_isDataCluster_17 (by decide) rfl ?_
      exact fx_zret dd_V_isDataCluster_18 rfl rfl h
    · replace h := h.2 hc
      refine fx_iconst (n := 14) (v := 1) dd_V_isDataCluster_13 (by decide) rfl ?_
      refine fx_goto (n := 18) dd_V_isDataCluster_14 rfl ?_
      exact fx_zret dd_V_isDataCluster_18 rfl rfl h
theorem bk_V_clustersFor_0 {G : fx_G} {S : fx_S} {Q : fx_R → fx_S → Prop} (v0 : Int32) (h : Q (.inl (some (.int (((v0 + 16) - 1) / 16)))) S) :
    fx_Go G (0, 0) mm_V_clustersFor 0 [(0, .int v0)] [] S Q := by
  refine fx_iload_n (n := 1) dd_V_clustersFor_0 rfl 0 rfl rfl ?_
  refine fx_bipush (n := 3) (v := 16) dd_V_clustersFor_1 (by decide) rfl ?_
  refine fx_iadd (n := 4) dd_V_clustersFor_3 rfl ?_
  refine fx_iconst (n := 5) (v := 1) dd_V_clustersFor_4 (by decide) rfl ?_
  refine fx_isub (n := 6) dd_V_clustersFor_5 rfl ?_
  refine fx_bipush (n := 8) (v := 16) dd_V_clustersFor_6 (by decide) rfl ?_
  refine fx_idiv (n := 9) dd_V_clustersFor_8 (by decide) rfl ?_
  exact fx_iret dd_V_clustersFor_9 rfl h
theorem bk_V_endOfLastCluster_0 {G : fx_G} {S : fx_S} {Q : fx_R → fx_S → Prop} (v0 : Int32) (h : fx_Go G (0, 0) mm_V_clustersFor 0 [(0, .int v0)] [] S (fx_qi (fun x2 S1 => Q (.inl (some (.int (x2 * 16)))) S1) Q)) :
    fx_Go G (1, 12) mm_V_endOfLastCluster 0 [(0, .int v0)] [] S Q := by
  refine fx_iload_n (n := 1) dd_V_endOfLastCluster_0 rfl 0 rfl rfl ?_
  refine fx_callS (n := 4) (vs := [_]) dd_V_endOfLastCluster_1 mw_V_clustersFor ⟨wd_472, wd_473, wd_1⟩ rfl rfl ⟨Nat.le_of_ble_eq_true rfl, Nat.le_of_ble_eq_true rfl, Nat.le_of_ble_eq_true rfl, fx_nx, rfl⟩ rfl h (fx_qi_k fun x2 S1 h => ?_) (fun _ _ h => h)
  refine fx_bipush (n := 6) (v := 16) dd_V_endOfLastCluster_4 (by decide) rfl ?_
  refine fx_imul (n := 7) dd_V_endOfLastCluster_6 rfl ?_
  exact fx_iret dd_V_endOfLastCluster_7 rfl h
theorem bk_V_wordAt_0 {G : fx_G} {S : fx_S} {Q : fx_R → fx_S → Prop} (v0 : Nat) (v1 : Int32) (h : fx_is S v0 100 ∧ vp_in v1 (fx_ln S v0) ∧ vp_in (v1 + 1) (fx_ln S v0) ∧ Q (.inl (some (.int ((fx_I S v0 (v1.toNatClampNeg)) + (256 * (fx_I S v0 ((v1 + 1).toNatClampNeg))))))) S) :
    fx_Go G (0, 0) mm_V_wordAt 0 [(0, fx_r G v0), (1, .int v1)] [] S Q := by
  refine fx_aload_n (n := 1) dd_V_wordAt_0 rfl 0 rfl rfl ?_
  refine fx_iload_n (n := 2) dd_V_wordAt_1 rfl 1 rfl rfl ?_
  obtain ⟨q1, h⟩ := h
  obtain ⟨q2, h⟩ := h
  refine fx_iald (n := 3) dd_V_wordAt_2 rfl q1.1 q1.2 q2 ?_
  refine fx_sipush (n := 6) (v := 256) dd_V_wordAt_3 (by decide) rfl ?_
  refine fx_aload_n (n := 7) dd_V_wordAt_6 rfl 0 rfl rfl ?_
  refine fx_iload_n (n := 8) dd_V_wordAt_7 rfl 1 rfl rfl ?_
  refine fx_iconst (n := 9) (v := 1) dd_V_wordAt_8 (by decide) rfl ?_
  refine fx_iadd (n := 10) dd_V_wordAt_9 rfl ?_
  obtain ⟨q3, h⟩ := h
  refine fx_iald (n := 11) dd_V_wordAt_10 rfl q1.1 q1.2 q3 ?_
  refine fx_imul (n := 12) dd_V_wordAt_11 rfl ?_
  refine fx_iadd (n := 13) dd_V_wordAt_12 rfl ?_
  exact fx_iret dd_V_wordAt_13 rfl h
theorem bk_V_putWord_0 {G : fx_G} {S : fx_S} {Q : fx_R → fx_S → Prop} (v0 : Nat) (v1 : Int32) (v2 : Int32) (h : fx_is S v0 100 ∧ vp_in v1 (fx_ln S v0) ∧ ∀ S3, S3 = fx_setI S v0 (v1.toNatClampNeg) (v2 &&& 255) → vp_in (v1 + 1) (fx_ln S3 v0) ∧ ∀ S5, S5 = fx_setI S3 v0 ((v1 + 1).toNatClampNeg) ((v2 >>> (8 &&& 31)) &&& 255) → Q (.inl none) S5) :
    fx_Go G (0, 0) mm_V_putWord 0 [(0, fx_r G v0), (1, .int v1), (2, .int v2)] [] S Q := by
  refine fx_aload_n (n := 1) dd_V_putWord_0 rfl 0 rfl rfl ?_
  refine fx_iload_n (n := 2) dd_V_putWord_1 rfl 1 rfl rfl ?_
  refine fx_iload_n (n := 3) dd_V_putWord_2 rfl 2 rfl rfl ?_
  refine fx_sipush (n := 6) (v := 255) dd_V_putWord_3 (by decide) rfl ?_
  refine fx_iand (n := 7) dd_V_putWord_6 rfl ?_
  obtain ⟨q1, h⟩ := h
  obtain ⟨q2, h⟩ := h
  replace h := h _ rfl
  refine fx_iast (n := 8) dd_V_putWord_7 rfl q1.1 q1.2 q2 ?_
  refine fx_aload_n (n := 9) dd_V_putWord_8 rfl 0 rfl rfl ?_
  refine fx_iload_n (n := 10) dd_V_putWord_9 rfl 1 rfl rfl ?_
  refine fx_iconst (n := 11) (v := 1) dd_V_putWord_10 (by decide) rfl ?_
  refine fx_iadd (n := 12) dd_V_putWord_11 rfl ?_
  refine fx_iload_n (n := 13) dd_V_putWord_12 rfl 2 rfl rfl ?_
  refine fx_bipush (n := 15) (v := 8) dd_V_putWord_13 (by decide) rfl ?_
  refine fx_ishr (n := 16) dd_V_putWord_15 rfl ?_
  refine fx_sipush (n := 19) (v := 255) dd_V_putWord_16 (by decide) rfl ?_
  refine fx_iand (n := 20) dd_V_putWord_19 rfl ?_
  obtain ⟨q4, h⟩ := h
  replace h := h _ rfl
  refine fx_iast (n := 21) dd_V_putWord_20 rfl q1.1 q1.2 q4 ?_
  exact fx_vret dd_V_putWord_21 rfl h
