theorem bk_V_init_0 {G : fx_G} {S : fx_S} {Q : fx_R → fx_S → Prop} (v0 : Nat) (h : fx_room S 2 ∧ ∀ S1, S1 = fx_new S 0 0 2 → fx_Go G (1, 12) mm_D_init 0 [(0, fx_r G (fx_m S))] [] S1 (fx_qv (fun S3 => fx_is S3 v0 4 ∧ ∀ S5, S5 = fx_setP S3 v0 0 (some (fx_m S)) → fx_room S5 12 ∧ ∀ S6, S6 = fx_new S5 104 12 12 → fx_is S6 v0 4 ∧ ∀ S9, S9 = fx_setP S6 v0 1 (some (fx_m S5)) → fx_Go G (4, 60) mm_V_init 26 [(0, fx_r G v0), (1, .int 0)] [] S9 Q) Q)) :
    fx_Go G (4, 60) mm_V_init 0 [(0, fx_r G v0)] [] S Q := by
  refine fx_aload_n (n := 1) dd_V_init_0 rfl 0 rfl rfl ?_
  refine fx_objInit (n := 4) dd_V_init_1 ⟨wd_21, wd_22, wd_23⟩ rfl ⟨by decide, Nat.le_of_ble_eq_true rfl⟩ ?_
  refine fx_aload_n (n := 5) dd_V_init_4 rfl 0 rfl rfl ?_
  obtain ⟨q2, h⟩ := h
  replace h := h _ rfl
  refine fx_newc (n := 8) dd_V_init_5 cw_0 (by decide) ⟨wd_24, wd_25, wd_2⟩ rfl q2.1 q2.2.1 q2.2.2 ?_
  refine fx_dup (n := 9) dd_V_init_8 rfl rfl ?_
  refine fx_callIN (n := 12) (vs := []) dd_V_init_9 mw_D_init ⟨rfl, rfl, rfl⟩ ⟨wd_26, wd_27, wd_28⟩ rfl rfl ⟨Nat.le_of_ble_eq_true rfl, Nat.le_of_ble_eq_true rfl, Nat.le_of_ble_eq_true rfl, fx_nx, rfl⟩ rfl h (fx_qv_k fun S3 h => ?_) (fun _ _ h => h)
  obtain ⟨q4, h⟩ := h
  replace h := h _ rfl
  refine fx_putP (n := 15) dd_V_init_12 fw_V_12 (by decide) rfl rfl rfl (fun _ => rfl) (fun _ => rfl) rfl q4.1 q4.2 ?_
  refine fx_aload_n (n := 16) dd_V_init_15 rfl 0 rfl rfl ?_
  refine fx_bipush (n := 18) (v := 12) dd_V_init_16 (by decide) rfl ?_
  obtain ⟨q7, h⟩ := h
  replace h := h _ rfl
  refine fx_anew (n := 21) (N := 12) dd_V_init_18 ⟨wd_40, wd_41⟩ rfl (by decide) (by decide) q7.1 q7.2.1 q7.2.2 ?_
  obtain ⟨q8, h⟩ := h
  replace h := h _ rfl
  refine fx_putP (n := 24) dd_V_init_21 fw_V_18 (by decide) rfl rfl rfl (fun _ => rfl) (fun _ => rfl) rfl q8.1 q8.2 ?_
  refine fx_iconst (n := 25) (v := 0) dd_V_init_24 (by decide) rfl ?_
  refine fx_istore_n (n := 26) (L' := [(1, _), (0, _)]) dd_V_init_25 rfl (by decide) rfl rfl ?_
  refine fx_sub (L' := [(0, _), (1, _)]) [1, 0] rfl ?_
  exact h
theorem bk_V_init_26 {G : fx_G} {S : fx_S} {Q : fx_R → fx_S → Prop} (v0 : Nat) (v1 : Int32) (h : (12 ≤ v1 → fx_room S 128 ∧ ∀ S1, S1 = fx_new S 101 128 128 → fx_is S1 v0 4 ∧ ∀ S4, S4 = fx_setP S1 v0 2 (some (fx_m S)) → fx_room S4 2 ∧ ∀ S5, S5 = fx_new S4 2 0 2 → fx_Go G (1, 12) mm_N_init 0 [(0, fx_r G (fx_m S4))] [] S5 (fx_qv (fun S7 => fx_is S7 v0 4 ∧ ∀ S9, S9 = fx_setP S7 v0 3 (some (fx_m S4)) → fx_room S9 2 ∧ ∀ S10, S10 = fx_new S9 2 0 2 → fx_Go G (1, 12) mm_N_init 0 [(0, fx_r G (fx_m S9))] [] S10 (fx_qv (fun S12 => fx_is S12 v0 4 ∧ ∀ S14, S14 = fx_setP S12 v0 5 (some (fx_m S9)) → fx_room S14 2 ∧ ∀ S15, S15 = fx_new S14 1 0 2 → fx_Go G (1, 12) mm_Y_init 0 [(0, fx_r G (fx_m S14))] [] S15 (fx_qv (fun S17 => fx_is S17 v0 4 ∧ ∀ S19, S19 = fx_setP S17 v0 6 (some (fx_m S14)) → fx_room S19 64 ∧ ∀ S20, S20 = fx_new S19 100 64 64 → fx_is S20 v0 4 ∧ ∀ S23, S23 = fx_setP S20 v0 7 (some (fx_m S19)) → fx_room S23 12 ∧ ∀ S24, S24 = fx_new S23 100 12 12 → fx_is S24 v0 4 ∧ ∀ S27, S27 = fx_setP S24 v0 8 (some (fx_m S23)) → ∃ r28, fx_P S27 v0 1 = some r28 ∧ fx_is S27 r28 104 ∧ vp_in 0 (fx_ln S27 r28) ∧ ∃ r31, fx_P S27 r28 ((0 : Int32).toNatClampNeg) = some r31 ∧ fx_is S27 r31 3 ∧ fx_Go G (1, 12) mm_H_become 0 [(0, fx_r G r31), (1, .int 2), (2, .int 0)] [] S27 (fx_qv (fun S32 => fx_is S32 v0 4 ∧ ∃ r35, fx_P S32 v0 1 = some r35 ∧ fx_is S32 r35 104 ∧ vp_in 0 (fx_ln S32 r35) ∧ ∃ r38, fx_P S32 r35 ((0 : Int32).toNatClampNeg) = some r38 ∧ fx_is S32 r38 3 ∧ fx_Go G (0, 0) mm_H_takeNextNumber 0 [(0, fx_r G r38)] [] S32 (fx_qv (fun S39 => fx_is S39 v0 4 ∧ ∃ r42, fx_P S39 v0 1 = some r42 ∧ fx_is S39 r42 104 ∧ vp_in 0 (fx_ln S39 r42) ∧ ∃ r45, fx_P S39 r42 ((0 : Int32).toNatClampNeg) = some r45 ∧ ∃ r46, fx_P S39 v0 7 = some r46 ∧ fx_is S39 r45 3 ∧ fx_Go G (3, 46) mm_H_encode 0 [(0, fx_r G r45), (1, fx_r G r46)] [] S39 (fx_qv (fun S47 => fx_is S47 v0 4 ∧ ∃ r50, fx_P S47 v0 0 = some r50 ∧ ∃ r51, fx_P S47 v0 7 = some r51 ∧ fx_is S47 r50 0 ∧ fx_Go G (1, 18) mm_D_laySector 0 [(0, fx_r G r50), (1, .int 0), (2, .int 0), (3, fx_r G r51)] [] S47 (fx_qv (fun S52 => fx_is S52 v0 4 ∧ ∃ r55, fx_P S52 v0 0 = some r55 ∧ ∃ r56, fx_P S52 v0 7 = some r56 ∧ fx_is S52 r55 0 ∧ fx_Go G (1, 18) mm_D_laySector 0 [(0, fx_r G r55), (1, .int 0), (2, .int 1), (3, fx_r G r56)] [] S52 (fx_qv (fun S57 => fx_is S57 v0 4 ∧ ∀ S60, S60 = fx_setI S57 v0 4 1 → Q (.inl none) S60) Q)) Q)) Q)) Q)) Q)) Q)) Q)) Q)) ∧ (¬ 12 ≤ v1 → fx_is S v0 4 ∧ ∃ r62, fx_P S v0 1 = some r62 ∧ fx_room S 8 ∧ ∀ S63, S63 = fx_new S 3 0 8 → fx_Go G (2, 26) mm_H_init 0 [(0, fx_r G (fx_m S))] [] S63 (fx_qv (fun S65 => fx_is S65 r62 104 ∧ fx_is S65 (fx_m S) 3 ∧ vp_in v1 (fx_ln S65 r62) ∧ ∀ S68, S68 = fx_setP S65 r62 (v1.toNatClampNeg) (some (fx_m S)) → fx_Go G (4, 60) mm_V_init 26 [(0, fx_r G v0), (1, .int (v1 + Int32.ofInt 1))] [] S68 Q) Q))) :
    fx_Go G (4, 60) mm_V_init 26 [(0, fx_r G v0), (1, .int v1)] [] S Q := by
  refine fx_iload_n (n := 27) dd_V_init_26 rfl 1 rfl rfl ?_
  refine fx_bipush (n := 29) (v := 12) dd_V_init_27 (by decide) rfl ?_
  refine fx_icmp_ge (n := 32) (tg := 51) dd_V_init_29 rfl rfl (fun hc => ?_) (fun hc => ?_)
  · replace h := h.1 hc
    refine fx_aload_n (n := 52) dd_V_init_51 rfl 0 rfl rfl ?_
    refine fx_sipush (n := 55) (v := 128) dd_V_init_52 (by decide) rfl ?_
    obtain ⟨q2, h⟩ := h
    replace h := h _ rfl
    refine fx_newa (n := 57) (t := 1) (N := 128) dd_V_init_55 wd_198 (Or.inr (Or.inl ⟨rfl, rfl⟩)) rfl (by decide) (by decide) q2.1 q2.2.1 q2.2.2 ?_
    obtain ⟨q3, h⟩ := h
    replace h := h _ rfl
    refine fx_putP (n := 60) dd_V_init_57 fw_V_23 (by decide) rfl rfl rfl (fun _ => rfl) (fun _ => rfl) rfl q3.1 q3.2 ?_
    refine fx_aload_n (n := 61) dd_V_init_60 rfl 0 rfl rfl ?_
    obtain ⟨q6, h⟩ := h
    replace h := h _ rfl
    refine fx_newc (n := 64) dd_V_init_61 cw_2 (by decide) ⟨wd_112, wd_48, wd_4⟩ rfl q6.1 q6.2.1 q6.2.2 ?_
    refine fx_dup (n := 65) dd_V_init_64 rfl rfl ?_
    refine fx_callIN (n := 68) (vs := []) dd_V_init_65 mw_N_init ⟨rfl, rfl, rfl⟩ ⟨wd_113, wd_50, wd_51⟩ rfl rfl ⟨Nat.le_of_ble_eq_true rfl, Nat.le_of_ble_eq_true rfl, Nat.le_of_ble_eq_true rfl, fx_nx, rfl⟩ rfl h (fx_qv_k fun S7 h => ?_) (fun _ _ h => h)
    obtain ⟨q8, h⟩ := h
    replace h := h _ rfl
    refine fx_putP (n := 71) dd_V_init_68 fw_V_30 (by decide) rfl rfl rfl (fun _ => rfl) (fun _ => rfl) rfl q8.1 q8.2 ?_
    refine fx_aload_n (n := 72) dd_V_init_71 rfl 0 rfl rfl ?_
    obtain ⟨q11, h⟩ := h
    replace h := h _ rfl
    refine fx_newc (n := 75) dd_V_init_72 cw_2 (by decide) ⟨wd_112, wd_48, wd_4⟩ rfl q11.1 q11.2.1 q11.2.2 ?_
    refine fx_dup (n := 76) dd_V_init_75 rfl rfl ?_
    refine fx_callIN (n := 79) (vs := []) dd_V_init_76 mw_N_init ⟨rfl, rfl, rfl⟩ ⟨wd_113, wd_50, wd_51⟩ rfl rfl ⟨Nat.le_of_ble_eq_true rfl, Nat.le_of_ble_eq_true rfl, Nat.le_of_ble_eq_true rfl, fx_nx, rfl⟩ rfl h (fx_qv_k fun S12 h => ?_) (fun _ _ h => h)
    obtain ⟨q13, h⟩ := h
    replace h := h _ rfl
    refine fx_putP (n := 82) dd_V_init_79 fw_V_34 (by decide) rfl rfl rfl (fun _ => rfl) (fun _ => rfl) rfl q13.1 q13.2 ?_
    refine fx_aload_n (n := 83) dd_V_init_82 rfl 0 rfl rfl ?_
    obtain ⟨q16, h⟩ := h
    replace h := h _ rfl
    refine fx_newc (n := 86) dd_V_init_83 cw_1 (by decide) ⟨wd_114, wd_64, wd_5⟩ rfl q16.1 q16.2.1 q16.2.2 ?_
    refine fx_dup (n := 87) dd_V_init_86 rfl rfl ?_
    refine fx_callIN (n := 90) (vs := []) dd_V_init_87 mw_Y_init ⟨rfl, rfl, rfl⟩ ⟨wd_115, wd_66, wd_67⟩ rfl rfl ⟨Nat.le_of_ble_eq_true rfl, Nat.le_of_ble_eq_true rfl, Nat.le_of_ble_eq_true rfl, fx_nx, rfl⟩ rfl h (fx_qv_k fun S17 h => ?_) (fun _ _ h => h)
    obtain ⟨q18, h⟩ := h
    replace h := h _ rfl
    refine fx_putP (n := 93) dd_V_init_90 fw_V_40 (by decide) rfl rfl rfl (fun _ => rfl) (fun _ => rfl) rfl q18.1 q18.2 ?_
    refine fx_aload_n (n := 94) dd_V_init_93 rfl 0 rfl rfl ?_
    refine fx_bipush (n := 96) (v := 64) dd_V_init_94 (by decide) rfl ?_
    obtain ⟨q21, h⟩ := h
    replace h := h _ rfl
    refine fx_newa (n := 98) (t := 0) (N := 64) dd_V_init_96 wd_39 (Or.inl ⟨rfl, rfl⟩) rfl (by decide) (by decide) q21.1 q21.2.1 q21.2.2 ?_
    obtain ⟨q22, h⟩ := h
    replace h := h _ rfl
    refine fx_putP (n := 101) dd_V_init_98 fw_V_44 (by decide) rfl rfl rfl (fun _ => rfl) (fun _ => rfl) rfl q22.1 q22.2 ?_
    refine fx_aload_n (n := 102) dd_V_init_101 rfl 0 rfl rfl ?_
    refine fx_bipush (n := 104) (v := 12) dd_V_init_102 (by decide) rfl ?_
    obtain ⟨q25, h⟩ := h
    replace h := h _ rfl
    refine fx_newa (n := 106) (t := 0) (N := 12) dd_V_init_104 wd_39 (Or.inl ⟨rfl, rfl⟩) rfl (by decide) (by decide) q25.1 q25.2.1 q25.2.2 ?_
    obtain ⟨q26, h⟩ := h
    replace h := h _ rfl
    refine fx_putP (n := 109) dd_V_init_106 fw_V_48 (by decide) rfl rfl rfl (fun _ => rfl) (fun _ => rfl) rfl q26.1 q26.2 ?_
    refine fx_aload_n (n := 110) dd_V_init_109 rfl 0 rfl rfl ?_
    obtain ⟨r28, hr28, h⟩ := h
    refine fx_getP (n := 113) dd_V_init_110 fw_V_18 (by decide) rfl rfl q26.1 q26.2 hr28 ?_
    refine fx_iconst (n := 114) (v := 0) dd_V_init_113 (by decide) rfl ?_
    obtain ⟨q29, h⟩ := h
    obtain ⟨q30, r31, hr31, h⟩ := h
    refine fx_aald (n := 115) dd_V_init_114 rfl q29.1 q29.2 q30 hr31 ?_
    refine fx_iconst (n := 116) (v := 2) dd_V_init_115 (by decide) rfl ?_
    refine fx_iconst (n := 117) (v := 0) dd_V_init_116 (by decide) rfl ?_
    obtain ⟨q33, h⟩ := h
    refine fx_callV (n := 120) (vs := [_, _]) dd_V_init_117 mw_H_become ⟨wd_116, wd_117, wd_118⟩ rfl (by decide) q33.1 q33.2 rfl rfl ⟨Nat.le_of_ble_eq_true rfl, Nat.le_of_ble_eq_true rfl, Nat.le_of_ble_eq_true rfl, fx_nx, rfl⟩ rfl h (fx_qv_k fun S32 h => ?_) (fun _ _ h => h)
    refine fx_aload_n (n := 121) dd_V_init_120 rfl 0 rfl rfl ?_
    obtain ⟨q34, h⟩ := h
    obtain ⟨r35, hr35, h⟩ := h
    refine fx_getP (n := 124) dd_V_init_121 fw_V_18 (by decide) rfl rfl q34.1 q34.2 hr35 ?_
    refine fx_iconst (n := 125) (v := 0) dd_V_init_124 (by decide) rfl ?_
    obtain ⟨q36, h⟩ := h
    obtain ⟨q37, r38, hr38, h⟩ := h
    refine fx_aald (n := 126) dd_V_init_125 rfl q36.1 q36.2 q37 hr38 ?_
    obtain ⟨q40, h⟩ := h
    refine fx_callV (n := 129) (vs := []) dd_V_init_126 mw_H_takeNextNumber ⟨wd_124, wd_125, wd_126⟩ rfl (by decide) q40.1 q40.2 rfl rfl ⟨Nat.le_of_ble_eq_true rfl, Nat.le_of_ble_eq_true rfl, Nat.le_of_ble_eq_true rfl, fx_nx, rfl⟩ rfl h (fx_qv_k fun S39 h => ?_) (fun _ _ h => h)
    refine fx_aload_n (n := 130) dd_V_init_129 rfl 0 rfl rfl ?_
    obtain ⟨q41, h⟩ := h
    obtain ⟨r42, hr42, h⟩ := h
    refine fx_getP (n := 133) dd_V_init_130 fw_V_18 (by decide) rfl rfl q41.1 q41.2 hr42 ?_
    refine fx_iconst (n := 134) (v := 0) dd_V_init_133 (by decide) rfl ?_
    obtain ⟨q43, h⟩ := h
    obtain ⟨q44, r45, hr45, h⟩ := h
    refine fx_aald (n := 135) dd_V_init_134 rfl q43.1 q43.2 q44 hr45 ?_
    refine fx_aload_n (n := 136) dd_V_init_135 rfl 0 rfl rfl ?_
    obtain ⟨r46, hr46, h⟩ := h
    refine fx_getP (n := 139) dd_V_init_136 fw_V_44 (by decide) rfl rfl q41.1 q41.2 hr46 ?_
    obtain ⟨q48, h⟩ := h
    refine fx_callV (n := 142) (vs := [_]) dd_V_init_139 mw_H_encode ⟨wd_129, wd_130, wd_131⟩ rfl (by decide) q48.1 q48.2 rfl rfl ⟨Nat.le_of_ble_eq_true rfl, Nat.le_of_ble_eq_true rfl, Nat.le_of_ble_eq_true rfl, fx_nx, rfl⟩ rfl h (fx_qv_k fun S47 h => ?_) (fun _ _ h => h)
    refine fx_aload_n (n := 143) dd_V_init_142 rfl 0 rfl rfl ?_
    obtain ⟨q49, h⟩ := h
    obtain ⟨r50, hr50, h⟩ := h
    refine fx_getP (n := 146) dd_V_init_143 fw_V_12 (by decide) rfl rfl q49.1 q49.2 hr50 ?_
    refine fx_iconst (n := 147) (v := 0) dd_V_init_146 (by decide) rfl ?_
    refine fx_iconst (n := 148) (v := 0) dd_V_init_147 (by decide) rfl ?_
    refine fx_aload_n (n := 149) dd_V_init_148 rfl 0 rfl rfl ?_
    obtain ⟨r51, hr51, h⟩ := h
    refine fx_getP (n := 152) dd_V_init_149 fw_V_44 (by decide) rfl rfl q49.1 q49.2 hr51 ?_
    obtain ⟨q53, h⟩ := h
    refine fx_callV (n := 155) (vs := [_, _, _]) dd_V_init_152 mw_D_laySector ⟨wd_165, wd_166, wd_167⟩ rfl (by decide) q53.1 q53.2 rfl rfl ⟨Nat.le_of_ble_eq_true rfl, Nat.le_of_ble_eq_true rfl, Nat.le_of_ble_eq_true rfl, fx_nx, rfl⟩ rfl h (fx_qv_k fun S52 h => ?_) (fun _ _ h => h)
    refine fx_aload_n (n := 156) dd_V_init_155 rfl 0 rfl rfl ?_
    obtain ⟨q54, h⟩ := h
    obtain ⟨r55, hr55, h⟩ := h
    refine fx_getP (n := 159) dd_V_init_156 fw_V_12 (by decide) rfl rfl q54.1 q54.2 hr55 ?_
    refine fx_iconst (n := 160) (v := 0) dd_V_init_159 (by decide) rfl ?_
    refine fx_iconst (n := 161) (v := 1) dd_V_init_160 (by decide) rfl ?_
    refine fx_aload_n (n := 162) dd_V_init_161 rfl 0 rfl rfl ?_
    obtain ⟨r56, hr56, h⟩ := h
    refine fx_getP (n := 165) dd_V_init_162 fw_V_44 (by decide) rfl rfl q54.1 q54.2 hr56 ?_
    obtain ⟨q58, h⟩ := h
    refine fx_callV (n := 168) (vs := [_, _, _]) dd_V_init_165 mw_D_laySector ⟨wd_165, wd_166, wd_167⟩ rfl (by decide) q58.1 q58.2 rfl rfl ⟨Nat.le_of_ble_eq_true rfl, Nat.le_of_ble_eq_true rfl, Nat.le_of_ble_eq_true rfl, fx_nx, rfl⟩ rfl h (fx_qv_k fun S57 h => ?_) (fun _ _ h => h)
    refine fx_aload_n (n := 169) dd_V_init_168 rfl 0 rfl rfl ?_
    refine fx_iconst (n := 170) (v := 1) dd_V_init_169 (by decide) rfl ?_
    obtain ⟨q59, h⟩ := h
    replace h := h _ rfl
    refine fx_putI (n := 173) dd_V_init_170 fw_V_66 (by decide) rfl rfl rfl rfl q59.1 q59.2 ?_
    exact fx_vret dd_V_init_173 rfl h
  · replace h := h.2 hc
    refine fx_aload_n (n := 33) dd_V_init_32 rfl 0 rfl rfl ?_
    obtain ⟨q61, h⟩ := h
    obtain ⟨r62, hr62, h⟩ := h
    refine fx_getP (n := 36) dd_V_init_33 fw_V_18 (by decide) rfl rfl q61.1 q61.2 hr62 ?_
    refine fx_iload_n (n := 37) dd_V_init_36 rfl 1 rfl rfl ?_
    obtain ⟨q64, h⟩ := h
    replace h := h _ rfl
    refine fx_newc (n := 40) dd_V_init_37 cw_3 (by decide) ⟨wd_40, wd_42, wd_3⟩ rfl q64.1 q64.2.1 q64.2.2 ?_
    refine fx_dup (n := 41) dd_V_init_40 rfl rfl ?_
    refine fx_callIN (n := 44) (vs := []) dd_V_init_41 mw_H_init ⟨rfl, rfl, rfl⟩ ⟨wd_43, wd_44, wd_45⟩ rfl rfl ⟨Nat.le_of_ble_eq_true rfl, Nat.le_of_ble_eq_true rfl, Nat.le_of_ble_eq_true rfl, fx_nx, rfl⟩ rfl h (fx_qv_k fun S65 h => ?_) (fun _ _ h => h)
    obtain ⟨q66, h⟩ := h
    obtain ⟨q69, h⟩ := h
    obtain ⟨q67, h⟩ := h
    replace h := h _ rfl
    refine fx_aast (n := 45) dd_V_init_44 rfl q66.1 q66.2 q67 q69.1 q69.2 (by decide) rfl rfl ?_
    refine fx_iinc (n := 48) (L' := [(1, _), (0, _)]) dd_V_init_45 1 rfl rfl (by decide) rfl rfl ?_
    refine fx_goto (n := 26) dd_V_init_48 rfl ?_
    refine fx_sub (L' := [(0, _), (1, _)]) [1, 0] rfl ?_
    exact h
theorem bk_V_type_0 {G : fx_G} {S : fx_S} {Q : fx_R → fx_S → Prop} (v0 : Nat) (v1 : Int32) (h : fx_is S v0 4 ∧ ∃ r2, fx_P S v0 3 = some r2 ∧ fx_is S r2 2 ∧ fx_Go G (0, 0) mm_N_append 0 [(0, fx_r G r2), (1, .int v1)] [] S (fx_qi (fun x5 S3 => narrow .boolean (.int x5) = .int x5 ∧ Q (.inl (some (.int x5))) S3) Q)) :
    fx_Go G (1, 14) mm_V_type 0 [(0, fx_r G v0), (1, .int v1)] [] S Q := by
  refine fx_aload_n (n := 1) dd_V_type_0 rfl 0 rfl rfl ?_
  obtain ⟨q1, h⟩ := h
  obtain ⟨r2, hr2, h⟩ := h
  refine fx_getP (n := 4) dd_V_type_1 fw_V_30 (by decide) rfl rfl q1.1 q1.2 hr2 ?_
  refine fx_iload_n (n := 5) dd_V_type_4 rfl 1 rfl rfl ?_
  obtain ⟨q4, h⟩ := h
  refine fx_callV (n := 8) (vs := [_]) dd_V_type_5 mw_N_append ⟨wd_203, wd_204, wd_205⟩ rfl (by decide) q4.1 q4.2 rfl rfl ⟨Nat.le_of_ble_eq_true rfl, Nat.le_of_ble_eq_true rfl, Nat.le_of_ble_eq_true rfl, fx_nx, rfl⟩ rfl h (fx_qi_k fun x5 S3 h => ?_) (fun _ _ h => h)
  exact fx_zret dd_V_type_8 rfl h.1 h.2
theorem bk_V_create_0 {G : fx_G} {S : fx_S} {Q : fx_R → fx_S → Prop} (v0 : Nat) (v1 : Int32) (v2 : Int32) (h : fx_is S v0 4 ∧ ∃ r2, fx_P S v0 5 = some r2 ∧ ∃ r3, fx_P S v0 3 = some r3 ∧ fx_is S r2 2 ∧ fx_Go G (1, 18) mm_N_copyFrom 0 [(0, fx_r G r2), (1, fx_r G r3)] [] S (fx_qv (fun S4 => fx_is S4 v0 4 ∧ ∃ r7, fx_P S4 v0 3 = some r7 ∧ fx_is S4 r7 2 ∧ fx_Go G (0, 0) mm_N_clear 0 [(0, fx_r G r7)] [] S4 (fx_qv (fun S8 => fx_is S8 v0 4 ∧ fx_Go G (6, 82) mm_V_requireRunning 0 [(0, fx_r G v0)] [] S8 (fx_qv (fun S10 => fx_is S10 v0 4 ∧ fx_Go G (1, 13) mm_V_isDirectory 0 [(0, fx_r G v0), (1, .int v1)] [] S10 (fx_qi (fun x14 S12 => (x14 = 0 → fx_Go G (8, 109) mm_V_create 58 [(0, fx_r G v0), (1, .int v1), (2, .int v2)] [.int 0] S12 Q) ∧ (¬ x14 = 0 → fx_is S12 v0 4 ∧ ∃ r16, fx_P S12 v0 5 = some r16 ∧ fx_is S12 r16 2 ∧ ((fx_I S12 r16 1) ≤ 0 → fx_Go G (8, 109) mm_V_create 58 [(0, fx_r G v0), (1, .int v1), (2, .int v2)] [.int 0] S12 Q) ∧ (¬ (fx_I S12 r16 1) ≤ 0 → ∃ r18, fx_P S12 v0 5 = some r18 ∧ fx_Go G (2, 28) mm_V_entryNamed 0 [(0, fx_r G v0), (1, .int v1), (2, fx_r G r18)] [] S12 (fx_qi (fun x20 S19 => (¬ x20 = (-1) → fx_Go G (8, 109) mm_V_create 58 [(0, fx_r G v0), (1, .int v1), (2, .int v2)] [.int 0] S19 Q) ∧ (x20 = (-1) → fx_Go G (8, 109) mm_V_create 58 [(0, fx_r G v0), (1, .int v1), (2, .int v2)] [.int 1] S19 Q)) Q)))) Q)) Q)) Q)) Q)) :
    fx_Go G (8, 109) mm_V_create 0 [(0, fx_r G v0), (1, .int v1), (2, .int v2)] [] S Q := by
  refine fx_aload_n (n := 1) dd_V_create_0 rfl 0 rfl rfl ?_
  obtain ⟨q1, h⟩ := h
  obtain ⟨r2, hr2, h⟩ := h
  refine fx_getP (n := 4) dd_V_create_1 fw_V_34 (by decide) rfl rfl q1.1 q1.2 hr2 ?_
  refine fx_aload_n (n := 5) dd_V_create_4 rfl 0 rfl rfl ?_
  obtain ⟨r3, hr3, h⟩ := h
  refine fx_getP (n := 8) dd_V_create_5 fw_V_30 (by decide) rfl rfl q1.1 q1.2 hr3 ?_
  obtain ⟨q5, h⟩ := h
  refine fx_callV (n := 11) (vs := [_]) dd_V_create_8 mw_N_copyFrom ⟨wd_313, wd_314, wd_315⟩ rfl (by decide) q5.1 q5.2 rfl rfl ⟨Nat.le_of_ble_eq_true rfl, Nat.le_of_ble_eq_true rfl, Nat.le_of_ble_eq_true rfl, fx_nx, rfl⟩ rfl h (fx_qv_k fun S4 h => ?_) (fun _ _ h => h)
  refine fx_aload_n (n := 12) dd_V_create_11 rfl 0 rfl rfl ?_
  obtain ⟨q6, h⟩ := h
  obtain ⟨r7, hr7, h⟩ := h
  refine fx_getP (n := 15) dd_V_create_12 fw_V_30 (by decide) rfl rfl q6.1 q6.2 hr7 ?_
  obtain ⟨q9, h⟩ := h
  refine fx_callV (n := 18) (vs := []) dd_V_create_15 mw_N_clear ⟨wd_238, wd_121, wd_122⟩ rfl (by decide) q9.1 q9.2 rfl rfl ⟨Nat.le_of_ble_eq_true rfl, Nat.le_of_ble_eq_true rfl, Nat.le_of_ble_eq_true rfl, fx_nx, rfl⟩ rfl h (fx_qv_k fun S8 h => ?_) (fun _ _ h => h)
  refine fx_aload_n (n := 19) dd_V_create_18 rfl 0 rfl rfl ?_
  obtain ⟨q11, h⟩ := h
  refine fx_callV (n := 22) (vs := []) dd_V_create_19 mw_V_requireRunning ⟨wd_318, wd_320, wp_7⟩ rfl (by decide) q11.1 q11.2 rfl rfl ⟨Nat.le_of_ble_eq_true rfl, Nat.le_of_ble_eq_true rfl, Nat.le_of_ble_eq_true rfl, fx_nx, rfl⟩ rfl h (fx_qv_k fun S10 h => ?_) (fun _ _ h => h)
  refine fx_aload_n (n := 23) dd_V_create_22 rfl 0 rfl rfl ?_
  refine fx_iload_n (n := 24) dd_V_create_23 rfl 1 rfl rfl ?_
  obtain ⟨q13, h⟩ := h
  refine fx_callV (n := 27) (vs := [_]) dd_V_create_24 mw_V_isDirectory ⟨wd_219, wd_221, wp_3⟩ rfl (by decide) q13.1 q13.2 rfl rfl ⟨Nat.le_of_ble_eq_true rfl, Nat.le_of_ble_eq_true rfl, Nat.le_of_ble_eq_true rfl, fx_nx, rfl⟩ rfl h (fx_qi_k fun x14 S12 h => ?_) (fun _ _ h => h)
  refine fx_if_eq (n := 30) (tg := 57) dd_V_create_27 rfl rfl (fun hc => ?_) (fun hc => ?_)
  · replace h := h.1 hc
    refine fx_iconst (n := 58) (v := 0) dd_V_create_57 (by decide) rfl ?_
    exact h
  · replace h := h.2 hc
    refine fx_aload_n (n := 31) dd_V_create_30 rfl 0 rfl rfl ?_
    obtain ⟨q15, h⟩ := h
    obtain ⟨r16, hr16, h⟩ := h
    refine fx_getP (n := 34) dd_V_create_31 fw_V_34 (by decide) rfl rfl q15.1 q15.2 hr16 ?_
    obtain ⟨q17, h⟩ := h
    refine fx_getI (n := 37) dd_V_create_34 fw_V_87 (by decide) rfl rfl q17.1 q17.2 ?_
    refine fx_if_le (n := 40) (tg := 57) dd_V_create_37 rfl rfl (fun hc => ?_) (fun hc => ?_)
    · replace h := h.1 hc
      refine fx_iconst (n := 58) (v := 0) dd_V_create_57 (by decide) rfl ?_
      exact h
    · replace h := h.2 hc
      refine fx_aload_n (n := 41) dd_V_create_40 rfl 0 rfl rfl ?_
      refine fx_iload_n (n := 42) dd_V_create_41 rfl 1 rfl rfl ?_
      refine fx_aload_n (n := 43) dd_V_create_42 rfl 0 rfl rfl ?_
      obtain ⟨r18, hr18, h⟩ := h
      refine fx_getP (n := 46) dd_V_create_43 fw_V_34 (by decide) rfl rfl q15.1 q15.2 hr18 ?_
      refine fx_callV (n := 49) (vs := [_, _]) dd_V_create_46 mw_V_entryNamed ⟨wd_227, wd_229, wp_5⟩ rfl (by decide) q15.1 q15.2 rfl rfl ⟨Nat.le_of_ble_eq_true rfl, Nat.le_of_ble_eq_true rfl, Nat.le_of_ble_eq_true rfl, fx_nx, rfl⟩ rfl h (fx_qi_k fun x20 S19 h => ?_) (fun _ _ h => h)
      refine fx_iconst (n := 50) (v := (-1)) dd_V_create_49 (by decide) rfl ?_
      refine fx_icmp_ne (n := 53) (tg := 57) dd_V_create_50 rfl rfl (fun hc => ?_) (fun hc => ?_)
      · replace h := h.1 hc
        refine fx_iconst (n := 58) (v := 0) dd_V_create_57 (by decide) rfl ?_
        exact h
      · replace h := h.2 hc
        refine fx_iconst (n := 54) (v := 1) dd_V_create_53 (by decide) rfl ?_
        refine fx_goto (n := 58) dd_V_create_54 rfl ?_
        exact h
theorem bk_V_create_58 {G : fx_G} {S : fx_S} {Q : fx_R → fx_S → Prop} (v0 : Nat) (v1 : Int32) (v2 : Int32) (z0 : Int32) (h : fx_Go G (6, 82) mm_V_require 0 [(0, .int z0)] [] S (fx_qv (fun S1 => fx_is S1 v0 4 ∧ fx_Go G (1, 13) mm_V_lowestFreeRecord 0 [(0, fx_r G v0)] [] S1 (fx_qi (fun x4 S2 => (¬ x4 = (-1) → fx_is S2 v0 4 ∧ ∃ r6, fx_P S2 v0 1 = some r6 ∧ fx_is S2 r6 104 ∧ vp_in x4 (fx_ln S2 r6) ∧ ∃ r9, fx_P S2 r6 (x4.toNatClampNeg) = some r9 ∧ (v2 = 0 → fx_Go G (8, 109) mm_V_create 96 [(0, fx_r G v0), (1, .int v1), (3, .int x4)] [.int 2, fx_r G r9] S2 Q) ∧ (¬ v2 = 0 → fx_Go G (8, 109) mm_V_create 96 [(0, fx_r G v0), (1, .int v1), (3, .int x4)] [.int 1, fx_r G r9] S2 Q)) ∧ (x4 = (-1) → fx_roomx S2 ∧ Q (.inr 3) (fx_exc S2))) Q)) Q)) :
    fx_Go G (8, 109) mm_V_create 58 [(0, fx_r G v0), (1, .int v1), (2, .int v2)] [.int z0] S Q := by
  refine fx_callS (n := 61) (vs := [_]) dd_V_create_58 mw_V_require ⟨wd_390, wd_391, wd_1⟩ rfl rfl ⟨Nat.le_of_ble_eq_true rfl, Nat.le_of_ble_eq_true rfl, Nat.le_of_ble_eq_true rfl, fx_nx, rfl⟩ rfl h (fx_qv_k fun S1 h => ?_) (fun _ _ h => h)
  refine fx_aload_n (n := 62) dd_V_create_61 rfl 0 rfl rfl ?_
  obtain ⟨q3, h⟩ := h
  refine fx_callV (n := 65) (vs := []) dd_V_create_62 mw_V_lowestFreeRecord ⟨wd_409, wd_411, wp_9⟩ rfl (by decide) q3.1 q3.2 rfl rfl ⟨Nat.le_of_ble_eq_true rfl, Nat.le_of_ble_eq_true rfl, Nat.le_of_ble_eq_true rfl, fx_nx, rfl⟩ rfl h (fx_qi_k fun x4 S2 h => ?_) (fun _ _ h => h)
  refine fx_istore_n (n := 66) (L' := [(3, _), (0, _), (1, _), (2, _)]) dd_V_create_65 rfl (by decide) rfl rfl ?_
  refine fx_iload_n (n := 67) dd_V_create_66 rfl 0 rfl rfl ?_
  refine fx_iconst (n := 68) (v := (-1)) dd_V_create_67 (by decide) rfl ?_
  refine fx_icmp_ne (n := 71) (tg := 81) dd_V_create_68 rfl rfl (fun hc => ?_) (fun hc => ?_)
  · replace h := h.1 hc
    refine fx_aload_n (n := 82) dd_V_create_81 rfl 1 rfl rfl ?_
    obtain ⟨q5, h⟩ := h
    obtain ⟨r6, hr6, h⟩ := h
    refine fx_getP (n := 85) dd_V_create_82 fw_V_18 (by decide) rfl rfl q5.1 q5.2 hr6 ?_
    refine fx_iload_n (n := 86) dd_V_create_85 rfl 0 rfl rfl ?_
    obtain ⟨q7, h⟩ := h
    obtain ⟨q8, r9, hr9, h⟩ := h
    refine fx_aald (n := 87) dd_V_create_86 rfl q7.1 q7.2 q8 hr9 ?_
    refine fx_iload_n (n := 88) dd_V_create_87 rfl 3 rfl rfl ?_
    refine fx_if_eq (n := 91) (tg := 95) dd_V_create_88 rfl rfl (fun hc => ?_) (fun hc => ?_)
    · replace h := h.1 hc
      refine fx_iconst (n := 96) (v := 2) dd_V_create_95 (by decide) rfl ?_
      refine fx_sub (L' := [(0, _), (1, _), (3, _)]) [1, 2, 0] rfl ?_
      exact h
    · replace h := h.2 hc
      refine fx_iconst (n := 92) (v := 1) dd_V_create_91 (by decide) rfl ?_
      refine fx_goto (n := 96) dd_V_create_92 rfl ?_
      refine fx_sub (L' := [(0, _), (1, _), (3, _)]) [1, 2, 0] rfl ?_
      exact h
  · replace h := h.2 hc
    exact fx_throw (X := "java/lang/UnsupportedOperationException") (tx := "no record is free") (names := xw_names) rfl dd_V_create_71 dd_V_create_74 dd_V_create_75 dd_V_create_77 dd_V_create_80 xw_V_107 ⟨by decide, by decide⟩ ⟨wd_413, wd_15, wd_414⟩ ⟨wd_422, xs_105⟩ rfl (by decide) (Nat.le_of_ble_eq_true rfl) h.1 h.2
theorem bk_V_create_96 {G : fx_G} {S : fx_S} {Q : fx_R → fx_S → Prop} (v0 : Nat) (v1 : Int32) (v3 : Int32) (z0 : Int32) (z1 : Nat) (h : fx_is S z1 3 ∧ fx_Go G (1, 12) mm_H_become 0 [(0, fx_r G z1), (1, .int z0), (2, .int v1)] [] S (fx_qv (fun S1 => fx_is S1 v0 4 ∧ ∃ r4, fx_P S1 v0 1 = some r4 ∧ fx_is S1 r4 104 ∧ vp_in v3 (fx_ln S1 r4) ∧ ∃ r7, fx_P S1 r4 (v3.toNatClampNeg) = some r7 ∧ fx_is S1 r7 3 ∧ ∃ r9, fx_P S1 r7 5 = some r9 ∧ ∃ r10, fx_P S1 v0 5 = some r10 ∧ fx_is S1 r9 2 ∧ fx_Go G (1, 18) mm_N_copyFrom 0 [(0, fx_r G r9), (1, fx_r G r10)] [] S1 (fx_qv (fun S11 => fx_is S11 v0 4 ∧ fx_Go G (7, 96) mm_V_store 0 [(0, fx_r G v0), (1, .int v3)] [] S11 (fx_qv (fun S13 => fx_is S13 v0 4 ∧ fx_Go G (3, 45) mm_V_enter 0 [(0, fx_r G v0), (1, .int v1), (2, .int v3)] [] S13 (fx_qv (fun S15 => fx_is S15 v0 4 ∧ fx_Go G (7, 96) mm_V_store 0 [(0, fx_r G v0), (1, .int v1)] [] S15 (fx_qv (fun S17 => Q (.inl (some (.int v3))) S17) Q)) Q)) Q)) Q)) Q)) :
    fx_Go G (8, 109) mm_V_create 96 [(0, fx_r G v0), (1, .int v1), (3, .int v3)] [.int z0, fx_r G z1] S Q := by
  refine fx_iload_n (n := 97) dd_V_create_96 rfl 1 rfl rfl ?_
  obtain ⟨q2, h⟩ := h
  refine fx_callV (n := 100) (vs := [_, _]) dd_V_create_97 mw_H_become ⟨wd_116, wd_117, wd_118⟩ rfl (by decide) q2.1 q2.2 rfl rfl ⟨Nat.le_of_ble_eq_true rfl, Nat.le_of_ble_eq_true rfl, Nat.le_of_ble_eq_true rfl, fx_nx, rfl⟩ rfl h (fx_qv_k fun S1 h => ?_) (fun _ _ h => h)
  refine fx_aload_n (n := 101) dd_V_create_100 rfl 0 rfl rfl ?_
  obtain ⟨q3, h⟩ := h
  obtain ⟨r4, hr4, h⟩ := h
  refine fx_getP (n := 104) dd_V_create_101 fw_V_18 (by decide) rfl rfl q3.1 q3.2 hr4 ?_
  refine fx_iload_n (n := 105) dd_V_create_104 rfl 2 rfl rfl ?_
  obtain ⟨q5, h⟩ := h
  obtain ⟨q6, r7, hr7, h⟩ := h
  refine fx_aald (n := 106) dd_V_create_105 rfl q5.1 q5.2 q6 hr7 ?_
  obtain ⟨q8, h⟩ := h
  obtain ⟨r9, hr9, h⟩ := h
  refine fx_getP (n := 109) dd_V_create_106 fw_V_110 (by decide) rfl rfl q8.1 q8.2 hr9 ?_
  refine fx_aload_n (n := 110) dd_V_create_109 rfl 0 rfl rfl ?_
  obtain ⟨r10, hr10, h⟩ := h
  refine fx_getP (n := 113) dd_V_create_110 fw_V_34 (by decide) rfl rfl q3.1 q3.2 hr10 ?_
  obtain ⟨q12, h⟩ := h
  refine fx_callV (n := 116) (vs := [_]) dd_V_create_113 mw_N_copyFrom ⟨wd_313, wd_314, wd_315⟩ rfl (by decide) q12.1 q12.2 rfl rfl ⟨Nat.le_of_ble_eq_true rfl, Nat.le_of_ble_eq_true rfl, Nat.le_of_ble_eq_true rfl, fx_nx, rfl⟩ rfl h (fx_qv_k fun S11 h => ?_) (fun _ _ h => h)
  refine fx_aload_n (n := 117) dd_V_create_116 rfl 0 rfl rfl ?_
  refine fx_iload_n (n := 118) dd_V_create_117 rfl 2 rfl rfl ?_
  obtain ⟨q14, h⟩ := h
  refine fx_callV (n := 121) (vs := [_]) dd_V_create_118 mw_V_store ⟨wd_429, wd_431, wp_10⟩ rfl (by decide) q14.1 q14.2 rfl rfl ⟨Nat.le_of_ble_eq_true rfl, Nat.le_of_ble_eq_true rfl, Nat.le_of_ble_eq_true rfl, fx_nx, rfl⟩ rfl h (fx_qv_k fun S13 h => ?_) (fun _ _ h => h)
  refine fx_aload_n (n := 122) dd_V_create_121 rfl 0 rfl rfl ?_
  refine fx_iload_n (n := 123) dd_V_create_122 rfl 1 rfl rfl ?_
  refine fx_iload_n (n := 124) dd_V_create_123 rfl 2 rfl rfl ?_
  obtain ⟨q16, h⟩ := h
  refine fx_callV (n := 127) (vs := [_, _]) dd_V_create_124 mw_V_enter ⟨wd_442, wd_444, wp_12⟩ rfl (by decide) q16.1 q16.2 rfl rfl ⟨Nat.le_of_ble_eq_true rfl, Nat.le_of_ble_eq_true rfl, Nat.le_of_ble_eq_true rfl, fx_nx, rfl⟩ rfl h (fx_qv_k fun S15 h => ?_) (fun _ _ h => h)
  refine fx_aload_n (n := 128) dd_V_create_127 rfl 0 rfl rfl ?_
  refine fx_iload_n (n := 129) dd_V_create_128 rfl 1 rfl rfl ?_
  obtain ⟨q18, h⟩ := h
  refine fx_callV (n := 132) (vs := [_]) dd_V_create_129 mw_V_store ⟨wd_429, wd_431, wp_10⟩ rfl (by decide) q18.1 q18.2 rfl rfl ⟨Nat.le_of_ble_eq_true rfl, Nat.le_of_ble_eq_true rfl, Nat.le_of_ble_eq_true rfl, fx_nx, rfl⟩ rfl h (fx_qv_k fun S17 h => ?_) (fun _ _ h => h)
  refine fx_iload_n (n := 133) dd_V_create_132 rfl 2 rfl rfl ?_
  exact fx_iret dd_V_create_133 rfl h
theorem bk_V_write_0 {G : fx_G} {S : fx_S} {Q : fx_R → fx_S → Prop} (v0 : Nat) (v1 : Int32) (v2 : Int32) (v3 : Int32) (v4 : Int32) (h : fx_is S v0 4 ∧ fx_Go G (6, 82) mm_V_requireRunning 0 [(0, fx_r G v0)] [] S (fx_qv (fun S1 => fx_is S1 v0 4 ∧ fx_Go G (1, 13) mm_V_isFile 0 [(0, fx_r G v0), (1, .int v1)] [] S1 (fx_qi (fun x5 S3 => (x5 = 0 → fx_Go G (8, 109) mm_V_write 48 [(0, fx_r G v0), (1, .int v1), (2, .int v2), (3, .int v3), (4, .int v4)] [.int 0] S3 Q) ∧ (¬ x5 = 0 → (v2 < 0 → fx_Go G (8, 109) mm_V_write 48 [(0, fx_r G v0), (1, .int v1), (2, .int v2), (3, .int v3), (4, .int v4)] [.int 0] S3 Q) ∧ (¬ v2 < 0 → (1000 < v2 → fx_Go G (8, 109) mm_V_write 48 [(0, fx_r G v0), (1, .int v1), (2, .int v2), (3, .int v3), (4, .int v4)] [.int 0] S3 Q) ∧ (¬ 1000 < v2 → (v3 < 1 → fx_Go G (8, 109) mm_V_write 48 [(0, fx_r G v0), (1, .int v1), (2, .int v2), (3, .int v3), (4, .int v4)] [.int 0] S3 Q) ∧ (¬ v3 < 1 → (60 < v3 → fx_Go G (8, 109) mm_V_write 48 [(0, fx_r G v0), (1, .int v1), (2, .int v2), (3, .int v3), (4, .int v4)] [.int 0] S3 Q) ∧ (¬ 60 < v3 → (1000 < (v2 + v3) → fx_Go G (8, 109) mm_V_write 48 [(0, fx_r G v0), (1, .int v1), (2, .int v2), (3, .int v3), (4, .int v4)] [.int 0] S3 Q) ∧ (¬ 1000 < (v2 + v3) → fx_Go G (8, 109) mm_V_write 48 [(0, fx_r G v0), (1, .int v1), (2, .int v2), (3, .int v3), (4, .int v4)] [.int 1] S3 Q))))))) Q)) Q)) :
    fx_Go G (8, 109) mm_V_write 0 [(0, fx_r G v0), (1, .int v1), (2, .int v2), (3, .int v3), (4, .int v4)] [] S Q := by
  refine fx_aload_n (n := 1) dd_V_write_0 rfl 0 rfl rfl ?_
  obtain ⟨q2, h⟩ := h
  refine fx_callV (n := 4) (vs := []) dd_V_write_1 mw_V_requireRunning ⟨wd_318, wd_320, wp_7⟩ rfl (by decide) q2.1 q2.2 rfl rfl ⟨Nat.le_of_ble_eq_true rfl, Nat.le_of_ble_eq_true rfl, Nat.le_of_ble_eq_true rfl, fx_nx, rfl⟩ rfl h (fx_qv_k fun S1 h => ?_) (fun _ _ h => h)
  refine fx_aload_n (n := 5) dd_V_write_4 rfl 0 rfl rfl ?_
  refine fx_iload_n (n := 6) dd_V_write_5 rfl 1 rfl rfl ?_
  obtain ⟨q4, h⟩ := h
  refine fx_callV (n := 9) (vs := [_]) dd_V_write_6 mw_V_isFile ⟨wd_282, wd_284, wp_6⟩ rfl (by decide) q4.1 q4.2 rfl rfl ⟨Nat.le_of_ble_eq_true rfl, Nat.le_of_ble_eq_true rfl, Nat.le_of_ble_eq_true rfl, fx_nx, rfl⟩ rfl h (fx_qi_k fun x5 S3 h => ?_) (fun _ _ h => h)
  refine fx_if_eq (n := 12) (tg := 47) dd_V_write_9 rfl rfl (fun hc => ?_) (fun hc => ?_)
  · replace h := h.1 hc
    refine fx_iconst (n := 48) (v := 0) dd_V_write_47 (by decide) rfl ?_
    exact h
  · replace h := h.2 hc
    refine fx_iload_n (n := 13) dd_V_write_12 rfl 2 rfl rfl ?_
    refine fx_if_lt (n := 16) (tg := 47) dd_V_write_13 rfl rfl (fun hc => ?_) (fun hc => ?_)
    · replace h := h.1 hc
      refine fx_iconst (n := 48) (v := 0) dd_V_write_47 (by decide) rfl ?_
      exact h
    · replace h := h.2 hc
      refine fx_iload_n (n := 17) dd_V_write_16 rfl 2 rfl rfl ?_
      refine fx_sipush (n := 20) (v := 1000) dd_V_write_17 (by decide) rfl ?_
      refine fx_icmp_gt (n := 23) (tg := 47) dd_V_write_20 rfl rfl (fun hc => ?_) (fun hc => ?_)
      · replace h := h.1 hc
        refine fx_iconst (n := 48) (v := 0) dd_V_write_47 (by decide) rfl ?_
        exact h
      · replace h := h.2 hc
        refine fx_iload_n (n := 24) dd_V_write_23 rfl 3 rfl rfl ?_
        refine fx_iconst (n := 25) (v := 1) dd_V_write_24 (by decide) rfl ?_
        refine fx_icmp_lt (n := 28) (tg := 47) dd_V_write_25 rfl rfl (fun hc => ?_) (fun hc => ?_)
        · replace h := h.1 hc
          refine fx_iconst (n := 48) (v := 0) dd_V_write_47 (by decide) rfl ?_
          exact h
        · replace h := h.2 hc
          refine fx_iload_n (n := 29) dd_V_write_28 rfl 3 rfl rfl ?_
          refine fx_bipush (n := 31) (v := 60) dd_V_write_29 (by decide) rfl ?_
          refine fx_icmp_gt (n := 34) (tg := 47) dd_V_write_31 rfl rfl (fun hc => ?_) (fun hc => ?_)
          · replace h := h.1 hc
            refine fx_iconst (n := 48) (v := 0) dd_V_write_47 (by decide) rfl ?_
            exact h
          · replace h := h.2 hc
            refine fx_iload_n (n := 35) dd_V_write_34 rfl 2 rfl rfl ?_
            refine fx_iload_n (n := 36) dd_V_write_35 rfl 3 rfl rfl ?_
            refine fx_iadd (n := 37) dd_V_write_36 rfl ?_
            refine fx_sipush (n := 40) (v := 1000) dd_V_write_37 (by decide) rfl ?_
            refine fx_icmp_gt (n := 43) (tg := 47) dd_V_write_40 rfl rfl (fun hc => ?_) (fun hc => ?_)
            · replace h := h.1 hc
              refine fx_iconst (n := 48) (v := 0) dd_V_write_47 (by decide) rfl ?_
              exact h
            · replace h := h.2 hc
              refine fx_iconst (n := 44) (v := 1) dd_V_write_43 (by decide) rfl ?_
              refine fx_goto (n := 48) dd_V_write_44 rfl ?_
              exact h
theorem bk_V_write_48 {G : fx_G} {S : fx_S} {Q : fx_R → fx_S → Prop} (v0 : Nat) (v1 : Int32) (v2 : Int32) (v3 : Int32) (v4 : Int32) (z0 : Int32) (h : fx_Go G (6, 82) mm_V_require 0 [(0, .int z0)] [] S (fx_qv (fun S1 => fx_is S1 v0 4 ∧ ∃ r3, fx_P S1 v0 1 = some r3 ∧ fx_is S1 r3 104 ∧ vp_in v1 (fx_ln S1 r3) ∧ ∃ r6, fx_P S1 r3 (v1.toNatClampNeg) = some r6 ∧ fx_is S1 r6 3 ∧ (¬ (fx_I S1 r6 3) = 2 → fx_Go G (8, 109) mm_V_write 105 [(0, fx_r G v0), (1, .int v1), (2, .int v2), (3, .int v3), (4, .int v4), (5, fx_r G r6), (6, .int (if (fx_I S1 r6 4) < (v2 + v3) then (v2 + v3) else (fx_I S1 r6 4)))] [] S1 Q) ∧ ((fx_I S1 r6 3) = 2 → fx_Go G (1, 13) mm_H_mostInside 0 [(0, fx_r G r6)] [] S1 (fx_qi (fun x9 S8 => (x9 < (if (fx_I S1 r6 4) < (v2 + v3) then (v2 + v3) else (fx_I S1 r6 4)) → fx_Go G (8, 109) mm_V_write 105 [(0, fx_r G v0), (1, .int v1), (2, .int v2), (3, .int v3), (4, .int v4), (5, fx_r G r6), (6, .int (if (fx_I S1 r6 4) < (v2 + v3) then (v2 + v3) else (fx_I S1 r6 4)))] [] S8 Q) ∧ (¬ x9 < (if (fx_I S1 r6 4) < (v2 + v3) then (v2 + v3) else (fx_I S1 r6 4)) → fx_is S8 r6 3 ∧ fx_Go G (0, 0) mm_H_putInside 0 [(0, fx_r G r6), (1, .int v2), (2, .int v3), (3, .int v4), (4, .int (if (fx_I S1 r6 4) < (v2 + v3) then (v2 + v3) else (fx_I S1 r6 4)))] [] S8 (fx_qv (fun S10 => fx_is S10 v0 4 ∧ fx_Go G (7, 96) mm_V_store 0 [(0, fx_r G v0), (1, .int v1)] [] S10 (fx_qv (fun S12 => Q (.inl (some (.int (if (fx_I S1 r6 4) < (v2 + v3) then (v2 + v3) else (fx_I S1 r6 4))))) S12) Q)) Q))) Q))) Q)) :
    fx_Go G (8, 109) mm_V_write 48 [(0, fx_r G v0), (1, .int v1), (2, .int v2), (3, .int v3), (4, .int v4)] [.int z0] S Q := by
  refine fx_callS (n := 51) (vs := [_]) dd_V_write_48 mw_V_require ⟨wd_390, wd_391, wd_1⟩ rfl rfl ⟨Nat.le_of_ble_eq_true rfl, Nat.le_of_ble_eq_true rfl, Nat.le_of_ble_eq_true rfl, fx_nx, rfl⟩ rfl h (fx_qv_k fun S1 h => ?_) (fun _ _ h => h)
  refine fx_aload_n (n := 52) dd_V_write_51 rfl 0 rfl rfl ?_
  obtain ⟨q2, h⟩ := h
  obtain ⟨r3, hr3, h⟩ := h
  refine fx_getP (n := 55) dd_V_write_52 fw_V_18 (by decide) rfl rfl q2.1 q2.2 hr3 ?_
  refine fx_iload_n (n := 56) dd_V_write_55 rfl 1 rfl rfl ?_
  obtain ⟨q4, h⟩ := h
  obtain ⟨q5, r6, hr6, h⟩ := h
  refine fx_aald (n := 57) dd_V_write_56 rfl q4.1 q4.2 q5 hr6 ?_
  refine fx_astore (n := 59) (L' := [(5, _), (0, _), (1, _), (2, _), (3, _), (4, _)]) dd_V_write_57 (by decide) rfl rfl ?_
  refine fx_aload (n := 61) dd_V_write_59 0 rfl rfl ?_
  obtain ⟨q7, h⟩ := h
  refine fx_getI (n := 64) dd_V_write_61 fw_V_123 (by decide) rfl rfl q7.1 q7.2 ?_
  refine fx_iload_n (n := 65) dd_V_write_64 rfl 3 rfl rfl ?_
  refine fx_iload_n (n := 66) dd_V_write_65 rfl 4 rfl rfl ?_
  refine fx_iadd (n := 67) dd_V_write_66 rfl ?_
  refine fx_mmax (n := 70) dd_V_write_67 ⟨wd_457, wd_458, wd_13, wd_459⟩ rfl ⟨by decide, Nat.le_of_ble_eq_true rfl⟩ ?_
  refine fx_istore (n := 72) (L' := [(6, _), (5, _), (0, _), (1, _), (2, _), (3, _), (4, _)]) dd_V_write_70 (by decide) rfl rfl ?_
  refine fx_aload (n := 74) dd_V_write_72 1 rfl rfl ?_
  refine fx_getI (n := 77) dd_V_write_74 fw_V_132 (by decide) rfl rfl q7.1 q7.2 ?_
  refine fx_iconst (n := 78) (v := 2) dd_V_write_77 (by decide) rfl ?_
  refine fx_icmp_ne (n := 81) (tg := 105) dd_V_write_78 rfl rfl (fun hc => ?_) (fun hc => ?_)
  · replace h := h.1 hc
    refine fx_sub (L' := [(0, _), (1, _), (2, _), (3, _), (4, _), (5, _), (6, _)]) [2, 3, 4, 5, 6, 1, 0] rfl ?_
    exact h
  · replace h := h.2 hc
    refine fx_iload (n := 83) dd_V_write_81 0 rfl rfl ?_
    refine fx_aload (n := 85) dd_V_write_83 1 rfl rfl ?_
    refine fx_callV (n := 88) (vs := []) dd_V_write_85 mw_H_mostInside ⟨wd_460, wd_461, wd_462⟩ rfl (by decide) q7.1 q7.2 rfl rfl ⟨Nat.le_of_ble_eq_true rfl, Nat.le_of_ble_eq_true rfl, Nat.le_of_ble_eq_true rfl, fx_nx, rfl⟩ rfl h (fx_qi_k fun x9 S8 h => ?_) (fun _ _ h => h)
    refine fx_icmp_gt (n := 91) (tg := 105) dd_V_write_88 rfl rfl (fun hc => ?_) (fun hc => ?_)
    · replace h := h.1 hc
      refine fx_sub (L' := [(0, _), (1, _), (2, _), (3, _), (4, _), (5, _), (6, _)]) [2, 3, 4, 5, 6, 1, 0] rfl ?_
      exact h
    · replace h := h.2 hc
      refine fx_aload (n := 93) dd_V_write_91 1 rfl rfl ?_
      refine fx_iload_n (n := 94) dd_V_write_93 rfl 4 rfl rfl ?_
      refine fx_iload_n (n := 95) dd_V_write_94 rfl 5 rfl rfl ?_
      refine fx_iload (n := 97) dd_V_write_95 6 rfl rfl ?_
      refine fx_iload (n := 99) dd_V_write_97 0 rfl rfl ?_
      obtain ⟨q11, h⟩ := h
      refine fx_callV (n := 102) (vs := [_, _, _, _]) dd_V_write_99 mw_H_putInside ⟨wd_464, wd_465, wd_466⟩ rfl (by decide) q11.1 q11.2 rfl rfl ⟨Nat.le_of_ble_eq_true rfl, Nat.le_of_ble_eq_true rfl, Nat.le_of_ble_eq_true rfl, fx_nx, rfl⟩ rfl h (fx_qv_k fun S10 h => ?_) (fun _ _ h => h)
      refine fx_goto (n := 140) dd_V_write_102 rfl ?_
      refine fx_aload_n (n := 141) dd_V_write_140 rfl 2 rfl rfl ?_
      refine fx_iload_n (n := 142) dd_V_write_141 rfl 3 rfl rfl ?_
      obtain ⟨q13, h⟩ := h
      refine fx_callV (n := 145) (vs := [_]) dd_V_write_142 mw_V_store ⟨wd_429, wd_431, wp_10⟩ rfl (by decide) q13.1 q13.2 rfl rfl ⟨Nat.le_of_ble_eq_true rfl, Nat.le_of_ble_eq_true rfl, Nat.le_of_ble_eq_true rfl, fx_nx, rfl⟩ rfl h (fx_qv_k fun S12 h => ?_) (fun _ _ h => h)
      refine fx_iload (n := 147) dd_V_write_145 0 rfl rfl ?_
      exact fx_iret dd_V_write_147 rfl h
theorem bk_V_write_105 {G : fx_G} {S : fx_S} {Q : fx_R → fx_S → Prop} (v0 : Nat) (v1 : Int32) (v2 : Int32) (v3 : Int32) (v4 : Int32) (v5 : Nat) (v6 : Int32) (h : fx_is S v0 4 ∧ fx_Go G (2, 29) mm_V_makePlan 0 [(0, fx_r G v0), (1, fx_r G v5), (2, .int v2), (3, .int v3), (4, .int v6)] [] S (fx_qi (fun x3 S1 => (¬ x3 = 0 → fx_is S1 v0 4 ∧ fx_Go G (4, 59) mm_V_putOutside 0 [(0, fx_r G v0), (1, fx_r G v5), (2, .int v2), (3, .int v3), (4, .int v4), (5, .int v6)] [] S1 (fx_qv (fun S4 => fx_is S4 v0 4 ∧ fx_Go G (7, 96) mm_V_store 0 [(0, fx_r G v0), (1, .int v1)] [] S4 (fx_qv (fun S6 => Q (.inl (some (.int v6))) S6) Q)) Q)) ∧ (x3 = 0 → fx_roomx S1 ∧ Q (.inr 3) (fx_exc S1))) Q)) :
    fx_Go G (8, 109) mm_V_write 105 [(0, fx_r G v0), (1, .int v1), (2, .int v2), (3, .int v3), (4, .int v4), (5, fx_r G v5), (6, .int v6)] [] S Q := by
  refine fx_aload_n (n := 106) dd_V_write_105 rfl 0 rfl rfl ?_
  refine fx_aload (n := 108) dd_V_write_106 5 rfl rfl ?_
  refine fx_iload_n (n := 109) dd_V_write_108 rfl 2 rfl rfl ?_
  refine fx_iload_n (n := 110) dd_V_write_109 rfl 3 rfl rfl ?_
  refine fx_iload (n := 112) dd_V_write_110 6 rfl rfl ?_
  obtain ⟨q2, h⟩ := h
  refine fx_callV (n := 115) (vs := [_, _, _, _]) dd_V_write_112 mw_V_makePlan ⟨wd_468, wd_470, wp_14⟩ rfl (by decide) q2.1 q2.2 rfl rfl ⟨Nat.le_of_ble_eq_true rfl, Nat.le_of_ble_eq_true rfl, Nat.le_of_ble_eq_true rfl, fx_nx, rfl⟩ rfl h (fx_qi_k fun x3 S1 h => ?_) (fun _ _ h => h)
  refine fx_if_ne (n := 118) (tg := 128) dd_V_write_115 rfl rfl (fun hc => ?_) (fun hc => ?_)
  · replace h := h.1 hc
    refine fx_aload_n (n := 129) dd_V_write_128 rfl 0 rfl rfl ?_
    refine fx_aload (n := 131) dd_V_write_129 5 rfl rfl ?_
    refine fx_iload_n (n := 132) dd_V_write_131 rfl 2 rfl rfl ?_
    refine fx_iload_n (n := 133) dd_V_write_132 rfl 3 rfl rfl ?_
    refine fx_iload (n := 135) dd_V_write_133 4 rfl rfl ?_
    refine fx_iload (n := 137) dd_V_write_135 6 rfl rfl ?_
    obtain ⟨q5, h⟩ := h
    refine fx_callV (n := 140) (vs := [_, _, _, _, _]) dd_V_write_137 mw_V_putOutside ⟨wd_489, wd_491, wp_16⟩ rfl (by decide) q5.1 q5.2 rfl rfl ⟨Nat.le_of_ble_eq_true rfl, Nat.le_of_ble_eq_true rfl, Nat.le_of_ble_eq_true rfl, fx_nx, rfl⟩ rfl h (fx_qv_k fun S4 h => ?_) (fun _ _ h => h)
    refine fx_aload_n (n := 141) dd_V_write_140 rfl 0 rfl rfl ?_
    refine fx_iload_n (n := 142) dd_V_write_141 rfl 1 rfl rfl ?_
    obtain ⟨q7, h⟩ := h
    refine fx_callV (n := 145) (vs := [_]) dd_V_write_142 mw_V_store ⟨wd_429, wd_431, wp_10⟩ rfl (by decide) q7.1 q7.2 rfl rfl ⟨Nat.le_of_ble_eq_true rfl, Nat.le_of_ble_eq_true rfl, Nat.le_of_ble_eq_true rfl, fx_nx, rfl⟩ rfl h (fx_qv_k fun S6 h => ?_) (fun _ _ h => h)
    refine fx_iload (n := 147) dd_V_write_145 6 rfl rfl ?_
    exact fx_iret dd_V_write_147 rfl h
  · replace h := h.2 hc
    exact fx_throw (X := "java/lang/UnsupportedOperationException") (tx := "too few clusters, or too many runs") (names := xw_names) rfl dd_V_write_118 dd_V_write_121 dd_V_write_122 dd_V_write_124 dd_V_write_127 xw_V_107 ⟨by decide, by decide⟩ ⟨wd_413, wd_15, wd_414⟩ ⟨wd_488, xs_146⟩ rfl (by decide) (Nat.le_of_ble_eq_true rfl) h.1 h.2
theorem bk_V_cut_0 {G : fx_G} {S : fx_S} {Q : fx_R → fx_S → Prop} (v0 : Nat) (v1 : Int32) (v2 : Int32) (h : fx_is S v0 4 ∧ fx_Go G (6, 82) mm_V_requireRunning 0 [(0, fx_r G v0)] [] S (fx_qv (fun S1 => fx_is S1 v0 4 ∧ fx_Go G (1, 13) mm_V_isFile 0 [(0, fx_r G v0), (1, .int v1)] [] S1 (fx_qi (fun x5 S3 => (x5 = 0 → fx_Go G (8, 109) mm_V_cut 34 [(0, fx_r G v0), (1, .int v1), (2, .int v2)] [.int 0] S3 Q) ∧ (¬ x5 = 0 → (v2 < 0 → fx_Go G (8, 109) mm_V_cut 34 [(0, fx_r G v0), (1, .int v1), (2, .int v2)] [.int 0] S3 Q) ∧ (¬ v2 < 0 → fx_is S3 v0 4 ∧ ∃ r7, fx_P S3 v0 1 = some r7 ∧ fx_is S3 r7 104 ∧ vp_in v1 (fx_ln S3 r7) ∧ ∃ r10, fx_P S3 r7 (v1.toNatClampNeg) = some r10 ∧ fx_is S3 r10 3 ∧ ((fx_I S3 r10 4) < v2 → fx_Go G (8, 109) mm_V_cut 34 [(0, fx_r G v0), (1, .int v1), (2, .int v2)] [.int 0] S3 Q) ∧ (¬ (fx_I S3 r10 4) < v2 → fx_Go G (8, 109) mm_V_cut 34 [(0, fx_r G v0), (1, .int v1), (2, .int v2)] [.int 1] S3 Q)))) Q)) Q)) :
    fx_Go G (8, 109) mm_V_cut 0 [(0, fx_r G v0), (1, .int v1), (2, .int v2)] [] S Q := by
  refine fx_aload_n (n := 1) dd_V_cut_0 rfl 0 rfl rfl ?_
  obtain ⟨q2, h⟩ := h
  refine fx_callV (n := 4) (vs := []) dd_V_cut_1 mw_V_requireRunning ⟨wd_318, wd_320, wp_7⟩ rfl (by decide) q2.1 q2.2 rfl rfl ⟨Nat.le_of_ble_eq_true rfl, Nat.le_of_ble_eq_true rfl, Nat.le_of_ble_eq_true rfl, fx_nx, rfl⟩ rfl h (fx_qv_k fun S1 h => ?_) (fun _ _ h => h)
  refine fx_aload_n (n := 5) dd_V_cut_4 rfl 0 rfl rfl ?_
  refine fx_iload_n (n := 6) dd_V_cut_5 rfl 1 rfl rfl ?_
  obtain ⟨q4, h⟩ := h
  refine fx_callV (n := 9) (vs := [_]) dd_V_cut_6 mw_V_isFile ⟨wd_282, wd_284, wp_6⟩ rfl (by decide) q4.1 q4.2 rfl rfl ⟨Nat.le_of_ble_eq_true rfl, Nat.le_of_ble_eq_true rfl, Nat.le_of_ble_eq_true rfl, fx_nx, rfl⟩ rfl h (fx_qi_k fun x5 S3 h => ?_) (fun _ _ h => h)
  refine fx_if_eq (n := 12) (tg := 33) dd_V_cut_9 rfl rfl (fun hc => ?_) (fun hc => ?_)
  · replace h := h.1 hc
    refine fx_iconst (n := 34) (v := 0) dd_V_cut_33 (by decide) rfl ?_
    exact h
  · replace h := h.2 hc
    refine fx_iload_n (n := 13) dd_V_cut_12 rfl 2 rfl rfl ?_
    refine fx_if_lt (n := 16) (tg := 33) dd_V_cut_13 rfl rfl (fun hc => ?_) (fun hc => ?_)
    · replace h := h.1 hc
      refine fx_iconst (n := 34) (v := 0) dd_V_cut_33 (by decide) rfl ?_
      exact h
    · replace h := h.2 hc
      refine fx_iload_n (n := 17) dd_V_cut_16 rfl 2 rfl rfl ?_
      refine fx_aload_n (n := 18) dd_V_cut_17 rfl 0 rfl rfl ?_
      obtain ⟨q6, h⟩ := h
      obtain ⟨r7, hr7, h⟩ := h
      refine fx_getP (n := 21) dd_V_cut_18 fw_V_18 (by decide) rfl rfl q6.1 q6.2 hr7 ?_
      refine fx_iload_n (n := 22) dd_V_cut_21 rfl 1 rfl rfl ?_
      obtain ⟨q8, h⟩ := h
      obtain ⟨q9, r10, hr10, h⟩ := h
      refine fx_aald (n := 23) dd_V_cut_22 rfl q8.1 q8.2 q9 hr10 ?_
      obtain ⟨q11, h⟩ := h
      refine fx_getI (n := 26) dd_V_cut_23 fw_V_123 (by decide) rfl rfl q11.1 q11.2 ?_
      refine fx_icmp_gt (n := 29) (tg := 33) dd_V_cut_26 rfl rfl (fun hc => ?_) (fun hc => ?_)
      · replace h := h.1 hc
        refine fx_iconst (n := 34) (v := 0) dd_V_cut_33 (by decide) rfl ?_
        exact h
      · replace h := h.2 hc
        refine fx_iconst (n := 30) (v := 1) dd_V_cut_29 (by decide) rfl ?_
        refine fx_goto (n := 34) dd_V_cut_30 rfl ?_
        exact h
theorem bk_V_cut_34 {G : fx_G} {S : fx_S} {Q : fx_R → fx_S → Prop} (v0 : Nat) (v1 : Int32) (v2 : Int32) (z0 : Int32) (h : fx_Go G (6, 82) mm_V_require 0 [(0, .int z0)] [] S (fx_qv (fun S1 => fx_is S1 v0 4 ∧ ∃ r3, fx_P S1 v0 1 = some r3 ∧ fx_is S1 r3 104 ∧ vp_in v1 (fx_ln S1 r3) ∧ ∃ r6, fx_P S1 r3 (v1.toNatClampNeg) = some r6 ∧ fx_is S1 r6 3 ∧ ∀ S8, S8 = fx_setI S1 r6 4 v2 → (¬ (fx_I S8 r6 3) = 3 → fx_Go G (7, 96) mm_V_store 0 [(0, fx_r G v0), (1, .int v1)] [] S8 (fx_qv (fun S9 => Q (.inl (some (.int (fx_I S1 r6 4)))) S9) Q)) ∧ ((fx_I S8 r6 3) = 3 → ∃ r10, fx_P S8 r6 7 = some r10 ∧ fx_Go G (0, 0) mm_V_clustersFor 0 [(0, .int v2)] [] S8 (fx_qi (fun x12 S11 => fx_is S11 v0 4 ∧ fx_Go G (1, 14) mm_V_releaseFrom 0 [(0, fx_r G v0), (1, fx_r G r10), (2, .int x12)] [] S11 (fx_qi (fun x15 S13 => fx_is S13 v0 4 ∧ ∃ r17, fx_P S13 v0 0 = some r17 ∧ fx_is S13 r6 3 ∧ ∃ r19, fx_P S13 r6 7 = some r19 ∧ fx_Go G (1, 12) mm_V_endOfLastCluster 0 [(0, .int v2)] [] S13 (fx_qi (fun x21 S20 => fx_is S20 r17 0 ∧ fx_Go G (2, 29) mm_D_clearFile 0 [(0, fx_r G r17), (1, fx_r G r19), (2, .int v2), (3, .int x21)] [] S20 (fx_qv (fun S22 => (¬ v2 = 0 → fx_is S22 v0 4 ∧ fx_Go G (7, 96) mm_V_store 0 [(0, fx_r G v0), (1, .int v1)] [] S22 (fx_qv (fun S24 => Q (.inl (some (.int (fx_I S1 r6 4)))) S24) Q)) ∧ (v2 = 0 → fx_is S22 r6 3 ∧ ∀ S27, S27 = fx_setI S22 r6 3 2 → fx_is S27 v0 4 ∧ fx_Go G (7, 96) mm_V_store 0 [(0, fx_r G v0), (1, .int v1)] [] S27 (fx_qv (fun S28 => Q (.inl (some (.int (fx_I S1 r6 4)))) S28) Q))) Q)) Q)) Q)) Q))) Q)) :
    fx_Go G (8, 109) mm_V_cut 34 [(0, fx_r G v0), (1, .int v1), (2, .int v2)] [.int z0] S Q := by
  refine fx_callS (n := 37) (vs := [_]) dd_V_cut_34 mw_V_require ⟨wd_390, wd_391, wd_1⟩ rfl rfl ⟨Nat.le_of_ble_eq_true rfl, Nat.le_of_ble_eq_true rfl, Nat.le_of_ble_eq_true rfl, fx_nx, rfl⟩ rfl h (fx_qv_k fun S1 h => ?_) (fun _ _ h => h)
  refine fx_aload_n (n := 38) dd_V_cut_37 rfl 0 rfl rfl ?_
  obtain ⟨q2, h⟩ := h
  obtain ⟨r3, hr3, h⟩ := h
  refine fx_getP (n := 41) dd_V_cut_38 fw_V_18 (by decide) rfl rfl q2.1 q2.2 hr3 ?_
  refine fx_iload_n (n := 42) dd_V_cut_41 rfl 1 rfl rfl ?_
  obtain ⟨q4, h⟩ := h
  obtain ⟨q5, r6, hr6, h⟩ := h
  refine fx_aald (n := 43) dd_V_cut_42 rfl q4.1 q4.2 q5 hr6 ?_
  refine fx_astore_n (n := 44) (L' := [(3, _), (0, _), (1, _), (2, _)]) dd_V_cut_43 rfl (by decide) rfl rfl ?_
  refine fx_aload_n (n := 45) dd_V_cut_44 rfl 0 rfl rfl ?_
  obtain ⟨q7, h⟩ := h
  refine fx_getI (n := 48) dd_V_cut_45 fw_V_123 (by decide) rfl rfl q7.1 q7.2 ?_
  refine fx_istore (n := 50) (L' := [(4, _), (3, _), (0, _), (1, _), (2, _)]) dd_V_cut_48 (by decide) rfl rfl ?_
  refine fx_aload_n (n := 51) dd_V_cut_50 rfl 1 rfl rfl ?_
  refine fx_iload_n (n := 52) dd_V_cut_51 rfl 4 rfl rfl ?_
  replace h := h _ rfl
  refine fx_putI (n := 55) dd_V_cut_52 fw_V_123 (by decide) rfl rfl rfl rfl q7.1 q7.2 ?_
  refine fx_aload_n (n := 56) dd_V_cut_55 rfl 1 rfl rfl ?_
  refine fx_getI (n := 59) dd_V_cut_56 fw_V_132 (by decide) rfl rfl q7.1 q7.2 ?_
  refine fx_iconst (n := 60) (v := 3) dd_V_cut_59 (by decide) rfl ?_
  refine fx_icmp_ne (n := 63) (tg := 101) dd_V_cut_60 rfl rfl (fun hc => ?_) (fun hc => ?_)
  · replace h := h.1 hc
    refine fx_aload_n (n := 102) dd_V_cut_101 rfl 2 rfl rfl ?_
    refine fx_iload_n (n := 103) dd_V_cut_102 rfl 3 rfl rfl ?_
    refine fx_callV (n := 106) (vs := [_]) dd_V_cut_103 mw_V_store ⟨wd_429, wd_431, wp_10⟩ rfl (by decide) q2.1 q2.2 rfl rfl ⟨Nat.le_of_ble_eq_true rfl, Nat.le_of_ble_eq_true rfl, Nat.le_of_ble_eq_true rfl, fx_nx, rfl⟩ rfl h (fx_qv_k fun S9 h => ?_) (fun _ _ h => h)
    refine fx_iload (n := 108) dd_V_cut_106 0 rfl rfl ?_
    exact fx_iret dd_V_cut_108 rfl h
  · replace h := h.2 hc
    refine fx_aload_n (n := 64) dd_V_cut_63 rfl 2 rfl rfl ?_
    refine fx_aload_n (n := 65) dd_V_cut_64 rfl 1 rfl rfl ?_
    obtain ⟨r10, hr10, h⟩ := h
    refine fx_getP (n := 68) dd_V_cut_65 fw_V_152 (by decide) rfl rfl q7.1 q7.2 hr10 ?_
    refine fx_iload_n (n := 69) dd_V_cut_68 rfl 4 rfl rfl ?_
    refine fx_callS (n := 72) (vs := [_]) dd_V_cut_69 mw_V_clustersFor ⟨wd_472, wd_473, wd_1⟩ rfl rfl ⟨Nat.le_of_ble_eq_true rfl, Nat.le_of_ble_eq_true rfl, Nat.le_of_ble_eq_true rfl, fx_nx, rfl⟩ rfl h (fx_qi_k fun x12 S11 h => ?_) (fun _ _ h => h)
    obtain ⟨q14, h⟩ := h
    refine fx_callV (n := 75) (vs := [_, _]) dd_V_cut_72 mw_V_releaseFrom ⟨wd_522, wd_524, wp_18⟩ rfl (by decide) q14.1 q14.2 rfl rfl ⟨Nat.le_of_ble_eq_true rfl, Nat.le_of_ble_eq_true rfl, Nat.le_of_ble_eq_true rfl, fx_nx, rfl⟩ rfl h (fx_qi_k fun x15 S13 h => ?_) (fun _ _ h => h)
    refine fx_pop (n := 76) dd_V_cut_75 rfl rfl ?_
    refine fx_aload_n (n := 77) dd_V_cut_76 rfl 2 rfl rfl ?_
    obtain ⟨q16, h⟩ := h
    obtain ⟨r17, hr17, h⟩ := h
    refine fx_getP (n := 80) dd_V_cut_77 fw_V_12 (by decide) rfl rfl q16.1 q16.2 hr17 ?_
    refine fx_aload_n (n := 81) dd_V_cut_80 rfl 1 rfl rfl ?_
    obtain ⟨q18, h⟩ := h
    obtain ⟨r19, hr19, h⟩ := h
    refine fx_getP (n := 84) dd_V_cut_81 fw_V_152 (by decide) rfl rfl q18.1 q18.2 hr19 ?_
    refine fx_iload_n (n := 85) dd_V_cut_84 rfl 4 rfl rfl ?_
    refine fx_iload_n (n := 86) dd_V_cut_85 rfl 4 rfl rfl ?_
    refine fx_callS (n := 89) (vs := [_]) dd_V_cut_86 mw_V_endOfLastCluster ⟨wd_507, wd_508, wd_1⟩ rfl rfl ⟨Nat.le_of_ble_eq_true rfl, Nat.le_of_ble_eq_true rfl, Nat.le_of_ble_eq_true rfl, fx_nx, rfl⟩ rfl h (fx_qi_k fun x21 S20 h => ?_) (fun _ _ h => h)
    obtain ⟨q23, h⟩ := h
    refine fx_callV (n := 92) (vs := [_, _, _]) dd_V_cut_89 mw_D_clearFile ⟨wd_498, wd_499, wd_500⟩ rfl (by decide) q23.1 q23.2 rfl rfl ⟨Nat.le_of_ble_eq_true rfl, Nat.le_of_ble_eq_true rfl, Nat.le_of_ble_eq_true rfl, fx_nx, rfl⟩ rfl h (fx_qv_k fun S22 h => ?_) (fun _ _ h => h)
    refine fx_iload_n (n := 93) dd_V_cut_92 rfl 4 rfl rfl ?_
    refine fx_if_ne (n := 96) (tg := 101) dd_V_cut_93 rfl rfl (fun hc => ?_) (fun hc => ?_)
    · replace h := h.1 hc
      refine fx_aload_n (n := 102) dd_V_cut_101 rfl 2 rfl rfl ?_
      refine fx_iload_n (n := 103) dd_V_cut_102 rfl 3 rfl rfl ?_
      obtain ⟨q25, h⟩ := h
      refine fx_callV (n := 106) (vs := [_]) dd_V_cut_103 mw_V_store ⟨wd_429, wd_431, wp_10⟩ rfl (by decide) q25.1 q25.2 rfl rfl ⟨Nat.le_of_ble_eq_true rfl, Nat.le_of_ble_eq_true rfl, Nat.le_of_ble_eq_true rfl, fx_nx, rfl⟩ rfl h (fx_qv_k fun S24 h => ?_) (fun _ _ h => h)
      refine fx_iload (n := 108) dd_V_cut_106 0 rfl rfl ?_
      exact fx_iret dd_V_cut_108 rfl h
    · replace h := h.2 hc
      refine fx_aload_n (n := 97) dd_V_cut_96 rfl 1 rfl rfl ?_
      refine fx_iconst (n := 98) (v := 2) dd_V_cut_97 (by decide) rfl ?_
      obtain ⟨q26, h⟩ := h
      replace h := h _ rfl
      refine fx_putI (n := 101) dd_V_cut_98 fw_V_132 (by decide) rfl rfl rfl rfl q26.1 q26.2 ?_
      refine fx_aload_n (n := 102) dd_V_cut_101 rfl 2 rfl rfl ?_
      refine fx_iload_n (n := 103) dd_V_cut_102 rfl 3 rfl rfl ?_
      obtain ⟨q29, h⟩ := h
      refine fx_callV (n := 106) (vs := [_]) dd_V_cut_103 mw_V_store ⟨wd_429, wd_431, wp_10⟩ rfl (by decide) q29.1 q29.2 rfl rfl ⟨Nat.le_of_ble_eq_true rfl, Nat.le_of_ble_eq_true rfl, Nat.le_of_ble_eq_true rfl, fx_nx, rfl⟩ rfl h (fx_qv_k fun S28 h => ?_) (fun _ _ h => h)
      refine fx_iload (n := 108) dd_V_cut_106 0 rfl rfl ?_
      exact fx_iret dd_V_cut_108 rfl h
theorem bk_V_remove_0 {G : fx_G} {S : fx_S} {Q : fx_R → fx_S → Prop} (v0 : Nat) (v1 : Int32) (h : fx_is S v0 4 ∧ fx_Go G (6, 82) mm_V_requireRunning 0 [(0, fx_r G v0)] [] S (fx_qv (fun S1 => fx_is S1 v0 4 ∧ fx_Go G (0, 0) mm_V_isUsed 0 [(0, fx_r G v0), (1, .int v1)] [] S1 (fx_qi (fun x5 S3 => (x5 = 0 → fx_Go G (8, 109) mm_V_remove 41 [(0, fx_r G v0), (1, .int v1)] [.int 0] S3 Q) ∧ (¬ x5 = 0 → (v1 = 0 → fx_Go G (8, 109) mm_V_remove 41 [(0, fx_r G v0), (1, .int v1)] [.int 0] S3 Q) ∧ (¬ v1 = 0 → fx_is S3 v0 4 ∧ fx_Go G (1, 13) mm_V_isDirectory 0 [(0, fx_r G v0), (1, .int v1)] [] S3 (fx_qi (fun x8 S6 => (x8 = 0 → fx_Go G (8, 109) mm_V_remove 41 [(0, fx_r G v0), (1, .int v1)] [.int 1] S6 Q) ∧ (¬ x8 = 0 → fx_is S6 v0 4 ∧ ∃ r10, fx_P S6 v0 1 = some r10 ∧ fx_is S6 r10 104 ∧ vp_in v1 (fx_ln S6 r10) ∧ ∃ r13, fx_P S6 r10 (v1.toNatClampNeg) = some r13 ∧ fx_is S6 r13 3 ∧ (0 < (fx_I S6 r13 4) → fx_Go G (8, 109) mm_V_remove 41 [(0, fx_r G v0), (1, .int v1)] [.int 0] S6 Q) ∧ (¬ 0 < (fx_I S6 r13 4) → fx_Go G (8, 109) mm_V_remove 41 [(0, fx_r G v0), (1, .int v1)] [.int 1] S6 Q))) Q)))) Q)) Q)) :
    fx_Go G (8, 109) mm_V_remove 0 [(0, fx_r G v0), (1, .int v1)] [] S Q := by
  refine fx_aload_n (n := 1) dd_V_remove_0 rfl 0 rfl rfl ?_
  obtain ⟨q2, h⟩ := h
  refine fx_callV (n := 4) (vs := []) dd_V_remove_1 mw_V_requireRunning ⟨wd_318, wd_320, wp_7⟩ rfl (by decide) q2.1 q2.2 rfl rfl ⟨Nat.le_of_ble_eq_true rfl, Nat.le_of_ble_eq_true rfl, Nat.le_of_ble_eq_true rfl, fx_nx, rfl⟩ rfl h (fx_qv_k fun S1 h => ?_) (fun _ _ h => h)
  refine fx_aload_n (n := 5) dd_V_remove_4 rfl 0 rfl rfl ?_
  refine fx_iload_n (n := 6) dd_V_remove_5 rfl 1 rfl rfl ?_
  obtain ⟨q4, h⟩ := h
  refine fx_callV (n := 9) (vs := [_]) dd_V_remove_6 mw_V_isUsed ⟨wd_223, wd_225, wp_4⟩ rfl (by decide) q4.1 q4.2 rfl rfl ⟨Nat.le_of_ble_eq_true rfl, Nat.le_of_ble_eq_true rfl, Nat.le_of_ble_eq_true rfl, fx_nx, rfl⟩ rfl h (fx_qi_k fun x5 S3 h => ?_) (fun _ _ h => h)
  refine fx_if_eq (n := 12) (tg := 40) dd_V_remove_9 rfl rfl (fun hc => ?_) (fun hc => ?_)
  · replace h := h.1 hc
    refine fx_iconst (n := 41) (v := 0) dd_V_remove_40 (by decide) rfl ?_
    exact h
  · replace h := h.2 hc
    refine fx_iload_n (n := 13) dd_V_remove_12 rfl 1 rfl rfl ?_
    refine fx_if_eq (n := 16) (tg := 40) dd_V_remove_13 rfl rfl (fun hc => ?_) (fun hc => ?_)
    · replace h := h.1 hc
      refine fx_iconst (n := 41) (v := 0) dd_V_remove_40 (by decide) rfl ?_
      exact h
    · replace h := h.2 hc
      refine fx_aload_n (n := 17) dd_V_remove_16 rfl 0 rfl rfl ?_
      refine fx_iload_n (n := 18) dd_V_remove_17 rfl 1 rfl rfl ?_
      obtain ⟨q7, h⟩ := h
      refine fx_callV (n := 21) (vs := [_]) dd_V_remove_18 mw_V_isDirectory ⟨wd_219, wd_221, wp_3⟩ rfl (by decide) q7.1 q7.2 rfl rfl ⟨Nat.le_of_ble_eq_true rfl, Nat.le_of_ble_eq_true rfl, Nat.le_of_ble_eq_true rfl, fx_nx, rfl⟩ rfl h (fx_qi_k fun x8 S6 h => ?_) (fun _ _ h => h)
      refine fx_if_eq (n := 24) (tg := 36) dd_V_remove_21 rfl rfl (fun hc => ?_) (fun hc => ?_)
      · replace h := h.1 hc
        refine fx_iconst (n := 37) (v := 1) dd_V_remove_36 (by decide) rfl ?_
        refine fx_goto (n := 41) dd_V_remove_37 rfl ?_
        exact h
      · replace h := h.2 hc
        refine fx_aload_n (n := 25) dd_V_remove_24 rfl 0 rfl rfl ?_
        obtain ⟨q9, h⟩ := h
        obtain ⟨r10, hr10, h⟩ := h
        refine fx_getP (n := 28) dd_V_remove_25 fw_V_18 (by decide) rfl rfl q9.1 q9.2 hr10 ?_
        refine fx_iload_n (n := 29) dd_V_remove_28 rfl 1 rfl rfl ?_
        obtain ⟨q11, h⟩ := h
        obtain ⟨q12, r13, hr13, h⟩ := h
        refine fx_aald (n := 30) dd_V_remove_29 rfl q11.1 q11.2 q12 hr13 ?_
        obtain ⟨q14, h⟩ := h
        refine fx_getI (n := 33) dd_V_remove_30 fw_V_123 (by decide) rfl rfl q14.1 q14.2 ?_
        refine fx_if_gt (n := 36) (tg := 40) dd_V_remove_33 rfl rfl (fun hc => ?_) (fun hc => ?_)
        · replace h := h.1 hc
          refine fx_iconst (n := 41) (v := 0) dd_V_remove_40 (by decide) rfl ?_
          exact h
        · replace h := h.2 hc
          refine fx_iconst (n := 37) (v := 1) dd_V_remove_36 (by decide) rfl ?_
          refine fx_goto (n := 41) dd_V_remove_37 rfl ?_
          exact h
theorem bk_V_remove_41 {G : fx_G} {S : fx_S} {Q : fx_R → fx_S → Prop} (v0 : Nat) (v1 : Int32) (z0 : Int32) (h : fx_Go G (6, 82) mm_V_require 0 [(0, .int z0)] [] S (fx_qv (fun S1 => fx_is S1 v0 4 ∧ ∃ r3, fx_P S1 v0 1 = some r3 ∧ fx_is S1 r3 104 ∧ vp_in v1 (fx_ln S1 r3) ∧ ∃ r6, fx_P S1 r3 (v1.toNatClampNeg) = some r6 ∧ fx_is S1 r6 3 ∧ fx_Go G (0, 0) mm_V_leave 0 [(0, fx_r G v0), (1, .int (fx_I S1 r6 1)), (2, .int v1)] [] S1 (fx_qv (fun S8 => fx_is S8 v0 4 ∧ fx_Go G (7, 96) mm_V_store 0 [(0, fx_r G v0), (1, .int (fx_I S1 r6 1))] [] S8 (fx_qv (fun S9 => fx_is S9 r6 3 ∧ ∃ r12, fx_P S9 r6 7 = some r12 ∧ fx_is S9 v0 4 ∧ fx_Go G (1, 14) mm_V_releaseFrom 0 [(0, fx_r G v0), (1, fx_r G r12), (2, .int 0)] [] S9 (fx_qi (fun x15 S13 => fx_is S13 r6 3 ∧ fx_Go G (1, 12) mm_H_become 0 [(0, fx_r G r6), (1, .int 0), (2, .int 0)] [] S13 (fx_qv (fun S16 => fx_is S16 v0 4 ∧ fx_Go G (7, 96) mm_V_store 0 [(0, fx_r G v0), (1, .int v1)] [] S16 (fx_qv (fun S18 => Q (.inl (some (.int x15))) S18) Q)) Q)) Q)) Q)) Q)) Q)) :
    fx_Go G (8, 109) mm_V_remove 41 [(0, fx_r G v0), (1, .int v1)] [.int z0] S Q := by
  refine fx_callS (n := 44) (vs := [_]) dd_V_remove_41 mw_V_require ⟨wd_390, wd_391, wd_1⟩ rfl rfl ⟨Nat.le_of_ble_eq_true rfl, Nat.le_of_ble_eq_true rfl, Nat.le_of_ble_eq_true rfl, fx_nx, rfl⟩ rfl h (fx_qv_k fun S1 h => ?_) (fun _ _ h => h)
  refine fx_aload_n (n := 45) dd_V_remove_44 rfl 0 rfl rfl ?_
  obtain ⟨q2, h⟩ := h
  obtain ⟨r3, hr3, h⟩ := h
  refine fx_getP (n := 48) dd_V_remove_45 fw_V_18 (by decide) rfl rfl q2.1 q2.2 hr3 ?_
  refine fx_iload_n (n := 49) dd_V_remove_48 rfl 1 rfl rfl ?_
  obtain ⟨q4, h⟩ := h
  obtain ⟨q5, r6, hr6, h⟩ := h
  refine fx_aald (n := 50) dd_V_remove_49 rfl q4.1 q4.2 q5 hr6 ?_
  refine fx_astore_n (n := 51) (L' := [(2, _), (0, _), (1, _)]) dd_V_remove_50 rfl (by decide) rfl rfl ?_
  refine fx_aload_n (n := 52) dd_V_remove_51 rfl 0 rfl rfl ?_
  obtain ⟨q7, h⟩ := h
  refine fx_getI (n := 55) dd_V_remove_52 fw_V_173 (by decide) rfl rfl q7.1 q7.2 ?_
  refine fx_istore_n (n := 56) (L' := [(3, _), (2, _), (0, _), (1, _)]) dd_V_remove_55 rfl (by decide) rfl rfl ?_
  refine fx_aload_n (n := 57) dd_V_remove_56 rfl 2 rfl rfl ?_
  refine fx_iload_n (n := 58) dd_V_remove_57 rfl 0 rfl rfl ?_
  refine fx_iload_n (n := 59) dd_V_remove_58 rfl 3 rfl rfl ?_
  refine fx_callV (n := 62) (vs := [_, _]) dd_V_remove_59 mw_V_leave ⟨wd_534, wd_536, wp_19⟩ rfl (by decide) q2.1 q2.2 rfl rfl ⟨Nat.le_of_ble_eq_true rfl, Nat.le_of_ble_eq_true rfl, Nat.le_of_ble_eq_true rfl, fx_nx, rfl⟩ rfl h (fx_qv_k fun S8 h => ?_) (fun _ _ h => h)
  refine fx_aload_n (n := 63) dd_V_remove_62 rfl 2 rfl rfl ?_
  refine fx_iload_n (n := 64) dd_V_remove_63 rfl 0 rfl rfl ?_
  obtain ⟨q10, h⟩ := h
  refine fx_callV (n := 67) (vs := [_]) dd_V_remove_64 mw_V_store ⟨wd_429, wd_431, wp_10⟩ rfl (by decide) q10.1 q10.2 rfl rfl ⟨Nat.le_of_ble_eq_true rfl, Nat.le_of_ble_eq_true rfl, Nat.le_of_ble_eq_true rfl, fx_nx, rfl⟩ rfl h (fx_qv_k fun S9 h => ?_) (fun _ _ h => h)
  refine fx_aload_n (n := 68) dd_V_remove_67 rfl 2 rfl rfl ?_
  refine fx_aload_n (n := 69) dd_V_remove_68 rfl 1 rfl rfl ?_
  obtain ⟨q11, h⟩ := h
  obtain ⟨r12, hr12, h⟩ := h
  refine fx_getP (n := 72) dd_V_remove_69 fw_V_152 (by decide) rfl rfl q11.1 q11.2 hr12 ?_
  refine fx_iconst (n := 73) (v := 0) dd_V_remove_72 (by decide) rfl ?_
  obtain ⟨q14, h⟩ := h
  refine fx_callV (n := 76) (vs := [_, _]) dd_V_remove_73 mw_V_releaseFrom ⟨wd_522, wd_524, wp_18⟩ rfl (by decide) q14.1 q14.2 rfl rfl ⟨Nat.le_of_ble_eq_true rfl, Nat.le_of_ble_eq_true rfl, Nat.le_of_ble_eq_true rfl, fx_nx, rfl⟩ rfl h (fx_qi_k fun x15 S13 h => ?_) (fun _ _ h => h)
  refine fx_istore (n := 78) (L' := [(4, _), (3, _), (2, _), (0, _), (1, _)]) dd_V_remove_76 (by decide) rfl rfl ?_
  refine fx_aload_n (n := 79) dd_V_remove_78 rfl 2 rfl rfl ?_
  refine fx_iconst (n := 80) (v := 0) dd_V_remove_79 (by decide) rfl ?_
  refine fx_iconst (n := 81) (v := 0) dd_V_remove_80 (by decide) rfl ?_
  obtain ⟨q17, h⟩ := h
  refine fx_callV (n := 84) (vs := [_, _]) dd_V_remove_81 mw_H_become ⟨wd_116, wd_117, wd_118⟩ rfl (by decide) q17.1 q17.2 rfl rfl ⟨Nat.le_of_ble_eq_true rfl, Nat.le_of_ble_eq_true rfl, Nat.le_of_ble_eq_true rfl, fx_nx, rfl⟩ rfl h (fx_qv_k fun S16 h => ?_) (fun _ _ h => h)
  refine fx_aload_n (n := 85) dd_V_remove_84 rfl 3 rfl rfl ?_
  refine fx_iload_n (n := 86) dd_V_remove_85 rfl 4 rfl rfl ?_
  obtain ⟨q19, h⟩ := h
  refine fx_callV (n := 89) (vs := [_]) dd_V_remove_86 mw_V_store ⟨wd_429, wd_431, wp_10⟩ rfl (by decide) q19.1 q19.2 rfl rfl ⟨Nat.le_of_ble_eq_true rfl, Nat.le_of_ble_eq_true rfl, Nat.le_of_ble_eq_true rfl, fx_nx, rfl⟩ rfl h (fx_qv_k fun S18 h => ?_) (fun _ _ h => h)
  refine fx_iload (n := 91) dd_V_remove_89 0 rfl rfl ?_
  exact fx_iret dd_V_remove_91 rfl h
theorem bk_V_move_0 {G : fx_G} {S : fx_S} {Q : fx_R → fx_S → Prop} (v0 : Nat) (v1 : Int32) (v2 : Int32) (h : fx_is S v0 4 ∧ fx_Go G (6, 82) mm_V_requireRunning 0 [(0, fx_r G v0)] [] S (fx_qv (fun S1 => fx_is S1 v0 4 ∧ fx_Go G (0, 0) mm_V_isUsed 0 [(0, fx_r G v0), (1, .int v1)] [] S1 (fx_qi (fun x5 S3 => (x5 = 0 → fx_Go G (8, 109) mm_V_move 56 [(0, fx_r G v0), (1, .int v1), (2, .int v2)] [.int 0] S3 Q) ∧ (¬ x5 = 0 → (v1 = 0 → fx_Go G (8, 109) mm_V_move 56 [(0, fx_r G v0), (1, .int v1), (2, .int v2)] [.int 0] S3 Q) ∧ (¬ v1 = 0 → fx_is S3 v0 4 ∧ fx_Go G (1, 13) mm_V_isDirectory 0 [(0, fx_r G v0), (1, .int v2)] [] S3 (fx_qi (fun x8 S6 => (x8 = 0 → fx_Go G (8, 109) mm_V_move 56 [(0, fx_r G v0), (1, .int v1), (2, .int v2)] [.int 0] S6 Q) ∧ (¬ x8 = 0 → fx_is S6 v0 4 ∧ fx_Go G (1, 13) mm_V_isAtOrBelow 0 [(0, fx_r G v0), (1, .int v2), (2, .int v1)] [] S6 (fx_qi (fun x11 S9 => (¬ x11 = 0 → fx_Go G (8, 109) mm_V_move 56 [(0, fx_r G v0), (1, .int v1), (2, .int v2)] [.int 0] S9 Q) ∧ (x11 = 0 → fx_is S9 v0 4 ∧ ∃ r13, fx_P S9 v0 1 = some r13 ∧ fx_is S9 r13 104 ∧ vp_in v1 (fx_ln S9 r13) ∧ ∃ r16, fx_P S9 r13 (v1.toNatClampNeg) = some r16 ∧ fx_is S9 r16 3 ∧ ∃ r18, fx_P S9 r16 5 = some r18 ∧ fx_Go G (2, 28) mm_V_entryNamed 0 [(0, fx_r G v0), (1, .int v2), (2, fx_r G r18)] [] S9 (fx_qi (fun x20 S19 => (¬ x20 = (-1) → fx_Go G (8, 109) mm_V_move 56 [(0, fx_r G v0), (1, .int v1), (2, .int v2)] [.int 0] S19 Q) ∧ (x20 = (-1) → fx_Go G (8, 109) mm_V_move 56 [(0, fx_r G v0), (1, .int v1), (2, .int v2)] [.int 1] S19 Q)) Q))) Q))) Q)))) Q)) Q)) :
    fx_Go G (8, 109) mm_V_move 0 [(0, fx_r G v0), (1, .int v1), (2, .int v2)] [] S Q := by
  refine fx_aload_n (n := 1) dd_V_move_0 rfl 0 rfl rfl ?_
  obtain ⟨q2, h⟩ := h
  refine fx_callV (n := 4) (vs := []) dd_V_move_1 mw_V_requireRunning ⟨wd_318, wd_320, wp_7⟩ rfl (by decide) q2.1 q2.2 rfl rfl ⟨Nat.le_of_ble_eq_true rfl, Nat.le_of_ble_eq_true rfl, Nat.le_of_ble_eq_true rfl, fx_nx, rfl⟩ rfl h (fx_qv_k fun S1 h => ?_) (fun _ _ h => h)
  refine fx_aload_n (n := 5) dd_V_move_4 rfl 0 rfl rfl ?_
  refine fx_iload_n (n := 6) dd_V_move_5 rfl 1 rfl rfl ?_
  obtain ⟨q4, h⟩ := h
  refine fx_callV (n := 9) (vs := [_]) dd_V_move_6 mw_V_isUsed ⟨wd_223, wd_225, wp_4⟩ rfl (by decide) q4.1 q4.2 rfl rfl ⟨Nat.le_of_ble_eq_true rfl, Nat.le_of_ble_eq_true rfl, Nat.le_of_ble_eq_true rfl, fx_nx, rfl⟩ rfl h (fx_qi_k fun x5 S3 h => ?_) (fun _ _ h => h)
  refine fx_if_eq (n := 12) (tg := 55) dd_V_move_9 rfl rfl (fun hc => ?_) (fun hc => ?_)
  · replace h := h.1 hc
    refine fx_iconst (n := 56) (v := 0) dd_V_move_55 (by decide) rfl ?_
    exact h
  · replace h := h.2 hc
    refine fx_iload_n (n := 13) dd_V_move_12 rfl 1 rfl rfl ?_
    refine fx_if_eq (n := 16) (tg := 55) dd_V_move_13 rfl rfl (fun hc => ?_) (fun hc => ?_)
    · replace h := h.1 hc
      refine fx_iconst (n := 56) (v := 0) dd_V_move_55 (by decide) rfl ?_
      exact h
    · replace h := h.2 hc
      refine fx_aload_n (n := 17) dd_V_move_16 rfl 0 rfl rfl ?_
      refine fx_iload_n (n := 18) dd_V_move_17 rfl 2 rfl rfl ?_
      obtain ⟨q7, h⟩ := h
      refine fx_callV (n := 21) (vs := [_]) dd_V_move_18 mw_V_isDirectory ⟨wd_219, wd_221, wp_3⟩ rfl (by decide) q7.1 q7.2 rfl rfl ⟨Nat.le_of_ble_eq_true rfl, Nat.le_of_ble_eq_true rfl, Nat.le_of_ble_eq_true rfl, fx_nx, rfl⟩ rfl h (fx_qi_k fun x8 S6 h => ?_) (fun _ _ h => h)
      refine fx_if_eq (n := 24) (tg := 55) dd_V_move_21 rfl rfl (fun hc => ?_) (fun hc => ?_)
      · replace h := h.1 hc
        refine fx_iconst (n := 56) (v := 0) dd_V_move_55 (by decide) rfl ?_
        exact h
      · replace h := h.2 hc
        refine fx_aload_n (n := 25) dd_V_move_24 rfl 0 rfl rfl ?_
        refine fx_iload_n (n := 26) dd_V_move_25 rfl 2 rfl rfl ?_
        refine fx_iload_n (n := 27) dd_V_move_26 rfl 1 rfl rfl ?_
        obtain ⟨q10, h⟩ := h
        refine fx_callV (n := 30) (vs := [_, _]) dd_V_move_27 mw_V_isAtOrBelow ⟨wd_545, wd_547, wp_20⟩ rfl (by decide) q10.1 q10.2 rfl rfl ⟨Nat.le_of_ble_eq_true rfl, Nat.le_of_ble_eq_true rfl, Nat.le_of_ble_eq_true rfl, fx_nx, rfl⟩ rfl h (fx_qi_k fun x11 S9 h => ?_) (fun _ _ h => h)
        refine fx_if_ne (n := 33) (tg := 55) dd_V_move_30 rfl rfl (fun hc => ?_) (fun hc => ?_)
        · replace h := h.1 hc
          refine fx_iconst (n := 56) (v := 0) dd_V_move_55 (by decide) rfl ?_
          exact h
        · replace h := h.2 hc
          refine fx_aload_n (n := 34) dd_V_move_33 rfl 0 rfl rfl ?_
          refine fx_iload_n (n := 35) dd_V_move_34 rfl 2 rfl rfl ?_
          refine fx_aload_n (n := 36) dd_V_move_35 rfl 0 rfl rfl ?_
          obtain ⟨q12, h⟩ := h
          obtain ⟨r13, hr13, h⟩ := h
          refine fx_getP (n := 39) dd_V_move_36 fw_V_18 (by decide) rfl rfl q12.1 q12.2 hr13 ?_
          refine fx_iload_n (n := 40) dd_V_move_39 rfl 1 rfl rfl ?_
          obtain ⟨q14, h⟩ := h
          obtain ⟨q15, r16, hr16, h⟩ := h
          refine fx_aald (n := 41) dd_V_move_40 rfl q14.1 q14.2 q15 hr16 ?_
          obtain ⟨q17, h⟩ := h
          obtain ⟨r18, hr18, h⟩ := h
          refine fx_getP (n := 44) dd_V_move_41 fw_V_110 (by decide) rfl rfl q17.1 q17.2 hr18 ?_
          refine fx_callV (n := 47) (vs := [_, _]) dd_V_move_44 mw_V_entryNamed ⟨wd_227, wd_229, wp_5⟩ rfl (by decide) q12.1 q12.2 rfl rfl ⟨Nat.le_of_ble_eq_true rfl, Nat.le_of_ble_eq_true rfl, Nat.le_of_ble_eq_true rfl, fx_nx, rfl⟩ rfl h (fx_qi_k fun x20 S19 h => ?_) (fun _ _ h => h)
          refine fx_iconst (n := 48) (v := (-1)) dd_V_move_47 (by decide) rfl ?_
          refine fx_icmp_ne (n := 51) (tg := 55) dd_V_move_48 rfl rfl (fun hc => ?_) (fun hc => ?_)
          · replace h := h.1 hc
            refine fx_iconst (n := 56) (v := 0) dd_V_move_55 (by decide) rfl ?_
            exact h
          · replace h := h.2 hc
            refine fx_iconst (n := 52) (v := 1) dd_V_move_51 (by decide) rfl ?_
            refine fx_goto (n := 56) dd_V_move_52 rfl ?_
            exact h
theorem bk_V_move_56 {G : fx_G} {S : fx_S} {Q : fx_R → fx_S → Prop} (v0 : Nat) (v1 : Int32) (v2 : Int32) (z0 : Int32) (h : fx_Go G (6, 82) mm_V_require 0 [(0, .int z0)] [] S (fx_qv (fun S1 => fx_is S1 v0 4 ∧ ∃ r3, fx_P S1 v0 1 = some r3 ∧ fx_is S1 r3 104 ∧ vp_in v1 (fx_ln S1 r3) ∧ ∃ r6, fx_P S1 r3 (v1.toNatClampNeg) = some r6 ∧ fx_is S1 r6 3 ∧ ∃ r8, fx_P S1 v0 1 = some r8 ∧ fx_is S1 r8 104 ∧ vp_in v1 (fx_ln S1 r8) ∧ ∃ r11, fx_P S1 r8 (v1.toNatClampNeg) = some r11 ∧ fx_is S1 r11 3 ∧ ∀ S13, S13 = fx_setI S1 r11 1 v2 → fx_Go G (7, 96) mm_V_store 0 [(0, fx_r G v0), (1, .int v1)] [] S13 (fx_qv (fun S14 => fx_is S14 v0 4 ∧ fx_Go G (0, 0) mm_V_leave 0 [(0, fx_r G v0), (1, .int (fx_I S1 r6 1)), (2, .int v1)] [] S14 (fx_qv (fun S15 => fx_is S15 v0 4 ∧ fx_Go G (7, 96) mm_V_store 0 [(0, fx_r G v0), (1, .int (fx_I S1 r6 1))] [] S15 (fx_qv (fun S17 => fx_is S17 v0 4 ∧ fx_Go G (3, 45) mm_V_enter 0 [(0, fx_r G v0), (1, .int v2), (2, .int v1)] [] S17 (fx_qv (fun S19 => fx_is S19 v0 4 ∧ fx_Go G (7, 96) mm_V_store 0 [(0, fx_r G v0), (1, .int v2)] [] S19 (fx_qv (fun S21 => Q (.inl none) S21) Q)) Q)) Q)) Q)) Q)) Q)) :
    fx_Go G (8, 109) mm_V_move 56 [(0, fx_r G v0), (1, .int v1), (2, .int v2)] [.int z0] S Q := by
  refine fx_callS (n := 59) (vs := [_]) dd_V_move_56 mw_V_require ⟨wd_390, wd_391, wd_1⟩ rfl rfl ⟨Nat.le_of_ble_eq_true rfl, Nat.le_of_ble_eq_true rfl, Nat.le_of_ble_eq_true rfl, fx_nx, rfl⟩ rfl h (fx_qv_k fun S1 h => ?_) (fun _ _ h => h)
  refine fx_aload_n (n := 60) dd_V_move_59 rfl 0 rfl rfl ?_
  obtain ⟨q2, h⟩ := h
  obtain ⟨r3, hr3, h⟩ := h
  refine fx_getP (n := 63) dd_V_move_60 fw_V_18 (by decide) rfl rfl q2.1 q2.2 hr3 ?_
  refine fx_iload_n (n := 64) dd_V_move_63 rfl 1 rfl rfl ?_
  obtain ⟨q4, h⟩ := h
  obtain ⟨q5, r6, hr6, h⟩ := h
  refine fx_aald (n := 65) dd_V_move_64 rfl q4.1 q4.2 q5 hr6 ?_
  obtain ⟨q7, h⟩ := h
  refine fx_getI (n := 68) dd_V_move_65 fw_V_173 (by decide) rfl rfl q7.1 q7.2 ?_
  refine fx_istore_n (n := 69) (L' := [(3, _), (0, _), (1, _), (2, _)]) dd_V_move_68 rfl (by decide) rfl rfl ?_
  refine fx_aload_n (n := 70) dd_V_move_69 rfl 1 rfl rfl ?_
  obtain ⟨r8, hr8, h⟩ := h
  refine fx_getP (n := 73) dd_V_move_70 fw_V_18 (by decide) rfl rfl q2.1 q2.2 hr8 ?_
  refine fx_iload_n (n := 74) dd_V_move_73 rfl 2 rfl rfl ?_
  obtain ⟨q9, h⟩ := h
  obtain ⟨q10, r11, hr11, h⟩ := h
  refine fx_aald (n := 75) dd_V_move_74 rfl q9.1 q9.2 q10 hr11 ?_
  refine fx_iload_n (n := 76) dd_V_move_75 rfl 3 rfl rfl ?_
  obtain ⟨q12, h⟩ := h
  replace h := h _ rfl
  refine fx_putI (n := 79) dd_V_move_76 fw_V_173 (by decide) rfl rfl rfl rfl q12.1 q12.2 ?_
  refine fx_aload_n (n := 80) dd_V_move_79 rfl 1 rfl rfl ?_
  refine fx_iload_n (n := 81) dd_V_move_80 rfl 2 rfl rfl ?_
  refine fx_callV (n := 84) (vs := [_]) dd_V_move_81 mw_V_store ⟨wd_429, wd_431, wp_10⟩ rfl (by decide) q2.1 q2.2 rfl rfl ⟨Nat.le_of_ble_eq_true rfl, Nat.le_of_ble_eq_true rfl, Nat.le_of_ble_eq_true rfl, fx_nx, rfl⟩ rfl h (fx_qv_k fun S14 h => ?_) (fun _ _ h => h)
  refine fx_aload_n (n := 85) dd_V_move_84 rfl 1 rfl rfl ?_
  refine fx_iload_n (n := 86) dd_V_move_85 rfl 0 rfl rfl ?_
  refine fx_iload_n (n := 87) dd_V_move_86 rfl 2 rfl rfl ?_
  obtain ⟨q16, h⟩ := h
  refine fx_callV (n := 90) (vs := [_, _]) dd_V_move_87 mw_V_leave ⟨wd_534, wd_536, wp_19⟩ rfl (by decide) q16.1 q16.2 rfl rfl ⟨Nat.le_of_ble_eq_true rfl, Nat.le_of_ble_eq_true rfl, Nat.le_of_ble_eq_true rfl, fx_nx, rfl⟩ rfl h (fx_qv_k fun S15 h => ?_) (fun _ _ h => h)
  refine fx_aload_n (n := 91) dd_V_move_90 rfl 1 rfl rfl ?_
  refine fx_iload_n (n := 92) dd_V_move_91 rfl 0 rfl rfl ?_
  obtain ⟨q18, h⟩ := h
  refine fx_callV (n := 95) (vs := [_]) dd_V_move_92 mw_V_store ⟨wd_429, wd_431, wp_10⟩ rfl (by decide) q18.1 q18.2 rfl rfl ⟨Nat.le_of_ble_eq_true rfl, Nat.le_of_ble_eq_true rfl, Nat.le_of_ble_eq_true rfl, fx_nx, rfl⟩ rfl h (fx_qv_k fun S17 h => ?_) (fun _ _ h => h)
  refine fx_aload_n (n := 96) dd_V_move_95 rfl 1 rfl rfl ?_
  refine fx_iload_n (n := 97) dd_V_move_96 rfl 3 rfl rfl ?_
  refine fx_iload_n (n := 98) dd_V_move_97 rfl 2 rfl rfl ?_
  obtain ⟨q20, h⟩ := h
  refine fx_callV (n := 101) (vs := [_, _]) dd_V_move_98 mw_V_enter ⟨wd_442, wd_444, wp_12⟩ rfl (by decide) q20.1 q20.2 rfl rfl ⟨Nat.le_of_ble_eq_true rfl, Nat.le_of_ble_eq_true rfl, Nat.le_of_ble_eq_true rfl, fx_nx, rfl⟩ rfl h (fx_qv_k fun S19 h => ?_) (fun _ _ h => h)
  refine fx_aload_n (n := 102) dd_V_move_101 rfl 1 rfl rfl ?_
  refine fx_iload_n (n := 103) dd_V_move_102 rfl 3 rfl rfl ?_
  obtain ⟨q22, h⟩ := h
  refine fx_callV (n := 106) (vs := [_]) dd_V_move_103 mw_V_store ⟨wd_429, wd_431, wp_10⟩ rfl (by decide) q22.1 q22.2 rfl rfl ⟨Nat.le_of_ble_eq_true rfl, Nat.le_of_ble_eq_true rfl, Nat.le_of_ble_eq_true rfl, fx_nx, rfl⟩ rfl h (fx_qv_k fun S21 h => ?_) (fun _ _ h => h)
  exact fx_vret dd_V_move_106 rfl h
theorem bk_V_fail_0 {G : fx_G} {S : fx_S} {Q : fx_R → fx_S → Prop} (v0 : Nat) (v1 : Int32) (h : (v1 < 0 → Q (.inl (some (.int 0))) S) ∧ (¬ v1 < 0 → (v1 ≤ 20 → fx_is S v0 4 ∧ ∃ r2, fx_P S v0 0 = some r2 ∧ fx_is S r2 0 ∧ ∀ S4, S4 = fx_setI S r2 1 v1 → Q (.inl (some (.int 1))) S4) ∧ (¬ v1 ≤ 20 → Q (.inl (some (.int 0))) S))) :
    fx_Go G (0, 0) mm_V_fail 0 [(0, fx_r G v0), (1, .int v1)] [] S Q := by
  refine fx_iload_n (n := 1) dd_V_fail_0 rfl 1 rfl rfl ?_
  refine fx_if_lt (n := 4) (tg := 10) dd_V_fail_1 rfl rfl (fun hc => ?_) (fun hc => ?_)
  · replace h := h.1 hc
    refine fx_iconst (n := 11) (v := 0) dd_V_fail_10 (by decide) rfl ?_
    exact fx_zret dd_V_fail_11 rfl rfl h
  · replace h := h.2 hc
    refine fx_iload_n (n := 5) dd_V_fail_4 rfl 1 rfl rfl ?_
    refine fx_bipush (n := 7) (v := 20) dd_V_fail_5 (by decide) rfl ?_
    refine fx_icmp_le (n := 10) (tg := 12) dd_V_fail_7 rfl rfl (fun hc => ?_) (fun hc => ?_)
    · replace h := h.1 hc
      refine fx_aload_n (n := 13) dd_V_fail_12 rfl 0 rfl rfl ?_
      obtain ⟨q1, h⟩ := h
      obtain ⟨r2, hr2, h⟩ := h
      refine fx_getP (n := 16) dd_V_fail_13 fw_V_12 (by decide) rfl rfl q1.1 q1.2 hr2 ?_
      refine fx_iload_n (n := 17) dd_V_fail_16 rfl 1 rfl rfl ?_
      obtain ⟨q3, h⟩ := h
      replace h := h _ rfl
      refine fx_putI (n := 20) dd_V_fail_17 fw_V_183 (by decide) rfl rfl rfl rfl q3.1 q3.2 ?_
      refine fx_iconst (n := 21) (v := 1) dd_V_fail_20 (by decide) rfl ?_
      exact fx_zret dd_V_fail_21 rfl rfl h
    · replace h := h.2 hc
      refine fx_iconst (n := 11) (v := 0) dd_V_fail_10 (by decide) rfl ?_
      exact fx_zret dd_V_fail_11 rfl rfl h
theorem bk_V_mount_0 {G : fx_G} {S : fx_S} {Q : fx_R → fx_S → Prop} (v0 : Nat) (h : fx_Go G (9, 125) mm_V_mount 2 [(0, fx_r G v0), (1, .int 0)] [] S Q) :
    fx_Go G (9, 125) mm_V_mount 0 [(0, fx_r G v0)] [] S Q := by
  refine fx_iconst (n := 1) (v := 0) dd_V_mount_0 (by decide) rfl ?_
  refine fx_istore_n (n := 2) (L' := [(1, _), (0, _)]) dd_V_mount_1 rfl (by decide) rfl rfl ?_
  refine fx_sub (L' := [(0, _), (1, _)]) [1, 0] rfl ?_
  exact h
theorem bk_V_mount_2 {G : fx_G} {S : fx_S} {Q : fx_R → fx_S → Prop} (v0 : Nat) (v1 : Int32) (h : (12 ≤ v1 → fx_is S v0 4 ∧ fx_Go G (8, 109) mm_V_restoreRoot 0 [(0, fx_r G v0)] [] S (fx_qi (fun x3 S1 => fx_is S1 v0 4 ∧ fx_Go G (8, 109) mm_V_adoptStrays 0 [(0, fx_r G v0)] [] S1 (fx_qi (fun x6 S4 => fx_is S4 v0 4 ∧ fx_Go G (8, 109) mm_V_mendLists 0 [(0, fx_r G v0)] [] S4 (fx_qi (fun x9 S7 => fx_is S7 v0 4 ∧ fx_Go G (1, 12) mm_V_noteTaken 0 [(0, fx_r G v0)] [] S7 (fx_qv (fun S10 => fx_is S10 v0 4 ∧ ∀ S13, S13 = fx_setI S10 v0 4 1 → Q (.inl (some (.int ((x3 + x6) + x9)))) S13) Q)) Q)) Q)) Q)) ∧ (¬ 12 ≤ v1 → fx_is S v0 4 ∧ ∃ r15, fx_P S v0 0 = some r15 ∧ ∃ r16, fx_P S v0 7 = some r16 ∧ fx_is S r15 0 ∧ fx_Go G (1, 18) mm_D_liftRecord 0 [(0, fx_r G r15), (1, .int v1), (2, fx_r G r16)] [] S (fx_qv (fun S17 => fx_is S17 v0 4 ∧ ∃ r20, fx_P S17 v0 1 = some r20 ∧ fx_is S17 r20 104 ∧ vp_in v1 (fx_ln S17 r20) ∧ ∃ r23, fx_P S17 r20 (v1.toNatClampNeg) = some r23 ∧ ∃ r24, fx_P S17 v0 7 = some r24 ∧ fx_is S17 r23 3 ∧ fx_Go G (4, 65) mm_H_decode 0 [(0, fx_r G r23), (1, fx_r G r24)] [] S17 (fx_qv (fun S25 => fx_Go G (9, 125) mm_V_mount 2 [(0, fx_r G v0), (1, .int (v1 + Int32.ofInt 1))] [] S25 Q) Q)) Q))) :
    fx_Go G (9, 125) mm_V_mount 2 [(0, fx_r G v0), (1, .int v1)] [] S Q := by
  refine fx_iload_n (n := 3) dd_V_mount_2 rfl 1 rfl rfl ?_
  refine fx_bipush (n := 5) (v := 12) dd_V_mount_3 (by decide) rfl ?_
  refine fx_icmp_ge (n := 8) (tg := 39) dd_V_mount_5 rfl rfl (fun hc => ?_) (fun hc => ?_)
  · replace h := h.1 hc
    refine fx_aload_n (n := 40) dd_V_mount_39 rfl 0 rfl rfl ?_
    obtain ⟨q2, h⟩ := h
    refine fx_callV (n := 43) (vs := []) dd_V_mount_40 mw_V_restoreRoot ⟨wd_585, wd_587, wp_24⟩ rfl (by decide) q2.1 q2.2 rfl rfl ⟨Nat.le_of_ble_eq_true rfl, Nat.le_of_ble_eq_true rfl, Nat.le_of_ble_eq_true rfl, fx_nx, rfl⟩ rfl h (fx_qi_k fun x3 S1 h => ?_) (fun _ _ h => h)
    refine fx_istore_n (n := 44) (L' := [(1, _), (0, _)]) dd_V_mount_43 rfl (by decide) rfl rfl ?_
    refine fx_iload_n (n := 45) dd_V_mount_44 rfl 0 rfl rfl ?_
    refine fx_aload_n (n := 46) dd_V_mount_45 rfl 1 rfl rfl ?_
    obtain ⟨q5, h⟩ := h
    refine fx_callV (n := 49) (vs := []) dd_V_mount_46 mw_V_adoptStrays ⟨wd_589, wd_591, wp_25⟩ rfl (by decide) q5.1 q5.2 rfl rfl ⟨Nat.le_of_ble_eq_true rfl, Nat.le_of_ble_eq_true rfl, Nat.le_of_ble_eq_true rfl, fx_nx, rfl⟩ rfl h (fx_qi_k fun x6 S4 h => ?_) (fun _ _ h => h)
    refine fx_iadd (n := 50) dd_V_mount_49 rfl ?_
    refine fx_istore_n (n := 51) (L' := [(1, _), (0, _)]) dd_V_mount_50 rfl (by decide) rfl rfl ?_
    refine fx_iload_n (n := 52) dd_V_mount_51 rfl 0 rfl rfl ?_
    refine fx_aload_n (n := 53) dd_V_mount_52 rfl 1 rfl rfl ?_
    obtain ⟨q8, h⟩ := h
    refine fx_callV (n := 56) (vs := []) dd_V_mount_53 mw_V_mendLists ⟨wd_597, wd_599, wp_27⟩ rfl (by decide) q8.1 q8.2 rfl rfl ⟨Nat.le_of_ble_eq_true rfl, Nat.le_of_ble_eq_true rfl, Nat.le_of_ble_eq_true rfl, fx_nx, rfl⟩ rfl h (fx_qi_k fun x9 S7 h => ?_) (fun _ _ h => h)
    refine fx_iadd (n := 57) dd_V_mount_56 rfl ?_
    refine fx_istore_n (n := 58) (L' := [(1, _), (0, _)]) dd_V_mount_57 rfl (by decide) rfl rfl ?_
    refine fx_aload_n (n := 59) dd_V_mount_58 rfl 1 rfl rfl ?_
    obtain ⟨q11, h⟩ := h
    refine fx_callV (n := 62) (vs := []) dd_V_mount_59 mw_V_noteTaken ⟨wd_613, wd_615, wp_29⟩ rfl (by decide) q11.1 q11.2 rfl rfl ⟨Nat.le_of_ble_eq_true rfl, Nat.le_of_ble_eq_true rfl, Nat.le_of_ble_eq_true rfl, fx_nx, rfl⟩ rfl h (fx_qv_k fun S10 h => ?_) (fun _ _ h => h)
    refine fx_aload_n (n := 63) dd_V_mount_62 rfl 1 rfl rfl ?_
    refine fx_iconst (n := 64) (v := 1) dd_V_mount_63 (by decide) rfl ?_
    obtain ⟨q12, h⟩ := h
    replace h := h _ rfl
    refine fx_putI (n := 67) dd_V_mount_64 fw_V_66 (by decide) rfl rfl rfl rfl q12.1 q12.2 ?_
    refine fx_iload_n (n := 68) dd_V_mount_67 rfl 0 rfl rfl ?_
    exact fx_iret dd_V_mount_68 rfl h
  · replace h := h.2 hc
    refine fx_aload_n (n := 9) dd_V_mount_8 rfl 0 rfl rfl ?_
    obtain ⟨q14, h⟩ := h
    obtain ⟨r15, hr15, h⟩ := h
    refine fx_getP (n := 12) dd_V_mount_9 fw_V_12 (by decide) rfl rfl q14.1 q14.2 hr15 ?_
    refine fx_iload_n (n := 13) dd_V_mount_12 rfl 1 rfl rfl ?_
    refine fx_aload_n (n := 14) dd_V_mount_13 rfl 0 rfl rfl ?_
    obtain ⟨r16, hr16, h⟩ := h
    refine fx_getP (n := 17) dd_V_mount_14 fw_V_44 (by decide) rfl rfl q14.1 q14.2 hr16 ?_
    obtain ⟨q18, h⟩ := h
    refine fx_callV (n := 20) (vs := [_, _]) dd_V_mount_17 mw_D_liftRecord ⟨wd_556, wd_557, wd_558⟩ rfl (by decide) q18.1 q18.2 rfl rfl ⟨Nat.le_of_ble_eq_true rfl, Nat.le_of_ble_eq_true rfl, Nat.le_of_ble_eq_true rfl, fx_nx, rfl⟩ rfl h (fx_qv_k fun S17 h => ?_) (fun _ _ h => h)
    refine fx_aload_n (n := 21) dd_V_mount_20 rfl 0 rfl rfl ?_
    obtain ⟨q19, h⟩ := h
    obtain ⟨r20, hr20, h⟩ := h
    refine fx_getP (n := 24) dd_V_mount_21 fw_V_18 (by decide) rfl rfl q19.1 q19.2 hr20 ?_
    refine fx_iload_n (n := 25) dd_V_mount_24 rfl 1 rfl rfl ?_
    obtain ⟨q21, h⟩ := h
    obtain ⟨q22, r23, hr23, h⟩ := h
    refine fx_aald (n := 26) dd_V_mount_25 rfl q21.1 q21.2 q22 hr23 ?_
    refine fx_aload_n (n := 27) dd_V_mount_26 rfl 0 rfl rfl ?_
    obtain ⟨r24, hr24, h⟩ := h
    refine fx_getP (n := 30) dd_V_mount_27 fw_V_44 (by decide) rfl rfl q19.1 q19.2 hr24 ?_
    obtain ⟨q26, h⟩ := h
    refine fx_callV (n := 33) (vs := [_]) dd_V_mount_30 mw_H_decode ⟨wd_560, wd_561, wd_562⟩ rfl (by decide) q26.1 q26.2 rfl rfl ⟨Nat.le_of_ble_eq_true rfl, Nat.le_of_ble_eq_true rfl, Nat.le_of_ble_eq_true rfl, fx_nx, rfl⟩ rfl h (fx_qv_k fun S25 h => ?_) (fun _ _ h => h)
    refine fx_iinc (n := 36) (L' := [(1, _), (0, _)]) dd_V_mount_33 1 rfl rfl (by decide) rfl rfl ?_
    refine fx_goto (n := 2) dd_V_mount_36 rfl ?_
    refine fx_sub (L' := [(0, _), (1, _)]) [1, 0] rfl ?_
    exact h
theorem bk_V_on_0 {G : fx_G} {S : fx_S} {Q : fx_R → fx_S → Prop} (v0 : Nat) (h : fx_is S v0 4 ∧ narrow .boolean (.int (fx_I S v0 4)) = .int (fx_I S v0 4) ∧ Q (.inl (some (.int (fx_I S v0 4)))) S) :
    fx_Go G (0, 0) mm_V_on 0 [(0, fx_r G v0)] [] S Q := by
  refine fx_aload_n (n := 1) dd_V_on_0 rfl 0 rfl rfl ?_
  obtain ⟨q1, h⟩ := h
  refine fx_getI (n := 4) dd_V_on_1 fw_V_66 (by decide) rfl rfl q1.1 q1.2 ?_
  exact fx_zret dd_V_on_4 rfl h.1 h.2
theorem bk_V_find_0 {G : fx_G} {S : fx_S} {Q : fx_R → fx_S → Prop} (v0 : Nat) (v1 : Int32) (h : fx_is S v0 4 ∧ ((fx_I S v0 4) = 0 → ∃ r2, fx_P S v0 3 = some r2 ∧ fx_is S r2 2 ∧ fx_Go G (0, 0) mm_N_clear 0 [(0, fx_r G r2)] [] S (fx_qv (fun S3 => Q (.inl (some (.int (-1)))) S3) Q)) ∧ (¬ (fx_I S v0 4) = 0 → fx_Go G (1, 13) mm_V_isDirectory 0 [(0, fx_r G v0), (1, .int v1)] [] S (fx_qi (fun x6 S5 => (x6 = 0 → fx_is S5 v0 4 ∧ ∃ r8, fx_P S5 v0 3 = some r8 ∧ fx_is S5 r8 2 ∧ fx_Go G (0, 0) mm_N_clear 0 [(0, fx_r G r8)] [] S5 (fx_qv (fun S9 => Q (.inl (some (.int (-1)))) S9) Q)) ∧ (¬ x6 = 0 → fx_is S5 v0 4 ∧ ∃ r12, fx_P S5 v0 3 = some r12 ∧ fx_Go G (2, 28) mm_V_entryNamed 0 [(0, fx_r G v0), (1, .int v1), (2, fx_r G r12)] [] S5 (fx_qi (fun x14 S13 => fx_is S13 v0 4 ∧ ∃ r16, fx_P S13 v0 3 = some r16 ∧ fx_is S13 r16 2 ∧ fx_Go G (0, 0) mm_N_clear 0 [(0, fx_r G r16)] [] S13 (fx_qv (fun S17 => Q (.inl (some (.int x14))) S17) Q)) Q))) Q))) :
    fx_Go G (3, 44) mm_V_find 0 [(0, fx_r G v0), (1, .int v1)] [] S Q := by
  refine fx_aload_n (n := 1) dd_V_find_0 rfl 0 rfl rfl ?_
  obtain ⟨q1, h⟩ := h
  refine fx_getI (n := 4) dd_V_find_1 fw_V_66 (by decide) rfl rfl q1.1 q1.2 ?_
  refine fx_if_eq (n := 7) (tg := 27) dd_V_find_4 rfl rfl (fun hc => ?_) (fun hc => ?_)
  · replace h := h.1 hc
    refine fx_iconst (n := 28) (v := (-1)) dd_V_find_27 (by decide) rfl ?_
    refine fx_istore_n (n := 29) (L' := [(2, _), (0, _), (1, _)]) dd_V_find_28 rfl (by decide) rfl rfl ?_
    refine fx_aload_n (n := 30) dd_V_find_29 rfl 1 rfl rfl ?_
    obtain ⟨r2, hr2, h⟩ := h
    refine fx_getP (n := 33) dd_V_find_30 fw_V_30 (by decide) rfl rfl q1.1 q1.2 hr2 ?_
    obtain ⟨q4, h⟩ := h
    refine fx_callV (n := 36) (vs := []) dd_V_find_33 mw_N_clear ⟨wd_238, wd_121, wd_122⟩ rfl (by decide) q4.1 q4.2 rfl rfl ⟨Nat.le_of_ble_eq_true rfl, Nat.le_of_ble_eq_true rfl, Nat.le_of_ble_eq_true rfl, fx_nx, rfl⟩ rfl h (fx_qv_k fun S3 h => ?_) (fun _ _ h => h)
    refine fx_iload_n (n := 37) dd_V_find_36 rfl 0 rfl rfl ?_
    exact fx_iret dd_V_find_37 rfl h
  · replace h := h.2 hc
    refine fx_aload_n (n := 8) dd_V_find_7 rfl 0 rfl rfl ?_
    refine fx_iload_n (n := 9) dd_V_find_8 rfl 1 rfl rfl ?_
    refine fx_callV (n := 12) (vs := [_]) dd_V_find_9 mw_V_isDirectory ⟨wd_219, wd_221, wp_3⟩ rfl (by decide) q1.1 q1.2 rfl rfl ⟨Nat.le_of_ble_eq_true rfl, Nat.le_of_ble_eq_true rfl, Nat.le_of_ble_eq_true rfl, fx_nx, rfl⟩ rfl h (fx_qi_k fun x6 S5 h => ?_) (fun _ _ h => h)
    refine fx_if_eq (n := 15) (tg := 27) dd_V_find_12 rfl rfl (fun hc => ?_) (fun hc => ?_)
    · replace h := h.1 hc
      refine fx_iconst (n := 28) (v := (-1)) dd_V_find_27 (by decide) rfl ?_
      refine fx_istore_n (n := 29) (L' := [(2, _), (0, _), (1, _)]) dd_V_find_28 rfl (by decide) rfl rfl ?_
      refine fx_aload_n (n := 30) dd_V_find_29 rfl 1 rfl rfl ?_
      obtain ⟨q7, h⟩ := h
      obtain ⟨r8, hr8, h⟩ := h
      refine fx_getP (n := 33) dd_V_find_30 fw_V_30 (by decide) rfl rfl q7.1 q7.2 hr8 ?_
      obtain ⟨q10, h⟩ := h
      refine fx_callV (n := 36) (vs := []) dd_V_find_33 mw_N_clear ⟨wd_238, wd_121, wd_122⟩ rfl (by decide) q10.1 q10.2 rfl rfl ⟨Nat.le_of_ble_eq_true rfl, Nat.le_of_ble_eq_true rfl, Nat.le_of_ble_eq_true rfl, fx_nx, rfl⟩ rfl h (fx_qv_k fun S9 h => ?_) (fun _ _ h => h)
      refine fx_iload_n (n := 37) dd_V_find_36 rfl 0 rfl rfl ?_
      exact fx_iret dd_V_find_37 rfl h
    · replace h := h.2 hc
      refine fx_aload_n (n := 16) dd_V_find_15 rfl 0 rfl rfl ?_
      refine fx_iload_n (n := 17) dd_V_find_16 rfl 1 rfl rfl ?_
      refine fx_aload_n (n := 18) dd_V_find_17 rfl 0 rfl rfl ?_
      obtain ⟨q11, h⟩ := h
      obtain ⟨r12, hr12, h⟩ := h
      refine fx_getP (n := 21) dd_V_find_18 fw_V_30 (by decide) rfl rfl q11.1 q11.2 hr12 ?_
      refine fx_callV (n := 24) (vs := [_, _]) dd_V_find_21 mw_V_entryNamed ⟨wd_227, wd_229, wp_5⟩ rfl (by decide) q11.1 q11.2 rfl rfl ⟨Nat.le_of_ble_eq_true rfl, Nat.le_of_ble_eq_true rfl, Nat.le_of_ble_eq_true rfl, fx_nx, rfl⟩ rfl h (fx_qi_k fun x14 S13 h => ?_) (fun _ _ h => h)
      refine fx_goto (n := 28) dd_V_find_24 rfl ?_
      refine fx_istore_n (n := 29) (L' := [(2, _), (0, _), (1, _)]) dd_V_find_28 rfl (by decide) rfl rfl ?_
      refine fx_aload_n (n := 30) dd_V_find_29 rfl 1 rfl rfl ?_
      obtain ⟨q15, h⟩ := h
      obtain ⟨r16, hr16, h⟩ := h
      refine fx_getP (n := 33) dd_V_find_30 fw_V_30 (by decide) rfl rfl q15.1 q15.2 hr16 ?_
      obtain ⟨q18, h⟩ := h
      refine fx_callV (n := 36) (vs := []) dd_V_find_33 mw_N_clear ⟨wd_238, wd_121, wd_122⟩ rfl (by decide) q18.1 q18.2 rfl rfl ⟨Nat.le_of_ble_eq_true rfl, Nat.le_of_ble_eq_true rfl, Nat.le_of_ble_eq_true rfl, fx_nx, rfl⟩ rfl h (fx_qv_k fun S17 h => ?_) (fun _ _ h => h)
      refine fx_iload_n (n := 37) dd_V_find_36 rfl 0 rfl rfl ?_
      exact fx_iret dd_V_find_37 rfl h
