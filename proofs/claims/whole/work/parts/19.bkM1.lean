theorem bk_M_putOutside_54 {G : fx_G} {S : fx_S} {Q : fx_R → fx_S → Prop} (v0 : Nat) (v2 : Int32) (v3 : Int32) (v4 : Int32) (v5 : Int32) (h : fx_is S v0 5 ∧ ((fx_I S v0 10) ≤ v5 → fx_Go G (1, 13) mm_M_putOutside 115 [(0, fx_r G v0), (2, .int v2), (3, .int v3), (4, .int v4), (5, .int v5)] [] S Q) ∧ (¬ (fx_I S v0 10) ≤ v5 → ∃ r2, fx_P S v0 11 = some r2 ∧ fx_is S r2 100 ∧ vp_in v4 (fx_ln S r2) ∧ (0 ≤ (fx_I S r2 (v4.toNatClampNeg)) → ∃ r5, fx_P S v0 11 = some r5 ∧ fx_is S r5 100 ∧ vp_in v5 (fx_ln S r5) ∧ ∃ r8, fx_P S v0 11 = some r8 ∧ fx_is S r8 100 ∧ vp_in v4 (fx_ln S r8) ∧ (¬ (fx_I S r5 (v5.toNatClampNeg)) = (((fx_I S r8 (v4.toNatClampNeg)) + v5) - v4) → fx_Go G (1, 13) mm_M_putOutside 115 [(0, fx_r G v0), (2, .int v2), (3, .int v3), (4, .int v4), (5, .int v5)] [] S Q) ∧ ((fx_I S r5 (v5.toNatClampNeg)) = (((fx_I S r8 (v4.toNatClampNeg)) + v5) - v4) → fx_Go G (1, 13) mm_M_putOutside 54 [(0, fx_r G v0), (2, .int v2), (3, .int v3), (4, .int v4), (5, .int (v5 + Int32.ofInt 1))] [] S Q)) ∧ (¬ 0 ≤ (fx_I S r2 (v4.toNatClampNeg)) → ∃ r11, fx_P S v0 11 = some r11 ∧ fx_is S r11 100 ∧ vp_in v5 (fx_ln S r11) ∧ (0 ≤ (fx_I S r11 (v5.toNatClampNeg)) → fx_Go G (1, 13) mm_M_putOutside 115 [(0, fx_r G v0), (2, .int v2), (3, .int v3), (4, .int v4), (5, .int v5)] [] S Q) ∧ (¬ 0 ≤ (fx_I S r11 (v5.toNatClampNeg)) → fx_Go G (1, 13) mm_M_putOutside 54 [(0, fx_r G v0), (2, .int v2), (3, .int v3), (4, .int v4), (5, .int (v5 + Int32.ofInt 1))] [] S Q)))) :
    fx_Go G (1, 13) mm_M_putOutside 54 [(0, fx_r G v0), (2, .int v2), (3, .int v3), (4, .int v4), (5, .int v5)] [] S Q := by
  refine fx_iload (n := 56) dd_M_putOutside_54 4 rfl rfl ?_
  refine fx_aload_n (n := 57) dd_M_putOutside_56 rfl 0 rfl rfl ?_
  obtain ⟨q1, h⟩ := h
  refine fx_getI (n := 60) dd_M_putOutside_57 fw_M_91 (by decide) rfl rfl q1.1 q1.2 ?_
  refine fx_icmp_ge (n := 63) (tg := 115) dd_M_putOutside_60 rfl rfl (fun hc => ?_) (fun hc => ?_)
  · replace h := h.1 hc
    exact h
  · replace h := h.2 hc
    refine fx_aload_n (n := 64) dd_M_putOutside_63 rfl 0 rfl rfl ?_
    obtain ⟨r2, hr2, h⟩ := h
    refine fx_getP (n := 67) dd_M_putOutside_64 fw_M_27 (by decide) rfl rfl q1.1 q1.2 hr2 ?_
    refine fx_iload (n := 69) dd_M_putOutside_67 3 rfl rfl ?_
    obtain ⟨q3, h⟩ := h
    obtain ⟨q4, h⟩ := h
    refine fx_iald (n := 70) dd_M_putOutside_69 rfl q3.1 q3.2 q4 ?_
    refine fx_if_ge (n := 73) (tg := 86) dd_M_putOutside_70 rfl rfl (fun hc => ?_) (fun hc => ?_)
    · replace h := h.1 hc
      refine fx_aload_n (n := 87) dd_M_putOutside_86 rfl 0 rfl rfl ?_
      obtain ⟨r5, hr5, h⟩ := h
      refine fx_getP (n := 90) dd_M_putOutside_87 fw_M_27 (by decide) rfl rfl q1.1 q1.2 hr5 ?_
      refine fx_iload (n := 92) dd_M_putOutside_90 4 rfl rfl ?_
      obtain ⟨q6, h⟩ := h
      obtain ⟨q7, h⟩ := h
      refine fx_iald (n := 93) dd_M_putOutside_92 rfl q6.1 q6.2 q7 ?_
      refine fx_aload_n (n := 94) dd_M_putOutside_93 rfl 0 rfl rfl ?_
      obtain ⟨r8, hr8, h⟩ := h
      refine fx_getP (n := 97) dd_M_putOutside_94 fw_M_27 (by decide) rfl rfl q1.1 q1.2 hr8 ?_
      refine fx_iload (n := 99) dd_M_putOutside_97 3 rfl rfl ?_
      obtain ⟨q9, h⟩ := h
      obtain ⟨q10, h⟩ := h
      refine fx_iald (n := 100) dd_M_putOutside_99 rfl q9.1 q9.2 q10 ?_
      refine fx_iload (n := 102) dd_M_putOutside_100 4 rfl rfl ?_
      refine fx_iadd (n := 103) dd_M_putOutside_102 rfl ?_
      refine fx_iload (n := 105) dd_M_putOutside_103 3 rfl rfl ?_
      refine fx_isub (n := 106) dd_M_putOutside_105 rfl ?_
      refine fx_icmp_ne (n := 109) (tg := 115) dd_M_putOutside_106 rfl rfl (fun hc => ?_) (fun hc => ?_)
      · replace h := h.1 hc
        exact h
      · replace h := h.2 hc
        refine fx_iinc (n := 112) (L' := [(5, _), (0, _), (2, _), (3, _), (4, _)]) dd_M_putOutside_109 4 rfl rfl (by decide) rfl rfl ?_
        refine fx_goto (n := 54) dd_M_putOutside_112 rfl ?_
        refine fx_sub (L' := [(0, _), (2, _), (3, _), (4, _), (5, _)]) [1, 2, 3, 4, 0] rfl ?_
        exact h
    · replace h := h.2 hc
      refine fx_aload_n (n := 74) dd_M_putOutside_73 rfl 0 rfl rfl ?_
      obtain ⟨r11, hr11, h⟩ := h
      refine fx_getP (n := 77) dd_M_putOutside_74 fw_M_27 (by decide) rfl rfl q1.1 q1.2 hr11 ?_
      refine fx_iload (n := 79) dd_M_putOutside_77 4 rfl rfl ?_
      obtain ⟨q12, h⟩ := h
      obtain ⟨q13, h⟩ := h
      refine fx_iald (n := 80) dd_M_putOutside_79 rfl q12.1 q12.2 q13 ?_
      refine fx_if_ge (n := 83) (tg := 115) dd_M_putOutside_80 rfl rfl (fun hc => ?_) (fun hc => ?_)
      · replace h := h.1 hc
        exact h
      · replace h := h.2 hc
        refine fx_goto (n := 109) dd_M_putOutside_83 rfl ?_
        refine fx_iinc (n := 112) (L' := [(5, _), (0, _), (2, _), (3, _), (4, _)]) dd_M_putOutside_109 4 rfl rfl (by decide) rfl rfl ?_
        refine fx_goto (n := 54) dd_M_putOutside_112 rfl ?_
        refine fx_sub (L' := [(0, _), (2, _), (3, _), (4, _), (5, _)]) [1, 2, 3, 4, 0] rfl ?_
        exact h
theorem bk_M_putOutside_115 {G : fx_G} {S : fx_S} {Q : fx_R → fx_S → Prop} (v0 : Nat) (v2 : Int32) (v3 : Int32) (v4 : Int32) (v5 : Int32) (h : fx_is S v0 5 ∧ ∃ r2, fx_P S v0 11 = some r2 ∧ fx_is S r2 100 ∧ vp_in v4 (fx_ln S r2) ∧ (0 ≤ (fx_I S r2 (v4.toNatClampNeg)) → fx_Go G (1, 13) mm_M_putOutside 132 [(0, fx_r G v0), (2, .int v2), (3, .int v3), (4, .int v4), (5, .int v5)] [.int 17, fx_r G v0] S Q) ∧ (¬ 0 ≤ (fx_I S r2 (v4.toNatClampNeg)) → fx_Go G (1, 13) mm_M_putOutside 132 [(0, fx_r G v0), (2, .int v2), (3, .int v3), (4, .int v4), (5, .int v5)] [.int 1, fx_r G v0] S Q)) :
    fx_Go G (1, 13) mm_M_putOutside 115 [(0, fx_r G v0), (2, .int v2), (3, .int v3), (4, .int v4), (5, .int v5)] [] S Q := by
  refine fx_aload_n (n := 116) dd_M_putOutside_115 rfl 0 rfl rfl ?_
  refine fx_aload_n (n := 117) dd_M_putOutside_116 rfl 0 rfl rfl ?_
  obtain ⟨q1, h⟩ := h
  obtain ⟨r2, hr2, h⟩ := h
  refine fx_getP (n := 120) dd_M_putOutside_117 fw_M_27 (by decide) rfl rfl q1.1 q1.2 hr2 ?_
  refine fx_iload (n := 122) dd_M_putOutside_120 3 rfl rfl ?_
  obtain ⟨q3, h⟩ := h
  obtain ⟨q4, h⟩ := h
  refine fx_iald (n := 123) dd_M_putOutside_122 rfl q3.1 q3.2 q4 ?_
  refine fx_if_ge (n := 126) (tg := 130) dd_M_putOutside_123 rfl rfl (fun hc => ?_) (fun hc => ?_)
  · replace h := h.1 hc
    refine fx_bipush (n := 132) (v := 17) dd_M_putOutside_130 (by decide) rfl ?_
    exact h
  · replace h := h.2 hc
    refine fx_iconst (n := 127) (v := 1) dd_M_putOutside_126 (by decide) rfl ?_
    refine fx_goto (n := 132) dd_M_putOutside_127 rfl ?_
    exact h
theorem bk_M_putOutside_132 {G : fx_G} {S : fx_S} {Q : fx_R → fx_S → Prop} (v0 : Nat) (v2 : Int32) (v3 : Int32) (v4 : Int32) (v5 : Int32) (z0 : Int32) (z1 : Nat) (h : fx_is S z1 5 ∧ fx_Go G (0, 0) mm_M_put 0 [(0, fx_r G z1), (1, .int z0)] [] S (fx_qv (fun S1 => fx_is S1 v0 5 ∧ fx_Go G (0, 0) mm_M_put 0 [(0, fx_r G v0), (1, .int (v5 - v4))] [] S1 (fx_qv (fun S3 => fx_is S3 v0 5 ∧ ∃ r6, fx_P S3 v0 11 = some r6 ∧ fx_is S3 r6 100 ∧ vp_in v4 (fx_ln S3 r6) ∧ ((fx_I S3 r6 (v4.toNatClampNeg)) < 0 → fx_Go G (1, 13) mm_M_putOutside 39 [(0, fx_r G v0), (2, .int v2), (3, .int v3), (4, .int v5)] [] S3 Q) ∧ (¬ (fx_I S3 r6 (v4.toNatClampNeg)) < 0 → ∃ r9, fx_P S3 v0 11 = some r9 ∧ fx_is S3 r9 100 ∧ vp_in v4 (fx_ln S3 r9) ∧ fx_Go G (0, 0) mm_M_put 0 [(0, fx_r G v0), (1, .int (((fx_I S3 r9 (v4.toNatClampNeg)) - v3) &&& 255))] [] S3 (fx_qv (fun S12 => fx_is S12 v0 5 ∧ ∃ r14, fx_P S12 v0 11 = some r14 ∧ fx_is S12 r14 100 ∧ vp_in v4 (fx_ln S12 r14) ∧ fx_Go G (1, 13) mm_M_putOutside 39 [(0, fx_r G v0), (2, .int v2), (3, .int (fx_I S12 r14 (v4.toNatClampNeg))), (4, .int v5)] [] S12 Q) Q))) Q)) Q)) :
    fx_Go G (1, 13) mm_M_putOutside 132 [(0, fx_r G v0), (2, .int v2), (3, .int v3), (4, .int v4), (5, .int v5)] [.int z0, fx_r G z1] S Q := by
  obtain ⟨q2, h⟩ := h
  refine fx_callV (n := 135) (vs := [_]) dd_M_putOutside_132 mw_M_put ⟨wd_631, wd_633, wp_32⟩ rfl (by decide) q2.1 q2.2 rfl rfl ⟨Nat.le_of_ble_eq_true rfl, Nat.le_of_ble_eq_true rfl, Nat.le_of_ble_eq_true rfl, fx_nx, rfl⟩ rfl h (fx_qv_k fun S1 h => ?_) (fun _ _ h => h)
  refine fx_aload_n (n := 136) dd_M_putOutside_135 rfl 0 rfl rfl ?_
  refine fx_iload (n := 138) dd_M_putOutside_136 4 rfl rfl ?_
  refine fx_iload (n := 140) dd_M_putOutside_138 3 rfl rfl ?_
  refine fx_isub (n := 141) dd_M_putOutside_140 rfl ?_
  obtain ⟨q4, h⟩ := h
  refine fx_callV (n := 144) (vs := [_]) dd_M_putOutside_141 mw_M_put ⟨wd_631, wd_633, wp_32⟩ rfl (by decide) q4.1 q4.2 rfl rfl ⟨Nat.le_of_ble_eq_true rfl, Nat.le_of_ble_eq_true rfl, Nat.le_of_ble_eq_true rfl, fx_nx, rfl⟩ rfl h (fx_qv_k fun S3 h => ?_) (fun _ _ h => h)
  refine fx_aload_n (n := 145) dd_M_putOutside_144 rfl 0 rfl rfl ?_
  obtain ⟨q5, h⟩ := h
  obtain ⟨r6, hr6, h⟩ := h
  refine fx_getP (n := 148) dd_M_putOutside_145 fw_M_27 (by decide) rfl rfl q5.1 q5.2 hr6 ?_
  refine fx_iload (n := 150) dd_M_putOutside_148 3 rfl rfl ?_
  obtain ⟨q7, h⟩ := h
  obtain ⟨q8, h⟩ := h
  refine fx_iald (n := 151) dd_M_putOutside_150 rfl q7.1 q7.2 q8 ?_
  refine fx_if_lt (n := 154) (tg := 179) dd_M_putOutside_151 rfl rfl (fun hc => ?_) (fun hc => ?_)
  · replace h := h.1 hc
    refine fx_iload (n := 181) dd_M_putOutside_179 4 rfl rfl ?_
    refine fx_istore (n := 183) (L' := [(4, _), (0, _), (2, _), (3, _), (5, _)]) dd_M_putOutside_181 (by decide) rfl rfl ?_
    refine fx_goto (n := 39) dd_M_putOutside_183 rfl ?_
    refine fx_sub (L' := [(0, _), (2, _), (3, _), (4, _)]) [1, 2, 3, 0] rfl ?_
    exact h
  · replace h := h.2 hc
    refine fx_aload_n (n := 155) dd_M_putOutside_154 rfl 0 rfl rfl ?_
    refine fx_aload_n (n := 156) dd_M_putOutside_155 rfl 0 rfl rfl ?_
    obtain ⟨r9, hr9, h⟩ := h
    refine fx_getP (n := 159) dd_M_putOutside_156 fw_M_27 (by decide) rfl rfl q5.1 q5.2 hr9 ?_
    refine fx_iload (n := 161) dd_M_putOutside_159 3 rfl rfl ?_
    obtain ⟨q10, h⟩ := h
    obtain ⟨q11, h⟩ := h
    refine fx_iald (n := 162) dd_M_putOutside_161 rfl q10.1 q10.2 q11 ?_
    refine fx_iload_n (n := 163) dd_M_putOutside_162 rfl 2 rfl rfl ?_
    refine fx_isub (n := 164) dd_M_putOutside_163 rfl ?_
    refine fx_sipush (n := 167) (v := 255) dd_M_putOutside_164 (by decide) rfl ?_
    refine fx_iand (n := 168) dd_M_putOutside_167 rfl ?_
    refine fx_callV (n := 171) (vs := [_]) dd_M_putOutside_168 mw_M_put ⟨wd_631, wd_633, wp_32⟩ rfl (by decide) q5.1 q5.2 rfl rfl ⟨Nat.le_of_ble_eq_true rfl, Nat.le_of_ble_eq_true rfl, Nat.le_of_ble_eq_true rfl, fx_nx, rfl⟩ rfl h (fx_qv_k fun S12 h => ?_) (fun _ _ h => h)
    refine fx_aload_n (n := 172) dd_M_putOutside_171 rfl 0 rfl rfl ?_
    obtain ⟨q13, h⟩ := h
    obtain ⟨r14, hr14, h⟩ := h
    refine fx_getP (n := 175) dd_M_putOutside_172 fw_M_27 (by decide) rfl rfl q13.1 q13.2 hr14 ?_
    refine fx_iload (n := 177) dd_M_putOutside_175 3 rfl rfl ?_
    obtain ⟨q15, h⟩ := h
    obtain ⟨q16, h⟩ := h
    refine fx_iald (n := 178) dd_M_putOutside_177 rfl q15.1 q15.2 q16 ?_
    refine fx_istore_n (n := 179) (L' := [(3, _), (0, _), (2, _), (4, _), (5, _)]) dd_M_putOutside_178 rfl (by decide) rfl rfl ?_
    refine fx_iload (n := 181) dd_M_putOutside_179 4 rfl rfl ?_
    refine fx_istore (n := 183) (L' := [(4, _), (3, _), (0, _), (2, _), (5, _)]) dd_M_putOutside_181 (by decide) rfl rfl ?_
    refine fx_goto (n := 39) dd_M_putOutside_183 rfl ?_
    refine fx_sub (L' := [(0, _), (2, _), (3, _), (4, _)]) [2, 3, 1, 0] rfl ?_
    exact h
theorem bk_M_sector_0 {G : fx_G} {S : fx_S} {Q : fx_R → fx_S → Prop} (v0 : Nat) (v1 : Int32) (v2 : Int32) (h : fx_is S v0 5 ∧ (¬ (fx_I S v0 5) = 1 → ((fx_I S v0 5) ≤ 0 → ∀ S2, S2 = fx_setI S v0 5 0 → fx_Go G (0, 0) mm_M_sector 46 [(0, fx_r G v0), (1, .int v1), (2, .int v2), (3, .int (32 * v2))] [] S2 Q) ∧ (¬ (fx_I S v0 5) ≤ 0 → ∀ S3, S3 = fx_setI S v0 5 ((fx_I S v0 5) - 1) → fx_Go G (0, 0) mm_M_sector 46 [(0, fx_r G v0), (1, .int v1), (2, .int v2), (3, .int (32 * v2))] [] S3 Q)) ∧ ((fx_I S v0 5) = 1 → ∀ S4, S4 = fx_setI S v0 5 0 → ∀ S5, S5 = fx_setI S4 v0 4 0 → Q (.inl (some (.int 0))) S5)) :
    fx_Go G (0, 0) mm_M_sector 0 [(0, fx_r G v0), (1, .int v1), (2, .int v2)] [] S Q := by
  refine fx_aload_n (n := 1) dd_M_sector_0 rfl 0 rfl rfl ?_
  obtain ⟨q1, h⟩ := h
  refine fx_getI (n := 4) dd_M_sector_1 fw_M_94 (by decide) rfl rfl q1.1 q1.2 ?_
  refine fx_iconst (n := 5) (v := 1) dd_M_sector_4 (by decide) rfl ?_
  refine fx_icmp_ne (n := 8) (tg := 20) dd_M_sector_5 rfl rfl (fun hc => ?_) (fun hc => ?_)
  · replace h := h.1 hc
    refine fx_aload_n (n := 21) dd_M_sector_20 rfl 0 rfl rfl ?_
    refine fx_aload_n (n := 22) dd_M_sector_21 rfl 0 rfl rfl ?_
    refine fx_getI (n := 25) dd_M_sector_22 fw_M_94 (by decide) rfl rfl q1.1 q1.2 ?_
    refine fx_if_le (n := 28) (tg := 37) dd_M_sector_25 rfl rfl (fun hc => ?_) (fun hc => ?_)
    · replace h := h.1 hc
      refine fx_iconst (n := 38) (v := 0) dd_M_sector_37 (by decide) rfl ?_
      replace h := h _ rfl
      refine fx_putI (n := 41) dd_M_sector_38 fw_M_94 (by decide) rfl rfl rfl rfl q1.1 q1.2 ?_
      refine fx_bipush (n := 43) (v := 32) dd_M_sector_41 (by decide) rfl ?_
      refine fx_iload_n (n := 44) dd_M_sector_43 rfl 2 rfl rfl ?_
      refine fx_imul (n := 45) dd_M_sector_44 rfl ?_
      refine fx_istore_n (n := 46) (L' := [(3, _), (0, _), (1, _), (2, _)]) dd_M_sector_45 rfl (by decide) rfl rfl ?_
      refine fx_sub (L' := [(0, _), (1, _), (2, _), (3, _)]) [1, 2, 3, 0] rfl ?_
      exact h
    · replace h := h.2 hc
      refine fx_aload_n (n := 29) dd_M_sector_28 rfl 0 rfl rfl ?_
      refine fx_getI (n := 32) dd_M_sector_29 fw_M_94 (by decide) rfl rfl q1.1 q1.2 ?_
      refine fx_iconst (n := 33) (v := 1) dd_M_sector_32 (by decide) rfl ?_
      refine fx_isub (n := 34) dd_M_sector_33 rfl ?_
      refine fx_goto (n := 38) dd_M_sector_34 rfl ?_
      replace h := h _ rfl
      refine fx_putI (n := 41) dd_M_sector_38 fw_M_94 (by decide) rfl rfl rfl rfl q1.1 q1.2 ?_
      refine fx_bipush (n := 43) (v := 32) dd_M_sector_41 (by decide) rfl ?_
      refine fx_iload_n (n := 44) dd_M_sector_43 rfl 2 rfl rfl ?_
      refine fx_imul (n := 45) dd_M_sector_44 rfl ?_
      refine fx_istore_n (n := 46) (L' := [(3, _), (0, _), (1, _), (2, _)]) dd_M_sector_45 rfl (by decide) rfl rfl ?_
      refine fx_sub (L' := [(0, _), (1, _), (2, _), (3, _)]) [1, 2, 3, 0] rfl ?_
      exact h
  · replace h := h.2 hc
    refine fx_aload_n (n := 9) dd_M_sector_8 rfl 0 rfl rfl ?_
    refine fx_iconst (n := 10) (v := 0) dd_M_sector_9 (by decide) rfl ?_
    replace h := h _ rfl
    refine fx_putI (n := 13) dd_M_sector_10 fw_M_94 (by decide) rfl rfl rfl rfl q1.1 q1.2 ?_
    refine fx_aload_n (n := 14) dd_M_sector_13 rfl 0 rfl rfl ?_
    refine fx_iconst (n := 15) (v := 0) dd_M_sector_14 (by decide) rfl ?_
    replace h := h _ rfl
    refine fx_putI (n := 18) dd_M_sector_15 fw_M_50 (by decide) rfl rfl rfl rfl q1.1 q1.2 ?_
    refine fx_iconst (n := 19) (v := 0) dd_M_sector_18 (by decide) rfl ?_
    exact fx_zret dd_M_sector_19 rfl rfl h
theorem bk_M_sector_46 {G : fx_G} {S : fx_S} {Q : fx_R → fx_S → Prop} (v0 : Nat) (v1 : Int32) (v2 : Int32) (v3 : Int32) (h : (((32 * v2) + 32) ≤ v3 → Q (.inl (some (.int 1))) S) ∧ (¬ ((32 * v2) + 32) ≤ v3 → fx_is S v0 5 ∧ ∃ r2, fx_P S v0 1 = some r2 ∧ ∃ r3, fx_P S v0 8 = some r3 ∧ fx_is S r3 100 ∧ vp_in v3 (fx_ln S r3) ∧ fx_is S r2 100 ∧ vp_in ((64 * v1) + v3) (fx_ln S r2) ∧ ∀ S8, S8 = fx_setI S r2 (((64 * v1) + v3).toNatClampNeg) (fx_I S r3 (v3.toNatClampNeg)) → fx_Go G (0, 0) mm_M_sector 46 [(0, fx_r G v0), (1, .int v1), (2, .int v2), (3, .int (v3 + Int32.ofInt 1))] [] S8 Q)) :
    fx_Go G (0, 0) mm_M_sector 46 [(0, fx_r G v0), (1, .int v1), (2, .int v2), (3, .int v3)] [] S Q := by
  refine fx_iload_n (n := 47) dd_M_sector_46 rfl 3 rfl rfl ?_
  refine fx_bipush (n := 49) (v := 32) dd_M_sector_47 (by decide) rfl ?_
  refine fx_iload_n (n := 50) dd_M_sector_49 rfl 2 rfl rfl ?_
  refine fx_imul (n := 51) dd_M_sector_50 rfl ?_
  refine fx_bipush (n := 53) (v := 32) dd_M_sector_51 (by decide) rfl ?_
  refine fx_iadd (n := 54) dd_M_sector_53 rfl ?_
  refine fx_icmp_ge (n := 57) (tg := 80) dd_M_sector_54 rfl rfl (fun hc => ?_) (fun hc => ?_)
  · replace h := h.1 hc
    refine fx_iconst (n := 81) (v := 1) dd_M_sector_80 (by decide) rfl ?_
    exact fx_zret dd_M_sector_81 rfl rfl h
  · replace h := h.2 hc
    refine fx_aload_n (n := 58) dd_M_sector_57 rfl 0 rfl rfl ?_
    obtain ⟨q1, h⟩ := h
    obtain ⟨r2, hr2, h⟩ := h
    refine fx_getP (n := 61) dd_M_sector_58 fw_M_7 (by decide) rfl rfl q1.1 q1.2 hr2 ?_
    refine fx_bipush (n := 63) (v := 64) dd_M_sector_61 (by decide) rfl ?_
    refine fx_iload_n (n := 64) dd_M_sector_63 rfl 1 rfl rfl ?_
    refine fx_imul (n := 65) dd_M_sector_64 rfl ?_
    refine fx_iload_n (n := 66) dd_M_sector_65 rfl 3 rfl rfl ?_
    refine fx_iadd (n := 67) dd_M_sector_66 rfl ?_
    refine fx_aload_n (n := 68) dd_M_sector_67 rfl 0 rfl rfl ?_
    obtain ⟨r3, hr3, h⟩ := h
    refine fx_getP (n := 71) dd_M_sector_68 fw_M_24 (by decide) rfl rfl q1.1 q1.2 hr3 ?_
    refine fx_iload_n (n := 72) dd_M_sector_71 rfl 3 rfl rfl ?_
    obtain ⟨q4, h⟩ := h
    obtain ⟨q5, h⟩ := h
    refine fx_iald (n := 73) dd_M_sector_72 rfl q4.1 q4.2 q5 ?_
    obtain ⟨q6, h⟩ := h
    obtain ⟨q7, h⟩ := h
    replace h := h _ rfl
    refine fx_iast (n := 74) dd_M_sector_73 rfl q6.1 q6.2 q7 ?_
    refine fx_iinc (n := 77) (L' := [(3, _), (0, _), (1, _), (2, _)]) dd_M_sector_74 3 rfl rfl (by decide) rfl rfl ?_
    refine fx_goto (n := 46) dd_M_sector_77 rfl ?_
    refine fx_sub (L' := [(0, _), (1, _), (2, _), (3, _)]) [1, 2, 3, 0] rfl ?_
    exact h
theorem bk_M_store_0 {G : fx_G} {S : fx_S} {Q : fx_R → fx_S → Prop} (v0 : Nat) (v1 : Int32) (h : fx_is S v0 5 ∧ ∃ r2, fx_P S v0 8 = some r2 ∧ fx_is S r2 100 ∧ vp_in 8 (fx_ln S r2) ∧ ∀ S5, S5 = fx_setI S r2 ((8 : Int32).toNatClampNeg) ((fx_I S v0 9) - 10) → fx_Go G (0, 0) mm_M_wordAt 0 [(0, fx_r G v0), (1, .int ((64 * v1) + 2))] [] S5 (fx_qi (fun x7 S6 => (¬ x7 = 65535 → fx_Go G (1, 15) mm_M_store 41 [(0, fx_r G v0), (1, .int v1), (2, .int (x7 + 1)), (3, .int 0)] [] S6 Q) ∧ (x7 = 65535 → fx_Go G (1, 15) mm_M_store 41 [(0, fx_r G v0), (1, .int v1), (2, .int 1), (3, .int 0)] [] S6 Q)) Q)) :
    fx_Go G (1, 15) mm_M_store 0 [(0, fx_r G v0), (1, .int v1)] [] S Q := by
  refine fx_aload_n (n := 1) dd_M_store_0 rfl 0 rfl rfl ?_
  obtain ⟨q1, h⟩ := h
  obtain ⟨r2, hr2, h⟩ := h
  refine fx_getP (n := 4) dd_M_store_1 fw_M_24 (by decide) rfl rfl q1.1 q1.2 hr2 ?_
  refine fx_bipush (n := 6) (v := 8) dd_M_store_4 (by decide) rfl ?_
  refine fx_aload_n (n := 7) dd_M_store_6 rfl 0 rfl rfl ?_
  refine fx_getI (n := 10) dd_M_store_7 fw_M_81 (by decide) rfl rfl q1.1 q1.2 ?_
  refine fx_bipush (n := 12) (v := 10) dd_M_store_10 (by decide) rfl ?_
  refine fx_isub (n := 13) dd_M_store_12 rfl ?_
  obtain ⟨q3, h⟩ := h
  obtain ⟨q4, h⟩ := h
  replace h := h _ rfl
  refine fx_iast (n := 14) dd_M_store_13 rfl q3.1 q3.2 q4 ?_
  refine fx_aload_n (n := 15) dd_M_store_14 rfl 0 rfl rfl ?_
  refine fx_bipush (n := 17) (v := 64) dd_M_store_15 (by decide) rfl ?_
  refine fx_iload_n (n := 18) dd_M_store_17 rfl 1 rfl rfl ?_
  refine fx_imul (n := 19) dd_M_store_18 rfl ?_
  refine fx_iconst (n := 20) (v := 2) dd_M_store_19 (by decide) rfl ?_
  refine fx_iadd (n := 21) dd_M_store_20 rfl ?_
  refine fx_callV (n := 24) (vs := [_]) dd_M_store_21 mw_M_wordAt ⟨wd_639, wd_641, wp_34⟩ rfl (by decide) q1.1 q1.2 rfl rfl ⟨Nat.le_of_ble_eq_true rfl, Nat.le_of_ble_eq_true rfl, Nat.le_of_ble_eq_true rfl, fx_nx, rfl⟩ rfl h (fx_qi_k fun x7 S6 h => ?_) (fun _ _ h => h)
  refine fx_istore_n (n := 25) (L' := [(2, _), (0, _), (1, _)]) dd_M_store_24 rfl (by decide) rfl rfl ?_
  refine fx_iload_n (n := 26) dd_M_store_25 rfl 0 rfl rfl ?_
  refine fx_ldc (n := 28) dd_M_store_26 wd_643 rfl ?_
  refine fx_icmp_ne (n := 31) (tg := 35) dd_M_store_28 rfl rfl (fun hc => ?_) (fun hc => ?_)
  · replace h := h.1 hc
    refine fx_iload_n (n := 36) dd_M_store_35 rfl 0 rfl rfl ?_
    refine fx_iconst (n := 37) (v := 1) dd_M_store_36 (by decide) rfl ?_
    refine fx_iadd (n := 38) dd_M_store_37 rfl ?_
    refine fx_istore_n (n := 39) (L' := [(2, _), (0, _), (1, _)]) dd_M_store_38 rfl (by decide) rfl rfl ?_
    refine fx_iconst (n := 40) (v := 0) dd_M_store_39 (by decide) rfl ?_
    refine fx_istore_n (n := 41) (L' := [(3, _), (2, _), (0, _), (1, _)]) dd_M_store_40 rfl (by decide) rfl rfl ?_
    refine fx_sub (L' := [(0, _), (1, _), (2, _), (3, _)]) [2, 3, 1, 0] rfl ?_
    exact h
  · replace h := h.2 hc
    refine fx_iconst (n := 32) (v := 1) dd_M_store_31 (by decide) rfl ?_
    refine fx_goto (n := 38) dd_M_store_32 rfl ?_
    refine fx_istore_n (n := 39) (L' := [(2, _), (0, _), (1, _)]) dd_M_store_38 rfl (by decide) rfl rfl ?_
    refine fx_iconst (n := 40) (v := 0) dd_M_store_39 (by decide) rfl ?_
    refine fx_istore_n (n := 41) (L' := [(3, _), (2, _), (0, _), (1, _)]) dd_M_store_40 rfl (by decide) rfl rfl ?_
    refine fx_sub (L' := [(0, _), (1, _), (2, _), (3, _)]) [2, 3, 1, 0] rfl ?_
    exact h
theorem bk_M_store_41 {G : fx_G} {S : fx_S} {Q : fx_R → fx_S → Prop} (v0 : Nat) (v1 : Int32) (v2 : Int32) (v3 : Int32) (h : (2 ≤ v3 → fx_is S v0 5 ∧ fx_Go G (0, 0) mm_M_sector 0 [(0, fx_r G v0), (1, .int v1), (2, .int 0)] [] S (fx_qi (fun x3 S1 => (x3 = 0 → Q (.inl (some (.int 0))) S1) ∧ (¬ x3 = 0 → fx_is S1 v0 5 ∧ fx_Go G (0, 0) mm_M_sector 0 [(0, fx_r G v0), (1, .int v1), (2, .int 1)] [] S1 (fx_qi (fun x6 S4 => (¬ x6 = 0 → fx_is S4 v0 5 ∧ ∃ r8, fx_P S4 v0 2 = some r8 ∧ ∃ r9, fx_P S4 v0 8 = some r9 ∧ fx_is S4 r9 100 ∧ vp_in 0 (fx_ln S4 r9) ∧ ((fx_I S4 r9 ((0 : Int32).toNatClampNeg)) = 1 → fx_is S4 r8 101 ∧ vp_in v1 (fx_ln S4 r8) ∧ ∀ S14, S14 = fx_setI S4 r8 (v1.toNatClampNeg) (vp_nar .boolean 1) → Q (.inl (some (.int 1))) S14) ∧ (¬ (fx_I S4 r9 ((0 : Int32).toNatClampNeg)) = 1 → ∃ r15, fx_P S4 v0 8 = some r15 ∧ fx_is S4 r15 100 ∧ vp_in 0 (fx_ln S4 r15) ∧ (¬ (fx_I S4 r15 ((0 : Int32).toNatClampNeg)) = 2 → fx_is S4 r8 101 ∧ vp_in v1 (fx_ln S4 r8) ∧ ∀ S20, S20 = fx_setI S4 r8 (v1.toNatClampNeg) (vp_nar .boolean 0) → Q (.inl (some (.int 1))) S20) ∧ ((fx_I S4 r15 ((0 : Int32).toNatClampNeg)) = 2 → fx_is S4 r8 101 ∧ vp_in v1 (fx_ln S4 r8) ∧ ∀ S23, S23 = fx_setI S4 r8 (v1.toNatClampNeg) (vp_nar .boolean 1) → Q (.inl (some (.int 1))) S23))) ∧ (x6 = 0 → Q (.inl (some (.int 0))) S4)) Q))) Q)) ∧ (¬ 2 ≤ v3 → fx_is S v0 5 ∧ ∃ r25, fx_P S v0 8 = some r25 ∧ ∃ r26, fx_P S v0 8 = some r26 ∧ fx_is S r26 100 ∧ vp_in (30 + v3) (fx_ln S r26) ∧ fx_is S r25 100 ∧ vp_in (4 + v3) (fx_ln S r25) ∧ ∀ S31, S31 = fx_setI S r25 ((4 + v3).toNatClampNeg) (fx_I S r26 ((30 + v3).toNatClampNeg)) → ∃ r32, fx_P S31 v0 8 = some r32 ∧ ∃ r33, fx_P S31 v0 8 = some r33 ∧ fx_is S31 r33 100 ∧ vp_in (62 + v3) (fx_ln S31 r33) ∧ fx_is S31 r32 100 ∧ vp_in (6 + v3) (fx_ln S31 r32) ∧ ∀ S38, S38 = fx_setI S31 r32 ((6 + v3).toNatClampNeg) (fx_I S31 r33 ((62 + v3).toNatClampNeg)) → (¬ v3 = 0 → fx_Go G (1, 15) mm_M_store 98 [(0, fx_r G v0), (1, .int v1), (2, .int v2), (3, .int v3)] [.int (v2 / 256)] S38 Q) ∧ (v3 = 0 → fx_Go G (1, 15) mm_M_store 98 [(0, fx_r G v0), (1, .int v1), (2, .int v2), (3, .int v3)] [.int (v2 - v2 / 256 * 256)] S38 Q))) :
    fx_Go G (1, 15) mm_M_store 41 [(0, fx_r G v0), (1, .int v1), (2, .int v2), (3, .int v3)] [] S Q := by
  refine fx_iload_n (n := 42) dd_M_store_41 rfl 3 rfl rfl ?_
  refine fx_iconst (n := 43) (v := 2) dd_M_store_42 (by decide) rfl ?_
  refine fx_icmp_ge (n := 46) (tg := 138) dd_M_store_43 rfl rfl (fun hc => ?_) (fun hc => ?_)
  · replace h := h.1 hc
    refine fx_aload_n (n := 139) dd_M_store_138 rfl 0 rfl rfl ?_
    refine fx_iload_n (n := 140) dd_M_store_139 rfl 1 rfl rfl ?_
    refine fx_iconst (n := 141) (v := 0) dd_M_store_140 (by decide) rfl ?_
    obtain ⟨q2, h⟩ := h
    refine fx_callV (n := 144) (vs := [_, _]) dd_M_store_141 mw_M_sector ⟨wd_644, wd_646, wp_35⟩ rfl (by decide) q2.1 q2.2 rfl rfl ⟨Nat.le_of_ble_eq_true rfl, Nat.le_of_ble_eq_true rfl, Nat.le_of_ble_eq_true rfl, fx_nx, rfl⟩ rfl h (fx_qi_k fun x3 S1 h => ?_) (fun _ _ h => h)
    refine fx_if_eq (n := 147) (tg := 156) dd_M_store_144 rfl rfl (fun hc => ?_) (fun hc => ?_)
    · replace h := h.1 hc
      refine fx_iconst (n := 157) (v := 0) dd_M_store_156 (by decide) rfl ?_
      exact fx_zret dd_M_store_157 rfl rfl h
    · replace h := h.2 hc
      refine fx_aload_n (n := 148) dd_M_store_147 rfl 0 rfl rfl ?_
      refine fx_iload_n (n := 149) dd_M_store_148 rfl 1 rfl rfl ?_
      refine fx_iconst (n := 150) (v := 1) dd_M_store_149 (by decide) rfl ?_
      obtain ⟨q5, h⟩ := h
      refine fx_callV (n := 153) (vs := [_, _]) dd_M_store_150 mw_M_sector ⟨wd_644, wd_646, wp_35⟩ rfl (by decide) q5.1 q5.2 rfl rfl ⟨Nat.le_of_ble_eq_true rfl, Nat.le_of_ble_eq_true rfl, Nat.le_of_ble_eq_true rfl, fx_nx, rfl⟩ rfl h (fx_qi_k fun x6 S4 h => ?_) (fun _ _ h => h)
      refine fx_if_ne (n := 156) (tg := 158) dd_M_store_153 rfl rfl (fun hc => ?_) (fun hc => ?_)
      · replace h := h.1 hc
        refine fx_aload_n (n := 159) dd_M_store_158 rfl 0 rfl rfl ?_
        obtain ⟨q7, h⟩ := h
        obtain ⟨r8, hr8, h⟩ := h
        refine fx_getP (n := 162) dd_M_store_159 fw_M_13 (by decide) rfl rfl q7.1 q7.2 hr8 ?_
        refine fx_iload_n (n := 163) dd_M_store_162 rfl 1 rfl rfl ?_
        refine fx_aload_n (n := 164) dd_M_store_163 rfl 0 rfl rfl ?_
        obtain ⟨r9, hr9, h⟩ := h
        refine fx_getP (n := 167) dd_M_store_164 fw_M_24 (by decide) rfl rfl q7.1 q7.2 hr9 ?_
        refine fx_iconst (n := 168) (v := 0) dd_M_store_167 (by decide) rfl ?_
        obtain ⟨q10, h⟩ := h
        obtain ⟨q11, h⟩ := h
        refine fx_iald (n := 169) dd_M_store_168 rfl q10.1 q10.2 q11 ?_
        refine fx_iconst (n := 170) (v := 1) dd_M_store_169 (by decide) rfl ?_
        refine fx_icmp_eq (n := 173) (tg := 183) dd_M_store_170 rfl rfl (fun hc => ?_) (fun hc => ?_)
        · replace h := h.1 hc
          refine fx_iconst (n := 184) (v := 1) dd_M_store_183 (by decide) rfl ?_
          refine fx_goto (n := 188) dd_M_store_184 rfl ?_
          obtain ⟨q12, h⟩ := h
          obtain ⟨q13, h⟩ := h
          replace h := h _ rfl
          refine fx_zast (n := 189) dd_M_store_188 rfl q12.1 q12.2 q13 ?_
          refine fx_iconst (n := 190) (v := 1) dd_M_store_189 (by decide) rfl ?_
          exact fx_zret dd_M_store_190 rfl rfl h
        · replace h := h.2 hc
          refine fx_aload_n (n := 174) dd_M_store_173 rfl 0 rfl rfl ?_
          obtain ⟨r15, hr15, h⟩ := h
          refine fx_getP (n := 177) dd_M_store_174 fw_M_24 (by decide) rfl rfl q7.1 q7.2 hr15 ?_
          refine fx_iconst (n := 178) (v := 0) dd_M_store_177 (by decide) rfl ?_
          obtain ⟨q16, h⟩ := h
          obtain ⟨q17, h⟩ := h
          refine fx_iald (n := 179) dd_M_store_178 rfl q16.1 q16.2 q17 ?_
          refine fx_iconst (n := 180) (v := 2) dd_M_store_179 (by decide) rfl ?_
          refine fx_icmp_ne (n := 183) (tg := 187) dd_M_store_180 rfl rfl (fun hc => ?_) (fun hc => ?_)
          · replace h := h.1 hc
            refine fx_iconst (n := 188) (v := 0) dd_M_store_187 (by decide) rfl ?_
            obtain ⟨q18, h⟩ := h
            obtain ⟨q19, h⟩ := h
            replace h := h _ rfl
            refine fx_zast (n := 189) dd_M_store_188 rfl q18.1 q18.2 q19 ?_
            refine fx_iconst (n := 190) (v := 1) dd_M_store_189 (by decide) rfl ?_
            exact fx_zret dd_M_store_190 rfl rfl h
          · replace h := h.2 hc
            refine fx_iconst (n := 184) (v := 1) dd_M_store_183 (by decide) rfl ?_
            refine fx_goto (n := 188) dd_M_store_184 rfl ?_
            obtain ⟨q21, h⟩ := h
            obtain ⟨q22, h⟩ := h
            replace h := h _ rfl
            refine fx_zast (n := 189) dd_M_store_188 rfl q21.1 q21.2 q22 ?_
            refine fx_iconst (n := 190) (v := 1) dd_M_store_189 (by decide) rfl ?_
            exact fx_zret dd_M_store_190 rfl rfl h
      · replace h := h.2 hc
        refine fx_iconst (n := 157) (v := 0) dd_M_store_156 (by decide) rfl ?_
        exact fx_zret dd_M_store_157 rfl rfl h
  · replace h := h.2 hc
    refine fx_aload_n (n := 47) dd_M_store_46 rfl 0 rfl rfl ?_
    obtain ⟨q24, h⟩ := h
    obtain ⟨r25, hr25, h⟩ := h
    refine fx_getP (n := 50) dd_M_store_47 fw_M_24 (by decide) rfl rfl q24.1 q24.2 hr25 ?_
    refine fx_iconst (n := 51) (v := 4) dd_M_store_50 (by decide) rfl ?_
    refine fx_iload_n (n := 52) dd_M_store_51 rfl 3 rfl rfl ?_
    refine fx_iadd (n := 53) dd_M_store_52 rfl ?_
    refine fx_aload_n (n := 54) dd_M_store_53 rfl 0 rfl rfl ?_
    obtain ⟨r26, hr26, h⟩ := h
    refine fx_getP (n := 57) dd_M_store_54 fw_M_24 (by decide) rfl rfl q24.1 q24.2 hr26 ?_
    refine fx_bipush (n := 59) (v := 30) dd_M_store_57 (by decide) rfl ?_
    refine fx_iload_n (n := 60) dd_M_store_59 rfl 3 rfl rfl ?_
    refine fx_iadd (n := 61) dd_M_store_60 rfl ?_
    obtain ⟨q27, h⟩ := h
    obtain ⟨q28, h⟩ := h
    refine fx_iald (n := 62) dd_M_store_61 rfl q27.1 q27.2 q28 ?_
    obtain ⟨q29, h⟩ := h
    obtain ⟨q30, h⟩ := h
    replace h := h _ rfl
    refine fx_iast (n := 63) dd_M_store_62 rfl q29.1 q29.2 q30 ?_
    refine fx_aload_n (n := 64) dd_M_store_63 rfl 0 rfl rfl ?_
    obtain ⟨r32, hr32, h⟩ := h
    refine fx_getP (n := 67) dd_M_store_64 fw_M_24 (by decide) rfl rfl q24.1 q24.2 hr32 ?_
    refine fx_bipush (n := 69) (v := 6) dd_M_store_67 (by decide) rfl ?_
    refine fx_iload_n (n := 70) dd_M_store_69 rfl 3 rfl rfl ?_
    refine fx_iadd (n := 71) dd_M_store_70 rfl ?_
    refine fx_aload_n (n := 72) dd_M_store_71 rfl 0 rfl rfl ?_
    obtain ⟨r33, hr33, h⟩ := h
    refine fx_getP (n := 75) dd_M_store_72 fw_M_24 (by decide) rfl rfl q24.1 q24.2 hr33 ?_
    refine fx_bipush (n := 77) (v := 62) dd_M_store_75 (by decide) rfl ?_
    refine fx_iload_n (n := 78) dd_M_store_77 rfl 3 rfl rfl ?_
    refine fx_iadd (n := 79) dd_M_store_78 rfl ?_
    obtain ⟨q34, h⟩ := h
    obtain ⟨q35, h⟩ := h
    refine fx_iald (n := 80) dd_M_store_79 rfl q34.1 q34.2 q35 ?_
    obtain ⟨q36, h⟩ := h
    obtain ⟨q37, h⟩ := h
    replace h := h _ rfl
    refine fx_iast (n := 81) dd_M_store_80 rfl q36.1 q36.2 q37 ?_
    refine fx_iload_n (n := 82) dd_M_store_81 rfl 3 rfl rfl ?_
    refine fx_if_ne (n := 85) (tg := 93) dd_M_store_82 rfl rfl (fun hc => ?_) (fun hc => ?_)
    · replace h := h.1 hc
      refine fx_iload_n (n := 94) dd_M_store_93 rfl 2 rfl rfl ?_
      refine fx_sipush (n := 97) (v := 256) dd_M_store_94 (by decide) rfl ?_
      refine fx_idiv (n := 98) dd_M_store_97 (by decide) rfl ?_
      exact h
    · replace h := h.2 hc
      refine fx_iload_n (n := 86) dd_M_store_85 rfl 2 rfl rfl ?_
      refine fx_sipush (n := 89) (v := 256) dd_M_store_86 (by decide) rfl ?_
      refine fx_irem (n := 90) dd_M_store_89 (by decide) rfl ?_
      refine fx_goto (n := 98) dd_M_store_90 rfl ?_
      exact h
theorem bk_M_store_98 {G : fx_G} {S : fx_S} {Q : fx_R → fx_S → Prop} (v0 : Nat) (v1 : Int32) (v2 : Int32) (v3 : Int32) (z0 : Int32) (h : fx_is S v0 5 ∧ ∃ r2, fx_P S v0 8 = some r2 ∧ fx_is S r2 100 ∧ vp_in (2 + v3) (fx_ln S r2) ∧ ∀ S5, S5 = fx_setI S r2 ((2 + v3).toNatClampNeg) z0 → ∃ r6, fx_P S5 v0 8 = some r6 ∧ fx_is S5 r6 100 ∧ vp_in (30 + v3) (fx_ln S5 r6) ∧ ∀ S9, S9 = fx_setI S5 r6 ((30 + v3).toNatClampNeg) z0 → ∃ r10, fx_P S9 v0 8 = some r10 ∧ fx_is S9 r10 100 ∧ vp_in (62 + v3) (fx_ln S9 r10) ∧ ∀ S13, S13 = fx_setI S9 r10 ((62 + v3).toNatClampNeg) z0 → fx_Go G (1, 15) mm_M_store 41 [(0, fx_r G v0), (1, .int v1), (2, .int v2), (3, .int (v3 + Int32.ofInt 1))] [] S13 Q) :
    fx_Go G (1, 15) mm_M_store 98 [(0, fx_r G v0), (1, .int v1), (2, .int v2), (3, .int v3)] [.int z0] S Q := by
  refine fx_istore (n := 100) (L' := [(4, _), (0, _), (1, _), (2, _), (3, _)]) dd_M_store_98 (by decide) rfl rfl ?_
  refine fx_aload_n (n := 101) dd_M_store_100 rfl 1 rfl rfl ?_
  obtain ⟨q1, h⟩ := h
  obtain ⟨r2, hr2, h⟩ := h
  refine fx_getP (n := 104) dd_M_store_101 fw_M_24 (by decide) rfl rfl q1.1 q1.2 hr2 ?_
  refine fx_iconst (n := 105) (v := 2) dd_M_store_104 (by decide) rfl ?_
  refine fx_iload_n (n := 106) dd_M_store_105 rfl 4 rfl rfl ?_
  refine fx_iadd (n := 107) dd_M_store_106 rfl ?_
  refine fx_iload (n := 109) dd_M_store_107 0 rfl rfl ?_
  obtain ⟨q3, h⟩ := h
  obtain ⟨q4, h⟩ := h
  replace h := h _ rfl
  refine fx_iast (n := 110) dd_M_store_109 rfl q3.1 q3.2 q4 ?_
  refine fx_aload_n (n := 111) dd_M_store_110 rfl 1 rfl rfl ?_
  obtain ⟨r6, hr6, h⟩ := h
  refine fx_getP (n := 114) dd_M_store_111 fw_M_24 (by decide) rfl rfl q1.1 q1.2 hr6 ?_
  refine fx_bipush (n := 116) (v := 30) dd_M_store_114 (by decide) rfl ?_
  refine fx_iload_n (n := 117) dd_M_store_116 rfl 4 rfl rfl ?_
  refine fx_iadd (n := 118) dd_M_store_117 rfl ?_
  refine fx_iload (n := 120) dd_M_store_118 0 rfl rfl ?_
  obtain ⟨q7, h⟩ := h
  obtain ⟨q8, h⟩ := h
  replace h := h _ rfl
  refine fx_iast (n := 121) dd_M_store_120 rfl q7.1 q7.2 q8 ?_
  refine fx_aload_n (n := 122) dd_M_store_121 rfl 1 rfl rfl ?_
  obtain ⟨r10, hr10, h⟩ := h
  refine fx_getP (n := 125) dd_M_store_122 fw_M_24 (by decide) rfl rfl q1.1 q1.2 hr10 ?_
  refine fx_bipush (n := 127) (v := 62) dd_M_store_125 (by decide) rfl ?_
  refine fx_iload_n (n := 128) dd_M_store_127 rfl 4 rfl rfl ?_
  refine fx_iadd (n := 129) dd_M_store_128 rfl ?_
  refine fx_iload (n := 131) dd_M_store_129 0 rfl rfl ?_
  obtain ⟨q11, h⟩ := h
  obtain ⟨q12, h⟩ := h
  replace h := h _ rfl
  refine fx_iast (n := 132) dd_M_store_131 rfl q11.1 q11.2 q12 ?_
  refine fx_iinc (n := 135) (L' := [(3, _), (4, _), (0, _), (1, _), (2, _)]) dd_M_store_132 4 rfl rfl (by decide) rfl rfl ?_
  refine fx_goto (n := 41) dd_M_store_135 rfl ?_
  refine fx_sub (L' := [(0, _), (1, _), (2, _), (3, _)]) [2, 3, 4, 0] rfl ?_
  exact h
theorem bk_M_storeList_0 {G : fx_G} {S : fx_S} {Q : fx_R → fx_S → Prop} (v0 : Nat) (v1 : Int32) (v2 : Int32) (h : fx_is S v0 5 ∧ fx_Go G (0, 0) mm_M_begin 0 [(0, fx_r G v0), (1, .int 2), (2, .int v2)] [] S (fx_qv (fun S1 => fx_is S1 v0 5 ∧ fx_Go G (3, 45) mm_M_putName 0 [(0, fx_r G v0), (1, .int v1)] [] S1 (fx_qv (fun S3 => fx_is S3 v0 5 ∧ fx_Go G (1, 13) mm_M_putList 0 [(0, fx_r G v0)] [] S3 (fx_qv (fun S5 => fx_is S5 v0 5 ∧ fx_Go G (1, 15) mm_M_store 0 [(0, fx_r G v0), (1, .int v1)] [] S5 (fx_qi (fun x9 S7 => narrow .boolean (.int x9) = .int x9 ∧ Q (.inl (some (.int x9))) S7) Q)) Q)) Q)) Q)) :
    fx_Go G (4, 60) mm_M_storeList 0 [(0, fx_r G v0), (1, .int v1), (2, .int v2)] [] S Q := by
  refine fx_aload_n (n := 1) dd_M_storeList_0 rfl 0 rfl rfl ?_
  refine fx_iconst (n := 2) (v := 2) dd_M_storeList_1 (by decide) rfl ?_
  refine fx_iload_n (n := 3) dd_M_storeList_2 rfl 2 rfl rfl ?_
  obtain ⟨q2, h⟩ := h
  refine fx_callV (n := 6) (vs := [_, _]) dd_M_storeList_3 mw_M_begin ⟨wd_623, wd_625, wp_30⟩ rfl (by decide) q2.1 q2.2 rfl rfl ⟨Nat.le_of_ble_eq_true rfl, Nat.le_of_ble_eq_true rfl, Nat.le_of_ble_eq_true rfl, fx_nx, rfl⟩ rfl h (fx_qv_k fun S1 h => ?_) (fun _ _ h => h)
  refine fx_aload_n (n := 7) dd_M_storeList_6 rfl 0 rfl rfl ?_
  refine fx_iload_n (n := 8) dd_M_storeList_7 rfl 1 rfl rfl ?_
  obtain ⟨q4, h⟩ := h
  refine fx_callV (n := 11) (vs := [_]) dd_M_storeList_8 mw_M_putName ⟨wd_785, wd_787, wp_54⟩ rfl (by decide) q4.1 q4.2 rfl rfl ⟨Nat.le_of_ble_eq_true rfl, Nat.le_of_ble_eq_true rfl, Nat.le_of_ble_eq_true rfl, fx_nx, rfl⟩ rfl h (fx_qv_k fun S3 h => ?_) (fun _ _ h => h)
  refine fx_aload_n (n := 12) dd_M_storeList_11 rfl 0 rfl rfl ?_
  obtain ⟨q6, h⟩ := h
  refine fx_callV (n := 15) (vs := []) dd_M_storeList_12 mw_M_putList ⟨wd_627, wd_629, wp_31⟩ rfl (by decide) q6.1 q6.2 rfl rfl ⟨Nat.le_of_ble_eq_true rfl, Nat.le_of_ble_eq_true rfl, Nat.le_of_ble_eq_true rfl, fx_nx, rfl⟩ rfl h (fx_qv_k fun S5 h => ?_) (fun _ _ h => h)
  refine fx_aload_n (n := 16) dd_M_storeList_15 rfl 0 rfl rfl ?_
  refine fx_iload_n (n := 17) dd_M_storeList_16 rfl 1 rfl rfl ?_
  obtain ⟨q8, h⟩ := h
  refine fx_callV (n := 20) (vs := [_]) dd_M_storeList_17 mw_M_store ⟨wd_635, wd_637, wp_33⟩ rfl (by decide) q8.1 q8.2 rfl rfl ⟨Nat.le_of_ble_eq_true rfl, Nat.le_of_ble_eq_true rfl, Nat.le_of_ble_eq_true rfl, fx_nx, rfl⟩ rfl h (fx_qi_k fun x9 S7 h => ?_) (fun _ _ h => h)
  exact fx_zret dd_M_storeList_20 rfl h.1 h.2
theorem bk_M_join_0 {G : fx_G} {S : fx_S} {Q : fx_R → fx_S → Prop} (v0 : Nat) (v1 : Int32) (h : fx_is S v0 5 ∧ fx_Go G (5, 76) mm_M_join 5 [(0, fx_r G v0), (1, .int v1), (2, .int (fx_I S v0 14))] [] S Q) :
    fx_Go G (5, 76) mm_M_join 0 [(0, fx_r G v0), (1, .int v1)] [] S Q := by
  refine fx_aload_n (n := 1) dd_M_join_0 rfl 0 rfl rfl ?_
  obtain ⟨q1, h⟩ := h
  refine fx_getI (n := 4) dd_M_join_1 fw_M_88 (by decide) rfl rfl q1.1 q1.2 ?_
  refine fx_istore_n (n := 5) (L' := [(2, _), (0, _), (1, _)]) dd_M_join_4 rfl (by decide) rfl rfl ?_
  refine fx_sub (L' := [(0, _), (1, _), (2, _)]) [1, 2, 0] rfl ?_
  exact h
theorem bk_M_join_5 {G : fx_G} {S : fx_S} {Q : fx_R → fx_S → Prop} (v0 : Nat) (v1 : Int32) (v2 : Int32) (h : (v2 ≤ 0 → fx_is S v0 5 ∧ ∃ r2, fx_P S v0 15 = some r2 ∧ fx_is S r2 100 ∧ vp_in v2 (fx_ln S r2) ∧ ∀ S5, S5 = fx_setI S r2 (v2.toNatClampNeg) v1 → ∀ S6, S6 = fx_setI S5 v0 14 ((fx_I S5 v0 14) + 1) → Q (.inl none) S6) ∧ (¬ v2 ≤ 0 → fx_is S v0 5 ∧ ∃ r8, fx_P S v0 15 = some r8 ∧ fx_is S r8 100 ∧ vp_in (v2 - 1) (fx_ln S r8) ∧ fx_Go G (4, 61) mm_M_compareNames 0 [(0, fx_r G v0), (1, .int (fx_I S r8 ((v2 - 1).toNatClampNeg))), (2, .int v1)] [] S (fx_qi (fun x12 S11 => (x12 ≤ 0 → fx_is S11 v0 5 ∧ ∃ r14, fx_P S11 v0 15 = some r14 ∧ fx_is S11 r14 100 ∧ vp_in v2 (fx_ln S11 r14) ∧ ∀ S17, S17 = fx_setI S11 r14 (v2.toNatClampNeg) v1 → ∀ S18, S18 = fx_setI S17 v0 14 ((fx_I S17 v0 14) + 1) → Q (.inl none) S18) ∧ (¬ x12 ≤ 0 → fx_is S11 v0 5 ∧ ∃ r20, fx_P S11 v0 15 = some r20 ∧ ∃ r21, fx_P S11 v0 15 = some r21 ∧ fx_is S11 r21 100 ∧ vp_in (v2 - 1) (fx_ln S11 r21) ∧ fx_is S11 r20 100 ∧ vp_in v2 (fx_ln S11 r20) ∧ ∀ S26, S26 = fx_setI S11 r20 (v2.toNatClampNeg) (fx_I S11 r21 ((v2 - 1).toNatClampNeg)) → fx_Go G (5, 76) mm_M_join 5 [(0, fx_r G v0), (1, .int v1), (2, .int (v2 + Int32.ofInt (-1)))] [] S26 Q)) Q))) :
    fx_Go G (5, 76) mm_M_join 5 [(0, fx_r G v0), (1, .int v1), (2, .int v2)] [] S Q := by
  refine fx_iload_n (n := 6) dd_M_join_5 rfl 2 rfl rfl ?_
  refine fx_if_le (n := 9) (tg := 45) dd_M_join_6 rfl rfl (fun hc => ?_) (fun hc => ?_)
  · replace h := h.1 hc
    refine fx_aload_n (n := 46) dd_M_join_45 rfl 0 rfl rfl ?_
    obtain ⟨q1, h⟩ := h
    obtain ⟨r2, hr2, h⟩ := h
    refine fx_getP (n := 49) dd_M_join_46 fw_M_36 (by decide) rfl rfl q1.1 q1.2 hr2 ?_
    refine fx_iload_n (n := 50) dd_M_join_49 rfl 2 rfl rfl ?_
    refine fx_iload_n (n := 51) dd_M_join_50 rfl 1 rfl rfl ?_
    obtain ⟨q3, h⟩ := h
    obtain ⟨q4, h⟩ := h
    replace h := h _ rfl
    refine fx_iast (n := 52) dd_M_join_51 rfl q3.1 q3.2 q4 ?_
    refine fx_aload_n (n := 53) dd_M_join_52 rfl 0 rfl rfl ?_
    refine fx_dup (n := 54) dd_M_join_53 rfl rfl ?_
    refine fx_getI (n := 57) dd_M_join_54 fw_M_88 (by decide) rfl rfl q1.1 q1.2 ?_
    refine fx_iconst (n := 58) (v := 1) dd_M_join_57 (by decide) rfl ?_
    refine fx_iadd (n := 59) dd_M_join_58 rfl ?_
    replace h := h _ rfl
    refine fx_putI (n := 62) dd_M_join_59 fw_M_88 (by decide) rfl rfl rfl rfl q1.1 q1.2 ?_
    exact fx_vret dd_M_join_62 rfl h
  · replace h := h.2 hc
    refine fx_aload_n (n := 10) dd_M_join_9 rfl 0 rfl rfl ?_
    refine fx_aload_n (n := 11) dd_M_join_10 rfl 0 rfl rfl ?_
    obtain ⟨q7, h⟩ := h
    obtain ⟨r8, hr8, h⟩ := h
    refine fx_getP (n := 14) dd_M_join_11 fw_M_36 (by decide) rfl rfl q7.1 q7.2 hr8 ?_
    refine fx_iload_n (n := 15) dd_M_join_14 rfl 2 rfl rfl ?_
    refine fx_iconst (n := 16) (v := 1) dd_M_join_15 (by decide) rfl ?_
    refine fx_isub (n := 17) dd_M_join_16 rfl ?_
    obtain ⟨q9, h⟩ := h
    obtain ⟨q10, h⟩ := h
    refine fx_iald (n := 18) dd_M_join_17 rfl q9.1 q9.2 q10 ?_
    refine fx_iload_n (n := 19) dd_M_join_18 rfl 1 rfl rfl ?_
    refine fx_callV (n := 22) (vs := [_, _]) dd_M_join_19 mw_M_compareNames ⟨wd_777, wd_779, wp_52⟩ rfl (by decide) q7.1 q7.2 rfl rfl ⟨Nat.le_of_ble_eq_true rfl, Nat.le_of_ble_eq_true rfl, Nat.le_of_ble_eq_true rfl, fx_nx, rfl⟩ rfl h (fx_qi_k fun x12 S11 h => ?_) (fun _ _ h => h)
    refine fx_if_le (n := 25) (tg := 45) dd_M_join_22 rfl rfl (fun hc => ?_) (fun hc => ?_)
    · replace h := h.1 hc
      refine fx_aload_n (n := 46) dd_M_join_45 rfl 0 rfl rfl ?_
      obtain ⟨q13, h⟩ := h
      obtain ⟨r14, hr14, h⟩ := h
      refine fx_getP (n := 49) dd_M_join_46 fw_M_36 (by decide) rfl rfl q13.1 q13.2 hr14 ?_
      refine fx_iload_n (n := 50) dd_M_join_49 rfl 2 rfl rfl ?_
      refine fx_iload_n (n := 51) dd_M_join_50 rfl 1 rfl rfl ?_
      obtain ⟨q15, h⟩ := h
      obtain ⟨q16, h⟩ := h
      replace h := h _ rfl
      refine fx_iast (n := 52) dd_M_join_51 rfl q15.1 q15.2 q16 ?_
      refine fx_aload_n (n := 53) dd_M_join_52 rfl 0 rfl rfl ?_
      refine fx_dup (n := 54) dd_M_join_53 rfl rfl ?_
      refine fx_getI (n := 57) dd_M_join_54 fw_M_88 (by decide) rfl rfl q13.1 q13.2 ?_
      refine fx_iconst (n := 58) (v := 1) dd_M_join_57 (by decide) rfl ?_
      refine fx_iadd (n := 59) dd_M_join_58 rfl ?_
      replace h := h _ rfl
      refine fx_putI (n := 62) dd_M_join_59 fw_M_88 (by decide) rfl rfl rfl rfl q13.1 q13.2 ?_
      exact fx_vret dd_M_join_62 rfl h
    · replace h := h.2 hc
      refine fx_aload_n (n := 26) dd_M_join_25 rfl 0 rfl rfl ?_
      obtain ⟨q19, h⟩ := h
      obtain ⟨r20, hr20, h⟩ := h
      refine fx_getP (n := 29) dd_M_join_26 fw_M_36 (by decide) rfl rfl q19.1 q19.2 hr20 ?_
      refine fx_iload_n (n := 30) dd_M_join_29 rfl 2 rfl rfl ?_
      refine fx_aload_n (n := 31) dd_M_join_30 rfl 0 rfl rfl ?_
      obtain ⟨r21, hr21, h⟩ := h
      refine fx_getP (n := 34) dd_M_join_31 fw_M_36 (by decide) rfl rfl q19.1 q19.2 hr21 ?_
      refine fx_iload_n (n := 35) dd_M_join_34 rfl 2 rfl rfl ?_
      refine fx_iconst (n := 36) (v := 1) dd_M_join_35 (by decide) rfl ?_
      refine fx_isub (n := 37) dd_M_join_36 rfl ?_
      obtain ⟨q22, h⟩ := h
      obtain ⟨q23, h⟩ := h
      refine fx_iald (n := 38) dd_M_join_37 rfl q22.1 q22.2 q23 ?_
      obtain ⟨q24, h⟩ := h
      obtain ⟨q25, h⟩ := h
      replace h := h _ rfl
      refine fx_iast (n := 39) dd_M_join_38 rfl q24.1 q24.2 q25 ?_
      refine fx_iinc (n := 42) (L' := [(2, _), (0, _), (1, _)]) dd_M_join_39 2 rfl rfl (by decide) rfl rfl ?_
      refine fx_goto (n := 5) dd_M_join_42 rfl ?_
      refine fx_sub (L' := [(0, _), (1, _), (2, _)]) [1, 2, 0] rfl ?_
      exact h
theorem bk_M_takeList_0 {G : fx_G} {S : fx_S} {Q : fx_R → fx_S → Prop} (v0 : Nat) (v1 : Int32) (v2 : Int32) (h : fx_is S v0 5 ∧ ∀ S2, S2 = fx_setI S v0 14 0 → fx_Go G (3, 50) mm_M_takeList 7 [(0, fx_r G v0), (1, .int v1), (2, .int v2), (3, .int 0)] [] S2 Q) :
    fx_Go G (3, 50) mm_M_takeList 0 [(0, fx_r G v0), (1, .int v1), (2, .int v2)] [] S Q := by
  refine fx_aload_n (n := 1) dd_M_takeList_0 rfl 0 rfl rfl ?_
  refine fx_iconst (n := 2) (v := 0) dd_M_takeList_1 (by decide) rfl ?_
  obtain ⟨q1, h⟩ := h
  replace h := h _ rfl
  refine fx_putI (n := 5) dd_M_takeList_2 fw_M_88 (by decide) rfl rfl rfl rfl q1.1 q1.2 ?_
  refine fx_iconst (n := 6) (v := 0) dd_M_takeList_5 (by decide) rfl ?_
  refine fx_istore_n (n := 7) (L' := [(3, _), (0, _), (1, _), (2, _)]) dd_M_takeList_6 rfl (by decide) rfl rfl ?_
  refine fx_sub (L' := [(0, _), (1, _), (2, _), (3, _)]) [1, 2, 3, 0] rfl ?_
  exact h
theorem bk_M_takeList_7 {G : fx_G} {S : fx_S} {Q : fx_R → fx_S → Prop} (v0 : Nat) (v1 : Int32) (v2 : Int32) (v3 : Int32) (h : fx_is S v0 5 ∧ fx_Go G (2, 34) mm_M_listLength 0 [(0, fx_r G v0), (1, .int v1)] [] S (fx_qi (fun x3 S1 => (x3 ≤ v3 → Q (.inl none) S1) ∧ (¬ x3 ≤ v3 → fx_is S1 v0 5 ∧ fx_Go G (2, 34) mm_M_entry 0 [(0, fx_r G v0), (1, .int v1), (2, .int v3)] [] S1 (fx_qi (fun x6 S4 => (¬ x6 = v2 → fx_is S4 v0 5 ∧ ∃ r8, fx_P S4 v0 15 = some r8 ∧ fx_Go G (2, 34) mm_M_entry 0 [(0, fx_r G v0), (1, .int v1), (2, .int v3)] [] S4 (fx_qi (fun x10 S9 => fx_is S9 r8 100 ∧ vp_in (fx_I S4 v0 14) (fx_ln S9 r8) ∧ ∀ S13, S13 = fx_setI S9 r8 ((fx_I S4 v0 14).toNatClampNeg) x10 → fx_is S13 v0 5 ∧ ∀ S15, S15 = fx_setI S13 v0 14 ((fx_I S13 v0 14) + 1) → fx_Go G (3, 50) mm_M_takeList 7 [(0, fx_r G v0), (1, .int v1), (2, .int v2), (3, .int (v3 + Int32.ofInt 1))] [] S15 Q) Q)) ∧ (x6 = v2 → fx_Go G (3, 50) mm_M_takeList 7 [(0, fx_r G v0), (1, .int v1), (2, .int v2), (3, .int (v3 + Int32.ofInt 1))] [] S4 Q)) Q))) Q)) :
    fx_Go G (3, 50) mm_M_takeList 7 [(0, fx_r G v0), (1, .int v1), (2, .int v2), (3, .int v3)] [] S Q := by
  refine fx_iload_n (n := 8) dd_M_takeList_7 rfl 3 rfl rfl ?_
  refine fx_aload_n (n := 9) dd_M_takeList_8 rfl 0 rfl rfl ?_
  refine fx_iload_n (n := 10) dd_M_takeList_9 rfl 1 rfl rfl ?_
  obtain ⟨q2, h⟩ := h
  refine fx_callV (n := 13) (vs := [_]) dd_M_takeList_10 mw_M_listLength ⟨wd_737, wd_739, wp_42⟩ rfl (by decide) q2.1 q2.2 rfl rfl ⟨Nat.le_of_ble_eq_true rfl, Nat.le_of_ble_eq_true rfl, Nat.le_of_ble_eq_true rfl, fx_nx, rfl⟩ rfl h (fx_qi_k fun x3 S1 h => ?_) (fun _ _ h => h)
  refine fx_icmp_ge (n := 16) (tg := 60) dd_M_takeList_13 rfl rfl (fun hc => ?_) (fun hc => ?_)
  · replace h := h.1 hc
    exact fx_vret dd_M_takeList_60 rfl h
  · replace h := h.2 hc
    refine fx_aload_n (n := 17) dd_M_takeList_16 rfl 0 rfl rfl ?_
    refine fx_iload_n (n := 18) dd_M_takeList_17 rfl 1 rfl rfl ?_
    refine fx_iload_n (n := 19) dd_M_takeList_18 rfl 3 rfl rfl ?_
    obtain ⟨q5, h⟩ := h
    refine fx_callV (n := 22) (vs := [_, _]) dd_M_takeList_19 mw_M_entry ⟨wd_745, wd_747, wp_44⟩ rfl (by decide) q5.1 q5.2 rfl rfl ⟨Nat.le_of_ble_eq_true rfl, Nat.le_of_ble_eq_true rfl, Nat.le_of_ble_eq_true rfl, fx_nx, rfl⟩ rfl h (fx_qi_k fun x6 S4 h => ?_) (fun _ _ h => h)
    refine fx_iload_n (n := 23) dd_M_takeList_22 rfl 2 rfl rfl ?_
    refine fx_icmp_ne (n := 26) (tg := 29) dd_M_takeList_23 rfl rfl (fun hc => ?_) (fun hc => ?_)
    · replace h := h.1 hc
      refine fx_aload_n (n := 30) dd_M_takeList_29 rfl 0 rfl rfl ?_
      obtain ⟨q7, h⟩ := h
      obtain ⟨r8, hr8, h⟩ := h
      refine fx_getP (n := 33) dd_M_takeList_30 fw_M_36 (by decide) rfl rfl q7.1 q7.2 hr8 ?_
      refine fx_aload_n (n := 34) dd_M_takeList_33 rfl 0 rfl rfl ?_
      refine fx_getI (n := 37) dd_M_takeList_34 fw_M_88 (by decide) rfl rfl q7.1 q7.2 ?_
      refine fx_aload_n (n := 38) dd_M_takeList_37 rfl 0 rfl rfl ?_
      refine fx_iload_n (n := 39) dd_M_takeList_38 rfl 1 rfl rfl ?_
      refine fx_iload_n (n := 40) dd_M_takeList_39 rfl 3 rfl rfl ?_
      refine fx_callV (n := 43) (vs := [_, _]) dd_M_takeList_40 mw_M_entry ⟨wd_745, wd_747, wp_44⟩ rfl (by decide) q7.1 q7.2 rfl rfl ⟨Nat.le_of_ble_eq_true rfl, Nat.le_of_ble_eq_true rfl, Nat.le_of_ble_eq_true rfl, fx_nx, rfl⟩ rfl h (fx_qi_k fun x10 S9 h => ?_) (fun _ _ h => h)
      obtain ⟨q11, h⟩ := h
      obtain ⟨q12, h⟩ := h
      replace h := h _ rfl
      refine fx_iast (n := 44) dd_M_takeList_43 rfl q11.1 q11.2 q12 ?_
      refine fx_aload_n (n := 45) dd_M_takeList_44 rfl 0 rfl rfl ?_
      refine fx_dup (n := 46) dd_M_takeList_45 rfl rfl ?_
      obtain ⟨q14, h⟩ := h
      refine fx_getI (n := 49) dd_M_takeList_46 fw_M_88 (by decide) rfl rfl q14.1 q14.2 ?_
      refine fx_iconst (n := 50) (v := 1) dd_M_takeList_49 (by decide) rfl ?_
      refine fx_iadd (n := 51) dd_M_takeList_50 rfl ?_
      replace h := h _ rfl
      refine fx_putI (n := 54) dd_M_takeList_51 fw_M_88 (by decide) rfl rfl rfl rfl q14.1 q14.2 ?_
      refine fx_iinc (n := 57) (L' := [(3, _), (0, _), (1, _), (2, _)]) dd_M_takeList_54 3 rfl rfl (by decide) rfl rfl ?_
      refine fx_goto (n := 7) dd_M_takeList_57 rfl ?_
      refine fx_sub (L' := [(0, _), (1, _), (2, _), (3, _)]) [1, 2, 3, 0] rfl ?_
      exact h
    · replace h := h.2 hc
      refine fx_goto (n := 54) dd_M_takeList_26 rfl ?_
      refine fx_iinc (n := 57) (L' := [(3, _), (0, _), (1, _), (2, _)]) dd_M_takeList_54 3 rfl rfl (by decide) rfl rfl ?_
      refine fx_goto (n := 7) dd_M_takeList_57 rfl ?_
      refine fx_sub (L' := [(0, _), (1, _), (2, _), (3, _)]) [1, 2, 3, 0] rfl ?_
      exact h
theorem bk_M_findDraft_0 {G : fx_G} {S : fx_S} {Q : fx_R → fx_S → Prop} (v0 : Nat) (v1 : Int32) (h : fx_Go G (5, 75) mm_M_findDraft 2 [(0, fx_r G v0), (1, .int v1), (2, .int 0)] [] S Q) :
    fx_Go G (5, 75) mm_M_findDraft 0 [(0, fx_r G v0), (1, .int v1)] [] S Q := by
  refine fx_iconst (n := 1) (v := 0) dd_M_findDraft_0 (by decide) rfl ?_
  refine fx_istore_n (n := 2) (L' := [(2, _), (0, _), (1, _)]) dd_M_findDraft_1 rfl (by decide) rfl rfl ?_
  refine fx_sub (L' := [(0, _), (1, _), (2, _)]) [1, 2, 0] rfl ?_
  exact h
theorem bk_M_findDraft_2 {G : fx_G} {S : fx_S} {Q : fx_R → fx_S → Prop} (v0 : Nat) (v1 : Int32) (v2 : Int32) (h : fx_is S v0 5 ∧ fx_Go G (2, 34) mm_M_listLength 0 [(0, fx_r G v0), (1, .int v1)] [] S (fx_qi (fun x3 S1 => (x3 ≤ v2 → Q (.inl (some (.int (-1)))) S1) ∧ (¬ x3 ≤ v2 → fx_is S1 v0 5 ∧ fx_Go G (2, 34) mm_M_entry 0 [(0, fx_r G v0), (1, .int v1), (2, .int v2)] [] S1 (fx_qi (fun x6 S4 => fx_is S4 v0 5 ∧ fx_Go G (4, 60) mm_M_isDraft 0 [(0, fx_r G v0), (1, .int x6)] [] S4 (fx_qi (fun x9 S7 => (x9 = 0 → fx_Go G (5, 75) mm_M_findDraft 2 [(0, fx_r G v0), (1, .int v1), (2, .int (v2 + Int32.ofInt 1))] [] S7 Q) ∧ (¬ x9 = 0 → fx_is S7 v0 5 ∧ fx_Go G (2, 34) mm_M_entry 0 [(0, fx_r G v0), (1, .int v1), (2, .int v2)] [] S7 (fx_qi (fun x12 S10 => Q (.inl (some (.int x12))) S10) Q))) Q)) Q))) Q)) :
    fx_Go G (5, 75) mm_M_findDraft 2 [(0, fx_r G v0), (1, .int v1), (2, .int v2)] [] S Q := by
  refine fx_iload_n (n := 3) dd_M_findDraft_2 rfl 2 rfl rfl ?_
  refine fx_aload_n (n := 4) dd_M_findDraft_3 rfl 0 rfl rfl ?_
  refine fx_iload_n (n := 5) dd_M_findDraft_4 rfl 1 rfl rfl ?_
  obtain ⟨q2, h⟩ := h
  refine fx_callV (n := 8) (vs := [_]) dd_M_findDraft_5 mw_M_listLength ⟨wd_737, wd_739, wp_42⟩ rfl (by decide) q2.1 q2.2 rfl rfl ⟨Nat.le_of_ble_eq_true rfl, Nat.le_of_ble_eq_true rfl, Nat.le_of_ble_eq_true rfl, fx_nx, rfl⟩ rfl h (fx_qi_k fun x3 S1 h => ?_) (fun _ _ h => h)
  refine fx_icmp_ge (n := 11) (tg := 37) dd_M_findDraft_8 rfl rfl (fun hc => ?_) (fun hc => ?_)
  · replace h := h.1 hc
    refine fx_iconst (n := 38) (v := (-1)) dd_M_findDraft_37 (by decide) rfl ?_
    exact fx_iret dd_M_findDraft_38 rfl h
  · replace h := h.2 hc
    refine fx_aload_n (n := 12) dd_M_findDraft_11 rfl 0 rfl rfl ?_
    refine fx_aload_n (n := 13) dd_M_findDraft_12 rfl 0 rfl rfl ?_
    refine fx_iload_n (n := 14) dd_M_findDraft_13 rfl 1 rfl rfl ?_
    refine fx_iload_n (n := 15) dd_M_findDraft_14 rfl 2 rfl rfl ?_
    obtain ⟨q5, h⟩ := h
    refine fx_callV (n := 18) (vs := [_, _]) dd_M_findDraft_15 mw_M_entry ⟨wd_745, wd_747, wp_44⟩ rfl (by decide) q5.1 q5.2 rfl rfl ⟨Nat.le_of_ble_eq_true rfl, Nat.le_of_ble_eq_true rfl, Nat.le_of_ble_eq_true rfl, fx_nx, rfl⟩ rfl h (fx_qi_k fun x6 S4 h => ?_) (fun _ _ h => h)
    obtain ⟨q8, h⟩ := h
    refine fx_callV (n := 21) (vs := [_]) dd_M_findDraft_18 mw_M_isDraft ⟨wd_749, wd_751, wp_45⟩ rfl (by decide) q8.1 q8.2 rfl rfl ⟨Nat.le_of_ble_eq_true rfl, Nat.le_of_ble_eq_true rfl, Nat.le_of_ble_eq_true rfl, fx_nx, rfl⟩ rfl h (fx_qi_k fun x9 S7 h => ?_) (fun _ _ h => h)
    refine fx_if_eq (n := 24) (tg := 31) dd_M_findDraft_21 rfl rfl (fun hc => ?_) (fun hc => ?_)
    · replace h := h.1 hc
      refine fx_iinc (n := 34) (L' := [(2, _), (0, _), (1, _)]) dd_M_findDraft_31 2 rfl rfl (by decide) rfl rfl ?_
      refine fx_goto (n := 2) dd_M_findDraft_34 rfl ?_
      refine fx_sub (L' := [(0, _), (1, _), (2, _)]) [1, 2, 0] rfl ?_
      exact h
    · replace h := h.2 hc
      refine fx_aload_n (n := 25) dd_M_findDraft_24 rfl 0 rfl rfl ?_
      refine fx_iload_n (n := 26) dd_M_findDraft_25 rfl 1 rfl rfl ?_
      refine fx_iload_n (n := 27) dd_M_findDraft_26 rfl 2 rfl rfl ?_
      obtain ⟨q11, h⟩ := h
      refine fx_callV (n := 30) (vs := [_, _]) dd_M_findDraft_27 mw_M_entry ⟨wd_745, wd_747, wp_44⟩ rfl (by decide) q11.1 q11.2 rfl rfl ⟨Nat.le_of_ble_eq_true rfl, Nat.le_of_ble_eq_true rfl, Nat.le_of_ble_eq_true rfl, fx_nx, rfl⟩ rfl h (fx_qi_k fun x12 S10 h => ?_) (fun _ _ h => h)
      exact fx_iret dd_M_findDraft_30 rfl h
theorem bk_M_type_0 {G : fx_G} {S : fx_S} {Q : fx_R → fx_S → Prop} (v0 : Nat) (v1 : Int32) (h : fx_is S v0 5 ∧ ∀ S2, S2 = fx_setI S v0 0 0 → (v1 < 97 → (v1 < 48 → fx_Go G (0, 0) mm_M_type 34 [(0, fx_r G v0), (1, .int v1)] [.int 0] S2 Q) ∧ (¬ v1 < 48 → (57 < v1 → fx_Go G (0, 0) mm_M_type 34 [(0, fx_r G v0), (1, .int v1)] [.int 0] S2 Q) ∧ (¬ 57 < v1 → fx_Go G (0, 0) mm_M_type 34 [(0, fx_r G v0), (1, .int v1)] [.int 1] S2 Q))) ∧ (¬ v1 < 97 → (v1 ≤ 122 → fx_Go G (0, 0) mm_M_type 34 [(0, fx_r G v0), (1, .int v1)] [.int 1] S2 Q) ∧ (¬ v1 ≤ 122 → (v1 < 48 → fx_Go G (0, 0) mm_M_type 34 [(0, fx_r G v0), (1, .int v1)] [.int 0] S2 Q) ∧ (¬ v1 < 48 → (57 < v1 → fx_Go G (0, 0) mm_M_type 34 [(0, fx_r G v0), (1, .int v1)] [.int 0] S2 Q) ∧ (¬ 57 < v1 → fx_Go G (0, 0) mm_M_type 34 [(0, fx_r G v0), (1, .int v1)] [.int 1] S2 Q))))) :
    fx_Go G (0, 0) mm_M_type 0 [(0, fx_r G v0), (1, .int v1)] [] S Q := by
  refine fx_aload_n (n := 1) dd_M_type_0 rfl 0 rfl rfl ?_
  refine fx_iconst (n := 2) (v := 0) dd_M_type_1 (by decide) rfl ?_
  obtain ⟨q1, h⟩ := h
  replace h := h _ rfl
  refine fx_putI (n := 5) dd_M_type_2 fw_M_54 (by decide) rfl rfl rfl rfl q1.1 q1.2 ?_
  refine fx_iload_n (n := 6) dd_M_type_5 rfl 1 rfl rfl ?_
  refine fx_bipush (n := 8) (v := 97) dd_M_type_6 (by decide) rfl ?_
  refine fx_icmp_lt (n := 11) (tg := 17) dd_M_type_8 rfl rfl (fun hc => ?_) (fun hc => ?_)
  · replace h := h.1 hc
    refine fx_iload_n (n := 18) dd_M_type_17 rfl 1 rfl rfl ?_
    refine fx_bipush (n := 20) (v := 48) dd_M_type_18 (by decide) rfl ?_
    refine fx_icmp_lt (n := 23) (tg := 33) dd_M_type_20 rfl rfl (fun hc => ?_) (fun hc => ?_)
    · replace h := h.1 hc
      refine fx_iconst (n := 34) (v := 0) dd_M_type_33 (by decide) rfl ?_
      exact h
    · replace h := h.2 hc
      refine fx_iload_n (n := 24) dd_M_type_23 rfl 1 rfl rfl ?_
      refine fx_bipush (n := 26) (v := 57) dd_M_type_24 (by decide) rfl ?_
      refine fx_icmp_gt (n := 29) (tg := 33) dd_M_type_26 rfl rfl (fun hc => ?_) (fun hc => ?_)
      · replace h := h.1 hc
        refine fx_iconst (n := 34) (v := 0) dd_M_type_33 (by decide) rfl ?_
        exact h
      · replace h := h.2 hc
        refine fx_iconst (n := 30) (v := 1) dd_M_type_29 (by decide) rfl ?_
        refine fx_goto (n := 34) dd_M_type_30 rfl ?_
        exact h
  · replace h := h.2 hc
    refine fx_iload_n (n := 12) dd_M_type_11 rfl 1 rfl rfl ?_
    refine fx_bipush (n := 14) (v := 122) dd_M_type_12 (by decide) rfl ?_
    refine fx_icmp_le (n := 17) (tg := 29) dd_M_type_14 rfl rfl (fun hc => ?_) (fun hc => ?_)
    · replace h := h.1 hc
      refine fx_iconst (n := 30) (v := 1) dd_M_type_29 (by decide) rfl ?_
      refine fx_goto (n := 34) dd_M_type_30 rfl ?_
      exact h
    · replace h := h.2 hc
      refine fx_iload_n (n := 18) dd_M_type_17 rfl 1 rfl rfl ?_
      refine fx_bipush (n := 20) (v := 48) dd_M_type_18 (by decide) rfl ?_
      refine fx_icmp_lt (n := 23) (tg := 33) dd_M_type_20 rfl rfl (fun hc => ?_) (fun hc => ?_)
      · replace h := h.1 hc
        refine fx_iconst (n := 34) (v := 0) dd_M_type_33 (by decide) rfl ?_
        exact h
      · replace h := h.2 hc
        refine fx_iload_n (n := 24) dd_M_type_23 rfl 1 rfl rfl ?_
        refine fx_bipush (n := 26) (v := 57) dd_M_type_24 (by decide) rfl ?_
        refine fx_icmp_gt (n := 29) (tg := 33) dd_M_type_26 rfl rfl (fun hc => ?_) (fun hc => ?_)
        · replace h := h.1 hc
          refine fx_iconst (n := 34) (v := 0) dd_M_type_33 (by decide) rfl ?_
          exact h
        · replace h := h.2 hc
          refine fx_iconst (n := 30) (v := 1) dd_M_type_29 (by decide) rfl ?_
          refine fx_goto (n := 34) dd_M_type_30 rfl ?_
          exact h
theorem bk_M_type_34 {G : fx_G} {S : fx_S} {Q : fx_R → fx_S → Prop} (v0 : Nat) (v1 : Int32) (z0 : Int32) (h : (z0 = 0 → Q (.inl (some (.int 0))) S) ∧ (¬ z0 = 0 → fx_is S v0 5 ∧ (¬ (fx_I S v0 6) = 8 → ∃ r2, fx_P S v0 7 = some r2 ∧ fx_is S r2 102 ∧ vp_in (fx_I S v0 6) (fx_ln S r2) ∧ ∀ S5, S5 = fx_setI S r2 ((fx_I S v0 6).toNatClampNeg) (vp_nar .char v1) → ∀ S6, S6 = fx_setI S5 v0 6 ((fx_I S5 v0 6) + 1) → Q (.inl (some (.int 1))) S6) ∧ ((fx_I S v0 6) = 8 → Q (.inl (some (.int 0))) S))) :
    fx_Go G (0, 0) mm_M_type 34 [(0, fx_r G v0), (1, .int v1)] [.int z0] S Q := by
  refine fx_istore_n (n := 35) (L' := [(2, _), (0, _), (1, _)]) dd_M_type_34 rfl (by decide) rfl rfl ?_
  refine fx_iload_n (n := 36) dd_M_type_35 rfl 0 rfl rfl ?_
  refine fx_if_eq (n := 39) (tg := 48) dd_M_type_36 rfl rfl (fun hc => ?_) (fun hc => ?_)
  · replace h := h.1 hc
    refine fx_iconst (n := 49) (v := 0) dd_M_type_48 (by decide) rfl ?_
    exact fx_zret dd_M_type_49 rfl rfl h
  · replace h := h.2 hc
    refine fx_aload_n (n := 40) dd_M_type_39 rfl 1 rfl rfl ?_
    obtain ⟨q1, h⟩ := h
    refine fx_getI (n := 43) dd_M_type_40 fw_M_78 (by decide) rfl rfl q1.1 q1.2 ?_
    refine fx_bipush (n := 45) (v := 8) dd_M_type_43 (by decide) rfl ?_
    refine fx_icmp_ne (n := 48) (tg := 50) dd_M_type_45 rfl rfl (fun hc => ?_) (fun hc => ?_)
    · replace h := h.1 hc
      refine fx_aload_n (n := 51) dd_M_type_50 rfl 1 rfl rfl ?_
      obtain ⟨r2, hr2, h⟩ := h
      refine fx_getP (n := 54) dd_M_type_51 fw_M_20 (by decide) rfl rfl q1.1 q1.2 hr2 ?_
      refine fx_aload_n (n := 55) dd_M_type_54 rfl 1 rfl rfl ?_
      refine fx_getI (n := 58) dd_M_type_55 fw_M_78 (by decide) rfl rfl q1.1 q1.2 ?_
      refine fx_iload_n (n := 59) dd_M_type_58 rfl 2 rfl rfl ?_
      obtain ⟨q3, h⟩ := h
      obtain ⟨q4, h⟩ := h
      replace h := h _ rfl
      refine fx_cast (n := 60) dd_M_type_59 rfl q3.1 q3.2 q4 ?_
      refine fx_aload_n (n := 61) dd_M_type_60 rfl 1 rfl rfl ?_
      refine fx_dup (n := 62) dd_M_type_61 rfl rfl ?_
      refine fx_getI (n := 65) dd_M_type_62 fw_M_78 (by decide) rfl rfl q1.1 q1.2 ?_
      refine fx_iconst (n := 66) (v := 1) dd_M_type_65 (by decide) rfl ?_
      refine fx_iadd (n := 67) dd_M_type_66 rfl ?_
      replace h := h _ rfl
      refine fx_putI (n := 70) dd_M_type_67 fw_M_78 (by decide) rfl rfl rfl rfl q1.1 q1.2 ?_
      refine fx_iconst (n := 71) (v := 1) dd_M_type_70 (by decide) rfl ?_
      exact fx_zret dd_M_type_71 rfl rfl h
    · replace h := h.2 hc
      refine fx_iconst (n := 49) (v := 0) dd_M_type_48 (by decide) rfl ?_
      exact fx_zret dd_M_type_49 rfl rfl h
theorem bk_M_makeRecord_0 {G : fx_G} {S : fx_S} {Q : fx_R → fx_S → Prop} (v0 : Nat) (v1 : Int32) (v2 : Int32) (h : fx_is S v0 5 ∧ (¬ (fx_I S v0 4) = 0 → fx_Go G (1, 15) mm_M_isKind 0 [(0, fx_r G v0), (1, .int v1), (2, .int 2)] [] S (fx_qi (fun x3 S2 => (x3 = 0 → fx_is S2 v0 5 ∧ fx_Go G (0, 0) mm_M_refuse 0 [(0, fx_r G v0), (1, .int 2)] [] S2 (fx_qi (fun x6 S4 => Q (.inl (some (.int x6))) S4) Q)) ∧ (¬ x3 = 0 → fx_is S2 v0 5 ∧ (¬ (fx_I S2 v0 6) = 0 → fx_Go G (5, 75) mm_M_findDraft 0 [(0, fx_r G v0), (1, .int v1)] [] S2 (fx_qi (fun x9 S8 => (x9 < 0 → fx_Go G (6, 90) mm_M_makeRecord 51 [(0, fx_r G v0), (1, .int v1), (2, .int v2), (3, .int 0)] [] S8 Q) ∧ (¬ x9 < 0 → fx_is S8 v0 5 ∧ fx_Go G (0, 0) mm_M_refuse 0 [(0, fx_r G v0), (1, .int 2)] [] S8 (fx_qi (fun x12 S10 => Q (.inl (some (.int x12))) S10) Q))) Q)) ∧ ((fx_I S2 v0 6) = 0 → fx_Go G (0, 0) mm_M_refuse 0 [(0, fx_r G v0), (1, .int 2)] [] S2 (fx_qi (fun x14 S13 => Q (.inl (some (.int x14))) S13) Q)))) Q)) ∧ ((fx_I S v0 4) = 0 → fx_Go G (0, 0) mm_M_refuse 0 [(0, fx_r G v0), (1, .int 1)] [] S (fx_qi (fun x16 S15 => Q (.inl (some (.int x16))) S15) Q))) :
    fx_Go G (6, 90) mm_M_makeRecord 0 [(0, fx_r G v0), (1, .int v1), (2, .int v2)] [] S Q := by
  refine fx_aload_n (n := 1) dd_M_makeRecord_0 rfl 0 rfl rfl ?_
  obtain ⟨q1, h⟩ := h
  refine fx_getI (n := 4) dd_M_makeRecord_1 fw_M_50 (by decide) rfl rfl q1.1 q1.2 ?_
  refine fx_if_ne (n := 7) (tg := 13) dd_M_makeRecord_4 rfl rfl (fun hc => ?_) (fun hc => ?_)
  · replace h := h.1 hc
    refine fx_aload_n (n := 14) dd_M_makeRecord_13 rfl 0 rfl rfl ?_
    refine fx_iload_n (n := 15) dd_M_makeRecord_14 rfl 1 rfl rfl ?_
    refine fx_iconst (n := 16) (v := 2) dd_M_makeRecord_15 (by decide) rfl ?_
    refine fx_callV (n := 19) (vs := [_, _]) dd_M_makeRecord_16 mw_M_isKind ⟨wd_721, wd_723, wp_38⟩ rfl (by decide) q1.1 q1.2 rfl rfl ⟨Nat.le_of_ble_eq_true rfl, Nat.le_of_ble_eq_true rfl, Nat.le_of_ble_eq_true rfl, fx_nx, rfl⟩ rfl h (fx_qi_k fun x3 S2 h => ?_) (fun _ _ h => h)
    refine fx_if_eq (n := 22) (tg := 29) dd_M_makeRecord_19 rfl rfl (fun hc => ?_) (fun hc => ?_)
    · replace h := h.1 hc
      refine fx_aload_n (n := 30) dd_M_makeRecord_29 rfl 0 rfl rfl ?_
      refine fx_iconst (n := 31) (v := 2) dd_M_makeRecord_30 (by decide) rfl ?_
      obtain ⟨q5, h⟩ := h
      refine fx_callV (n := 34) (vs := [_]) dd_M_makeRecord_31 mw_M_refuse ⟨wd_717, wd_719, wp_37⟩ rfl (by decide) q5.1 q5.2 rfl rfl ⟨Nat.le_of_ble_eq_true rfl, Nat.le_of_ble_eq_true rfl, Nat.le_of_ble_eq_true rfl, fx_nx, rfl⟩ rfl h (fx_qi_k fun x6 S4 h => ?_) (fun _ _ h => h)
      exact fx_iret dd_M_makeRecord_34 rfl h
    · replace h := h.2 hc
      refine fx_aload_n (n := 23) dd_M_makeRecord_22 rfl 0 rfl rfl ?_
      obtain ⟨q7, h⟩ := h
      refine fx_getI (n := 26) dd_M_makeRecord_23 fw_M_78 (by decide) rfl rfl q7.1 q7.2 ?_
      refine fx_if_ne (n := 29) (tg := 35) dd_M_makeRecord_26 rfl rfl (fun hc => ?_) (fun hc => ?_)
      · replace h := h.1 hc
        refine fx_aload_n (n := 36) dd_M_makeRecord_35 rfl 0 rfl rfl ?_
        refine fx_iload_n (n := 37) dd_M_makeRecord_36 rfl 1 rfl rfl ?_
        refine fx_callV (n := 40) (vs := [_]) dd_M_makeRecord_37 mw_M_findDraft ⟨wd_733, wd_735, wp_41⟩ rfl (by decide) q7.1 q7.2 rfl rfl ⟨Nat.le_of_ble_eq_true rfl, Nat.le_of_ble_eq_true rfl, Nat.le_of_ble_eq_true rfl, fx_nx, rfl⟩ rfl h (fx_qi_k fun x9 S8 h => ?_) (fun _ _ h => h)
        refine fx_if_lt (n := 43) (tg := 49) dd_M_makeRecord_40 rfl rfl (fun hc => ?_) (fun hc => ?_)
        · replace h := h.1 hc
          refine fx_iconst (n := 50) (v := 0) dd_M_makeRecord_49 (by decide) rfl ?_
          refine fx_istore_n (n := 51) (L' := [(3, _), (0, _), (1, _), (2, _)]) dd_M_makeRecord_50 rfl (by decide) rfl rfl ?_
          refine fx_sub (L' := [(0, _), (1, _), (2, _), (3, _)]) [1, 2, 3, 0] rfl ?_
          exact h
        · replace h := h.2 hc
          refine fx_aload_n (n := 44) dd_M_makeRecord_43 rfl 0 rfl rfl ?_
          refine fx_iconst (n := 45) (v := 2) dd_M_makeRecord_44 (by decide) rfl ?_
          obtain ⟨q11, h⟩ := h
          refine fx_callV (n := 48) (vs := [_]) dd_M_makeRecord_45 mw_M_refuse ⟨wd_717, wd_719, wp_37⟩ rfl (by decide) q11.1 q11.2 rfl rfl ⟨Nat.le_of_ble_eq_true rfl, Nat.le_of_ble_eq_true rfl, Nat.le_of_ble_eq_true rfl, fx_nx, rfl⟩ rfl h (fx_qi_k fun x12 S10 h => ?_) (fun _ _ h => h)
          exact fx_iret dd_M_makeRecord_48 rfl h
      · replace h := h.2 hc
        refine fx_aload_n (n := 30) dd_M_makeRecord_29 rfl 0 rfl rfl ?_
        refine fx_iconst (n := 31) (v := 2) dd_M_makeRecord_30 (by decide) rfl ?_
        refine fx_callV (n := 34) (vs := [_]) dd_M_makeRecord_31 mw_M_refuse ⟨wd_717, wd_719, wp_37⟩ rfl (by decide) q7.1 q7.2 rfl rfl ⟨Nat.le_of_ble_eq_true rfl, Nat.le_of_ble_eq_true rfl, Nat.le_of_ble_eq_true rfl, fx_nx, rfl⟩ rfl h (fx_qi_k fun x14 S13 h => ?_) (fun _ _ h => h)
        exact fx_iret dd_M_makeRecord_34 rfl h
  · replace h := h.2 hc
    refine fx_aload_n (n := 8) dd_M_makeRecord_7 rfl 0 rfl rfl ?_
    refine fx_iconst (n := 9) (v := 1) dd_M_makeRecord_8 (by decide) rfl ?_
    refine fx_callV (n := 12) (vs := [_]) dd_M_makeRecord_9 mw_M_refuse ⟨wd_717, wd_719, wp_37⟩ rfl (by decide) q1.1 q1.2 rfl rfl ⟨Nat.le_of_ble_eq_true rfl, Nat.le_of_ble_eq_true rfl, Nat.le_of_ble_eq_true rfl, fx_nx, rfl⟩ rfl h (fx_qi_k fun x16 S15 h => ?_) (fun _ _ h => h)
    exact fx_iret dd_M_makeRecord_12 rfl h
theorem bk_M_makeRecord_51 {G : fx_G} {S : fx_S} {Q : fx_R → fx_S → Prop} (v0 : Nat) (v1 : Int32) (v2 : Int32) (v3 : Int32) (h : (12 ≤ v3 → (¬ v3 = 12 → (v2 = 0 → fx_Go G (6, 90) mm_M_makeRecord 94 [(0, fx_r G v0), (1, .int v1), (2, .int v2), (3, .int v3)] [.int 2, fx_r G v0] S Q) ∧ (¬ v2 = 0 → fx_Go G (6, 90) mm_M_makeRecord 94 [(0, fx_r G v0), (1, .int v1), (2, .int v2), (3, .int v3)] [.int 1, fx_r G v0] S Q)) ∧ (v3 = 12 → fx_is S v0 5 ∧ fx_Go G (0, 0) mm_M_refuse 0 [(0, fx_r G v0), (1, .int 3)] [] S (fx_qi (fun x3 S1 => Q (.inl (some (.int x3))) S1) Q))) ∧ (¬ 12 ≤ v3 → fx_is S v0 5 ∧ ∃ r5, fx_P S v0 2 = some r5 ∧ fx_is S r5 101 ∧ vp_in v3 (fx_ln S r5) ∧ ((fx_I S r5 (v3.toNatClampNeg)) = 0 → (¬ v3 = 12 → (v2 = 0 → fx_Go G (6, 90) mm_M_makeRecord 94 [(0, fx_r G v0), (1, .int v1), (2, .int v2), (3, .int v3)] [.int 2, fx_r G v0] S Q) ∧ (¬ v2 = 0 → fx_Go G (6, 90) mm_M_makeRecord 94 [(0, fx_r G v0), (1, .int v1), (2, .int v2), (3, .int v3)] [.int 1, fx_r G v0] S Q)) ∧ (v3 = 12 → fx_Go G (0, 0) mm_M_refuse 0 [(0, fx_r G v0), (1, .int 3)] [] S (fx_qi (fun x9 S8 => Q (.inl (some (.int x9))) S8) Q))) ∧ (¬ (fx_I S r5 (v3.toNatClampNeg)) = 0 → fx_Go G (6, 90) mm_M_makeRecord 51 [(0, fx_r G v0), (1, .int v1), (2, .int v2), (3, .int (v3 + Int32.ofInt 1))] [] S Q))) :
    fx_Go G (6, 90) mm_M_makeRecord 51 [(0, fx_r G v0), (1, .int v1), (2, .int v2), (3, .int v3)] [] S Q := by
  refine fx_iload_n (n := 52) dd_M_makeRecord_51 rfl 3 rfl rfl ?_
  refine fx_bipush (n := 54) (v := 12) dd_M_makeRecord_52 (by decide) rfl ?_
  refine fx_icmp_ge (n := 57) (tg := 72) dd_M_makeRecord_54 rfl rfl (fun hc => ?_) (fun hc => ?_)
  · replace h := h.1 hc
    refine fx_iload_n (n := 73) dd_M_makeRecord_72 rfl 3 rfl rfl ?_
    refine fx_bipush (n := 75) (v := 12) dd_M_makeRecord_73 (by decide) rfl ?_
    refine fx_icmp_ne (n := 78) (tg := 84) dd_M_makeRecord_75 rfl rfl (fun hc => ?_) (fun hc => ?_)
    · replace h := h.1 hc
      refine fx_aload_n (n := 85) dd_M_makeRecord_84 rfl 0 rfl rfl ?_
      refine fx_iload_n (n := 86) dd_M_makeRecord_85 rfl 2 rfl rfl ?_
      refine fx_if_eq (n := 89) (tg := 93) dd_M_makeRecord_86 rfl rfl (fun hc => ?_) (fun hc => ?_)
      · replace h := h.1 hc
        refine fx_iconst (n := 94) (v := 2) dd_M_makeRecord_93 (by decide) rfl ?_
        exact h
      · replace h := h.2 hc
        refine fx_iconst (n := 90) (v := 1) dd_M_makeRecord_89 (by decide) rfl ?_
        refine fx_goto (n := 94) dd_M_makeRecord_90 rfl ?_
        exact h
    · replace h := h.2 hc
      refine fx_aload_n (n := 79) dd_M_makeRecord_78 rfl 0 rfl rfl ?_
      refine fx_iconst (n := 80) (v := 3) dd_M_makeRecord_79 (by decide) rfl ?_
      obtain ⟨q2, h⟩ := h
      refine fx_callV (n := 83) (vs := [_]) dd_M_makeRecord_80 mw_M_refuse ⟨wd_717, wd_719, wp_37⟩ rfl (by decide) q2.1 q2.2 rfl rfl ⟨Nat.le_of_ble_eq_true rfl, Nat.le_of_ble_eq_true rfl, Nat.le_of_ble_eq_true rfl, fx_nx, rfl⟩ rfl h (fx_qi_k fun x3 S1 h => ?_) (fun _ _ h => h)
      exact fx_iret dd_M_makeRecord_83 rfl h
  · replace h := h.2 hc
    refine fx_aload_n (n := 58) dd_M_makeRecord_57 rfl 0 rfl rfl ?_
    obtain ⟨q4, h⟩ := h
    obtain ⟨r5, hr5, h⟩ := h
    refine fx_getP (n := 61) dd_M_makeRecord_58 fw_M_13 (by decide) rfl rfl q4.1 q4.2 hr5 ?_
    refine fx_iload_n (n := 62) dd_M_makeRecord_61 rfl 3 rfl rfl ?_
    obtain ⟨q6, h⟩ := h
    obtain ⟨q7, h⟩ := h
    refine fx_zald (n := 63) dd_M_makeRecord_62 rfl q6.1 q6.2 q7 ?_
    refine fx_if_eq (n := 66) (tg := 72) dd_M_makeRecord_63 rfl rfl (fun hc => ?_) (fun hc => ?_)
    · replace h := h.1 hc
      refine fx_iload_n (n := 73) dd_M_makeRecord_72 rfl 3 rfl rfl ?_
      refine fx_bipush (n := 75) (v := 12) dd_M_makeRecord_73 (by decide) rfl ?_
      refine fx_icmp_ne (n := 78) (tg := 84) dd_M_makeRecord_75 rfl rfl (fun hc => ?_) (fun hc => ?_)
      · replace h := h.1 hc
        refine fx_aload_n (n := 85) dd_M_makeRecord_84 rfl 0 rfl rfl ?_
        refine fx_iload_n (n := 86) dd_M_makeRecord_85 rfl 2 rfl rfl ?_
        refine fx_if_eq (n := 89) (tg := 93) dd_M_makeRecord_86 rfl rfl (fun hc => ?_) (fun hc => ?_)
        · replace h := h.1 hc
          refine fx_iconst (n := 94) (v := 2) dd_M_makeRecord_93 (by decide) rfl ?_
          exact h
        · replace h := h.2 hc
          refine fx_iconst (n := 90) (v := 1) dd_M_makeRecord_89 (by decide) rfl ?_
          refine fx_goto (n := 94) dd_M_makeRecord_90 rfl ?_
          exact h
      · replace h := h.2 hc
        refine fx_aload_n (n := 79) dd_M_makeRecord_78 rfl 0 rfl rfl ?_
        refine fx_iconst (n := 80) (v := 3) dd_M_makeRecord_79 (by decide) rfl ?_
        refine fx_callV (n := 83) (vs := [_]) dd_M_makeRecord_80 mw_M_refuse ⟨wd_717, wd_719, wp_37⟩ rfl (by decide) q4.1 q4.2 rfl rfl ⟨Nat.le_of_ble_eq_true rfl, Nat.le_of_ble_eq_true rfl, Nat.le_of_ble_eq_true rfl, fx_nx, rfl⟩ rfl h (fx_qi_k fun x9 S8 h => ?_) (fun _ _ h => h)
        exact fx_iret dd_M_makeRecord_83 rfl h
    · replace h := h.2 hc
      refine fx_iinc (n := 69) (L' := [(3, _), (0, _), (1, _), (2, _)]) dd_M_makeRecord_66 3 rfl rfl (by decide) rfl rfl ?_
      refine fx_goto (n := 51) dd_M_makeRecord_69 rfl ?_
      refine fx_sub (L' := [(0, _), (1, _), (2, _), (3, _)]) [1, 2, 3, 0] rfl ?_
      exact h
theorem bk_M_makeRecord_94 {G : fx_G} {S : fx_S} {Q : fx_R → fx_S → Prop} (v0 : Nat) (v1 : Int32) (v2 : Int32) (v3 : Int32) (z0 : Int32) (z1 : Nat) (h : fx_is S z1 5 ∧ fx_Go G (0, 0) mm_M_begin 0 [(0, fx_r G z1), (1, .int z0), (2, .int v1)] [] S (fx_qv (fun S1 => fx_is S1 v0 5 ∧ fx_Go G (1, 13) mm_M_putDraft 0 [(0, fx_r G v0)] [] S1 (fx_qv (fun S3 => fx_is S3 v0 5 ∧ ∀ S6, S6 = fx_setI S3 v0 14 0 → (v2 = 0 → fx_Go G (1, 13) mm_M_putList 0 [(0, fx_r G v0)] [] S6 (fx_qv (fun S7 => fx_Go G (6, 90) mm_M_makeRecord 123 [(0, fx_r G v0), (1, .int v1), (3, .int v3)] [] S7 Q) Q)) ∧ (¬ v2 = 0 → fx_Go G (1, 13) mm_M_putInside 0 [(0, fx_r G v0), (1, .int 0)] [] S6 (fx_qv (fun S8 => fx_Go G (6, 90) mm_M_makeRecord 123 [(0, fx_r G v0), (1, .int v1), (3, .int v3)] [] S8 Q) Q))) Q)) Q)) :
    fx_Go G (6, 90) mm_M_makeRecord 94 [(0, fx_r G v0), (1, .int v1), (2, .int v2), (3, .int v3)] [.int z0, fx_r G z1] S Q := by
  refine fx_iload_n (n := 95) dd_M_makeRecord_94 rfl 1 rfl rfl ?_
  obtain ⟨q2, h⟩ := h
  refine fx_callV (n := 98) (vs := [_, _]) dd_M_makeRecord_95 mw_M_begin ⟨wd_623, wd_625, wp_30⟩ rfl (by decide) q2.1 q2.2 rfl rfl ⟨Nat.le_of_ble_eq_true rfl, Nat.le_of_ble_eq_true rfl, Nat.le_of_ble_eq_true rfl, fx_nx, rfl⟩ rfl h (fx_qv_k fun S1 h => ?_) (fun _ _ h => h)
  refine fx_aload_n (n := 99) dd_M_makeRecord_98 rfl 0 rfl rfl ?_
  obtain ⟨q4, h⟩ := h
  refine fx_callV (n := 102) (vs := []) dd_M_makeRecord_99 mw_M_putDraft ⟨wd_761, wd_763, wp_48⟩ rfl (by decide) q4.1 q4.2 rfl rfl ⟨Nat.le_of_ble_eq_true rfl, Nat.le_of_ble_eq_true rfl, Nat.le_of_ble_eq_true rfl, fx_nx, rfl⟩ rfl h (fx_qv_k fun S3 h => ?_) (fun _ _ h => h)
  refine fx_aload_n (n := 103) dd_M_makeRecord_102 rfl 0 rfl rfl ?_
  refine fx_iconst (n := 104) (v := 0) dd_M_makeRecord_103 (by decide) rfl ?_
  obtain ⟨q5, h⟩ := h
  replace h := h _ rfl
  refine fx_putI (n := 107) dd_M_makeRecord_104 fw_M_88 (by decide) rfl rfl rfl rfl q5.1 q5.2 ?_
  refine fx_iload_n (n := 108) dd_M_makeRecord_107 rfl 2 rfl rfl ?_
  refine fx_if_eq (n := 111) (tg := 119) dd_M_makeRecord_108 rfl rfl (fun hc => ?_) (fun hc => ?_)
  · replace h := h.1 hc
    refine fx_aload_n (n := 120) dd_M_makeRecord_119 rfl 0 rfl rfl ?_
    refine fx_callV (n := 123) (vs := []) dd_M_makeRecord_120 mw_M_putList ⟨wd_627, wd_629, wp_31⟩ rfl (by decide) q5.1 q5.2 rfl rfl ⟨Nat.le_of_ble_eq_true rfl, Nat.le_of_ble_eq_true rfl, Nat.le_of_ble_eq_true rfl, fx_nx, rfl⟩ rfl h (fx_qv_k fun S7 h => ?_) (fun _ _ h => h)
    refine fx_sub (L' := [(0, _), (1, _), (3, _)]) [0, 1, 3] rfl ?_
    exact h
  · replace h := h.2 hc
    refine fx_aload_n (n := 112) dd_M_makeRecord_111 rfl 0 rfl rfl ?_
    refine fx_iconst (n := 113) (v := 0) dd_M_makeRecord_112 (by decide) rfl ?_
    refine fx_callV (n := 116) (vs := [_]) dd_M_makeRecord_113 mw_M_putInside ⟨wd_765, wd_767, wp_49⟩ rfl (by decide) q5.1 q5.2 rfl rfl ⟨Nat.le_of_ble_eq_true rfl, Nat.le_of_ble_eq_true rfl, Nat.le_of_ble_eq_true rfl, fx_nx, rfl⟩ rfl h (fx_qv_k fun S8 h => ?_) (fun _ _ h => h)
    refine fx_goto (n := 123) dd_M_makeRecord_116 rfl ?_
    refine fx_sub (L' := [(0, _), (1, _), (3, _)]) [0, 1, 3] rfl ?_
    exact h
theorem bk_M_makeRecord_123 {G : fx_G} {S : fx_S} {Q : fx_R → fx_S → Prop} (v0 : Nat) (v1 : Int32) (v3 : Int32) (h : fx_is S v0 5 ∧ fx_Go G (1, 15) mm_M_store 0 [(0, fx_r G v0), (1, .int v3)] [] S (fx_qi (fun x3 S1 => (¬ x3 = 0 → fx_is S1 v0 5 ∧ fx_Go G (3, 50) mm_M_takeList 0 [(0, fx_r G v0), (1, .int v1), (2, .int (-1))] [] S1 (fx_qv (fun S4 => fx_is S4 v0 5 ∧ fx_Go G (5, 76) mm_M_join 0 [(0, fx_r G v0), (1, .int v3)] [] S4 (fx_qv (fun S6 => fx_is S6 v0 5 ∧ fx_Go G (0, 0) mm_M_byteOf 0 [(0, fx_r G v0), (1, .int v1), (2, .int 1)] [] S6 (fx_qi (fun x10 S8 => fx_is S8 v0 5 ∧ fx_Go G (4, 60) mm_M_storeList 0 [(0, fx_r G v0), (1, .int v1), (2, .int x10)] [] S8 (fx_qi (fun x13 S11 => (x13 = 0 → fx_is S11 v0 5 ∧ fx_Go G (0, 0) mm_M_refuse 0 [(0, fx_r G v0), (1, .int 1)] [] S11 (fx_qi (fun x16 S14 => Q (.inl (some (.int x16))) S14) Q)) ∧ (¬ x13 = 0 → Q (.inl (some (.int v3))) S11)) Q)) Q)) Q)) Q)) ∧ (x3 = 0 → fx_is S1 v0 5 ∧ fx_Go G (0, 0) mm_M_refuse 0 [(0, fx_r G v0), (1, .int 1)] [] S1 (fx_qi (fun x19 S17 => Q (.inl (some (.int x19))) S17) Q))) Q)) :
    fx_Go G (6, 90) mm_M_makeRecord 123 [(0, fx_r G v0), (1, .int v1), (3, .int v3)] [] S Q := by
  refine fx_aload_n (n := 124) dd_M_makeRecord_123 rfl 0 rfl rfl ?_
  refine fx_iload_n (n := 125) dd_M_makeRecord_124 rfl 2 rfl rfl ?_
  obtain ⟨q2, h⟩ := h
  refine fx_callV (n := 128) (vs := [_]) dd_M_makeRecord_125 mw_M_store ⟨wd_635, wd_637, wp_33⟩ rfl (by decide) q2.1 q2.2 rfl rfl ⟨Nat.le_of_ble_eq_true rfl, Nat.le_of_ble_eq_true rfl, Nat.le_of_ble_eq_true rfl, fx_nx, rfl⟩ rfl h (fx_qi_k fun x3 S1 h => ?_) (fun _ _ h => h)
  refine fx_if_ne (n := 131) (tg := 137) dd_M_makeRecord_128 rfl rfl (fun hc => ?_) (fun hc => ?_)
  · replace h := h.1 hc
    refine fx_aload_n (n := 138) dd_M_makeRecord_137 rfl 0 rfl rfl ?_
    refine fx_iload_n (n := 139) dd_M_makeRecord_138 rfl 1 rfl rfl ?_
    refine fx_iconst (n := 140) (v := (-1)) dd_M_makeRecord_139 (by decide) rfl ?_
    obtain ⟨q5, h⟩ := h
    refine fx_callV (n := 143) (vs := [_, _]) dd_M_makeRecord_140 mw_M_takeList ⟨wd_769, wd_771, wp_50⟩ rfl (by decide) q5.1 q5.2 rfl rfl ⟨Nat.le_of_ble_eq_true rfl, Nat.le_of_ble_eq_true rfl, Nat.le_of_ble_eq_true rfl, fx_nx, rfl⟩ rfl h (fx_qv_k fun S4 h => ?_) (fun _ _ h => h)
    refine fx_aload_n (n := 144) dd_M_makeRecord_143 rfl 0 rfl rfl ?_
    refine fx_iload_n (n := 145) dd_M_makeRecord_144 rfl 2 rfl rfl ?_
    obtain ⟨q7, h⟩ := h
    refine fx_callV (n := 148) (vs := [_]) dd_M_makeRecord_145 mw_M_join ⟨wd_773, wd_775, wp_51⟩ rfl (by decide) q7.1 q7.2 rfl rfl ⟨Nat.le_of_ble_eq_true rfl, Nat.le_of_ble_eq_true rfl, Nat.le_of_ble_eq_true rfl, fx_nx, rfl⟩ rfl h (fx_qv_k fun S6 h => ?_) (fun _ _ h => h)
    refine fx_aload_n (n := 149) dd_M_makeRecord_148 rfl 0 rfl rfl ?_
    refine fx_iload_n (n := 150) dd_M_makeRecord_149 rfl 1 rfl rfl ?_
    refine fx_aload_n (n := 151) dd_M_makeRecord_150 rfl 0 rfl rfl ?_
    refine fx_iload_n (n := 152) dd_M_makeRecord_151 rfl 1 rfl rfl ?_
    refine fx_iconst (n := 153) (v := 1) dd_M_makeRecord_152 (by decide) rfl ?_
    obtain ⟨q9, h⟩ := h
    refine fx_callV (n := 156) (vs := [_, _]) dd_M_makeRecord_153 mw_M_byteOf ⟨wd_729, wd_731, wp_40⟩ rfl (by decide) q9.1 q9.2 rfl rfl ⟨Nat.le_of_ble_eq_true rfl, Nat.le_of_ble_eq_true rfl, Nat.le_of_ble_eq_true rfl, fx_nx, rfl⟩ rfl h (fx_qi_k fun x10 S8 h => ?_) (fun _ _ h => h)
    obtain ⟨q12, h⟩ := h
    refine fx_callV (n := 159) (vs := [_, _]) dd_M_makeRecord_156 mw_M_storeList ⟨wd_781, wd_783, wp_53⟩ rfl (by decide) q12.1 q12.2 rfl rfl ⟨Nat.le_of_ble_eq_true rfl, Nat.le_of_ble_eq_true rfl, Nat.le_of_ble_eq_true rfl, fx_nx, rfl⟩ rfl h (fx_qi_k fun x13 S11 h => ?_) (fun _ _ h => h)
    refine fx_if_eq (n := 162) (tg := 166) dd_M_makeRecord_159 rfl rfl (fun hc => ?_) (fun hc => ?_)
    · replace h := h.1 hc
      refine fx_aload_n (n := 167) dd_M_makeRecord_166 rfl 0 rfl rfl ?_
      refine fx_iconst (n := 168) (v := 1) dd_M_makeRecord_167 (by decide) rfl ?_
      obtain ⟨q15, h⟩ := h
      refine fx_callV (n := 171) (vs := [_]) dd_M_makeRecord_168 mw_M_refuse ⟨wd_717, wd_719, wp_37⟩ rfl (by decide) q15.1 q15.2 rfl rfl ⟨Nat.le_of_ble_eq_true rfl, Nat.le_of_ble_eq_true rfl, Nat.le_of_ble_eq_true rfl, fx_nx, rfl⟩ rfl h (fx_qi_k fun x16 S14 h => ?_) (fun _ _ h => h)
      exact fx_iret dd_M_makeRecord_171 rfl h
    · replace h := h.2 hc
      refine fx_iload_n (n := 163) dd_M_makeRecord_162 rfl 2 rfl rfl ?_
      refine fx_goto (n := 171) dd_M_makeRecord_163 rfl ?_
      exact fx_iret dd_M_makeRecord_171 rfl h
  · replace h := h.2 hc
    refine fx_aload_n (n := 132) dd_M_makeRecord_131 rfl 0 rfl rfl ?_
    refine fx_iconst (n := 133) (v := 1) dd_M_makeRecord_132 (by decide) rfl ?_
    obtain ⟨q18, h⟩ := h
    refine fx_callV (n := 136) (vs := [_]) dd_M_makeRecord_133 mw_M_refuse ⟨wd_717, wd_719, wp_37⟩ rfl (by decide) q18.1 q18.2 rfl rfl ⟨Nat.le_of_ble_eq_true rfl, Nat.le_of_ble_eq_true rfl, Nat.le_of_ble_eq_true rfl, fx_nx, rfl⟩ rfl h (fx_qi_k fun x19 S17 h => ?_) (fun _ _ h => h)
    exact fx_iret dd_M_makeRecord_136 rfl h
theorem bk_M_create_0 {G : fx_G} {S : fx_S} {Q : fx_R → fx_S → Prop} (v0 : Nat) (v1 : Int32) (v2 : Int32) (h : fx_is S v0 5 ∧ ∀ S2, S2 = fx_setI S v0 0 0 → fx_Go G (6, 90) mm_M_makeRecord 0 [(0, fx_r G v0), (1, .int v1), (2, .int v2)] [] S2 (fx_qi (fun x4 S3 => fx_is S3 v0 5 ∧ ∀ S6, S6 = fx_setI S3 v0 6 0 → Q (.inl (some (.int x4))) S6) Q)) :
    fx_Go G (7, 105) mm_M_create 0 [(0, fx_r G v0), (1, .int v1), (2, .int v2)] [] S Q := by
  refine fx_aload_n (n := 1) dd_M_create_0 rfl 0 rfl rfl ?_
  refine fx_iconst (n := 2) (v := 0) dd_M_create_1 (by decide) rfl ?_
  obtain ⟨q1, h⟩ := h
  replace h := h _ rfl
  refine fx_putI (n := 5) dd_M_create_2 fw_M_54 (by decide) rfl rfl rfl rfl q1.1 q1.2 ?_
  refine fx_aload_n (n := 6) dd_M_create_5 rfl 0 rfl rfl ?_
  refine fx_iload_n (n := 7) dd_M_create_6 rfl 1 rfl rfl ?_
  refine fx_iload_n (n := 8) dd_M_create_7 rfl 2 rfl rfl ?_
  refine fx_callV (n := 11) (vs := [_, _]) dd_M_create_8 mw_M_makeRecord ⟨wd_713, wd_715, wp_36⟩ rfl (by decide) q1.1 q1.2 rfl rfl ⟨Nat.le_of_ble_eq_true rfl, Nat.le_of_ble_eq_true rfl, Nat.le_of_ble_eq_true rfl, fx_nx, rfl⟩ rfl h (fx_qi_k fun x4 S3 h => ?_) (fun _ _ h => h)
  refine fx_istore_n (n := 12) (L' := [(3, _), (0, _), (1, _), (2, _)]) dd_M_create_11 rfl (by decide) rfl rfl ?_
  refine fx_aload_n (n := 13) dd_M_create_12 rfl 1 rfl rfl ?_
  refine fx_iconst (n := 14) (v := 0) dd_M_create_13 (by decide) rfl ?_
  obtain ⟨q5, h⟩ := h
  replace h := h _ rfl
  refine fx_putI (n := 17) dd_M_create_14 fw_M_78 (by decide) rfl rfl rfl rfl q5.1 q5.2 ?_
  refine fx_iload_n (n := 18) dd_M_create_17 rfl 0 rfl rfl ?_
  exact fx_iret dd_M_create_18 rfl h
theorem bk_M_loadMap_0 {G : fx_G} {S : fx_S} {Q : fx_R → fx_S → Prop} (v0 : Nat) (v1 : Int32) (h : fx_is S v0 5 ∧ ∀ S2, S2 = fx_setI S v0 10 0 → fx_Go G (1, 16) mm_M_attribute 0 [(0, fx_r G v0), (1, .int v1), (2, .int 3)] [] S2 (fx_qi (fun x4 S3 => (0 ≤ x4 → fx_Go G (2, 32) mm_M_loadMap 23 [(0, fx_r G v0), (1, .int v1), (2, .int (x4 + Int32.ofInt 4)), (3, .int 48)] [] S3 Q) ∧ (¬ 0 ≤ x4 → Q (.inl none) S3)) Q)) :
    fx_Go G (2, 32) mm_M_loadMap 0 [(0, fx_r G v0), (1, .int v1)] [] S Q := by
  refine fx_aload_n (n := 1) dd_M_loadMap_0 rfl 0 rfl rfl ?_
  refine fx_iconst (n := 2) (v := 0) dd_M_loadMap_1 (by decide) rfl ?_
  obtain ⟨q1, h⟩ := h
  replace h := h _ rfl
  refine fx_putI (n := 5) dd_M_loadMap_2 fw_M_91 (by decide) rfl rfl rfl rfl q1.1 q1.2 ?_
  refine fx_aload_n (n := 6) dd_M_loadMap_5 rfl 0 rfl rfl ?_
  refine fx_iload_n (n := 7) dd_M_loadMap_6 rfl 1 rfl rfl ?_
  refine fx_iconst (n := 8) (v := 3) dd_M_loadMap_7 (by decide) rfl ?_
  refine fx_callV (n := 11) (vs := [_, _]) dd_M_loadMap_8 mw_M_attribute ⟨wd_741, wd_743, wp_43⟩ rfl (by decide) q1.1 q1.2 rfl rfl ⟨Nat.le_of_ble_eq_true rfl, Nat.le_of_ble_eq_true rfl, Nat.le_of_ble_eq_true rfl, fx_nx, rfl⟩ rfl h (fx_qi_k fun x4 S3 h => ?_) (fun _ _ h => h)
  refine fx_istore_n (n := 12) (L' := [(2, _), (0, _), (1, _)]) dd_M_loadMap_11 rfl (by decide) rfl rfl ?_
  refine fx_iload_n (n := 13) dd_M_loadMap_12 rfl 0 rfl rfl ?_
  refine fx_if_ge (n := 16) (tg := 17) dd_M_loadMap_13 rfl rfl (fun hc => ?_) (fun hc => ?_)
  · replace h := h.1 hc
    refine fx_iinc (n := 20) (L' := [(2, _), (0, _), (1, _)]) dd_M_loadMap_17 0 rfl rfl (by decide) rfl rfl ?_
    refine fx_bipush (n := 22) (v := 48) dd_M_loadMap_20 (by decide) rfl ?_
    refine fx_istore_n (n := 23) (L' := [(3, _), (2, _), (0, _), (1, _)]) dd_M_loadMap_22 rfl (by decide) rfl rfl ?_
    refine fx_sub (L' := [(0, _), (1, _), (2, _), (3, _)]) [2, 3, 1, 0] rfl ?_
    exact h
  · replace h := h.2 hc
    exact fx_vret dd_M_loadMap_16 rfl h
theorem bk_M_loadMap_23 {G : fx_G} {S : fx_S} {Q : fx_R → fx_S → Prop} (v0 : Nat) (v1 : Int32) (v2 : Int32) (v3 : Int32) (h : fx_is S v0 5 ∧ fx_Go G (0, 0) mm_M_byteOf 0 [(0, fx_r G v0), (1, .int v1), (2, .int v2)] [] S (fx_qi (fun x3 S1 => (x3 = 0 → Q (.inl none) S1) ∧ (¬ x3 = 0 → fx_is S1 v0 5 ∧ fx_Go G (0, 0) mm_M_byteOf 0 [(0, fx_r G v0), (1, .int v1), (2, .int v2)] [] S1 (fx_qi (fun x6 S4 => (¬ x6 = 1 → fx_Go G (2, 32) mm_M_loadMap 47 [(0, fx_r G v0), (1, .int v1), (2, .int v2), (3, .int v3)] [.int 0] S4 Q) ∧ (x6 = 1 → fx_Go G (2, 32) mm_M_loadMap 47 [(0, fx_r G v0), (1, .int v1), (2, .int v2), (3, .int v3)] [.int 1] S4 Q)) Q))) Q)) :
    fx_Go G (2, 32) mm_M_loadMap 23 [(0, fx_r G v0), (1, .int v1), (2, .int v2), (3, .int v3)] [] S Q := by
  refine fx_aload_n (n := 24) dd_M_loadMap_23 rfl 0 rfl rfl ?_
  refine fx_iload_n (n := 25) dd_M_loadMap_24 rfl 1 rfl rfl ?_
  refine fx_iload_n (n := 26) dd_M_loadMap_25 rfl 2 rfl rfl ?_
  obtain ⟨q2, h⟩ := h
  refine fx_callV (n := 29) (vs := [_, _]) dd_M_loadMap_26 mw_M_byteOf ⟨wd_729, wd_731, wp_40⟩ rfl (by decide) q2.1 q2.2 rfl rfl ⟨Nat.le_of_ble_eq_true rfl, Nat.le_of_ble_eq_true rfl, Nat.le_of_ble_eq_true rfl, fx_nx, rfl⟩ rfl h (fx_qi_k fun x3 S1 h => ?_) (fun _ _ h => h)
  refine fx_if_eq (n := 32) (tg := 147) dd_M_loadMap_29 rfl rfl (fun hc => ?_) (fun hc => ?_)
  · replace h := h.1 hc
    exact fx_vret dd_M_loadMap_147 rfl h
  · replace h := h.2 hc
    refine fx_aload_n (n := 33) dd_M_loadMap_32 rfl 0 rfl rfl ?_
    refine fx_iload_n (n := 34) dd_M_loadMap_33 rfl 1 rfl rfl ?_
    refine fx_iload_n (n := 35) dd_M_loadMap_34 rfl 2 rfl rfl ?_
    obtain ⟨q5, h⟩ := h
    refine fx_callV (n := 38) (vs := [_, _]) dd_M_loadMap_35 mw_M_byteOf ⟨wd_729, wd_731, wp_40⟩ rfl (by decide) q5.1 q5.2 rfl rfl ⟨Nat.le_of_ble_eq_true rfl, Nat.le_of_ble_eq_true rfl, Nat.le_of_ble_eq_true rfl, fx_nx, rfl⟩ rfl h (fx_qi_k fun x6 S4 h => ?_) (fun _ _ h => h)
    refine fx_iconst (n := 39) (v := 1) dd_M_loadMap_38 (by decide) rfl ?_
    refine fx_icmp_ne (n := 42) (tg := 46) dd_M_loadMap_39 rfl rfl (fun hc => ?_) (fun hc => ?_)
    · replace h := h.1 hc
      refine fx_iconst (n := 47) (v := 0) dd_M_loadMap_46 (by decide) rfl ?_
      exact h
    · replace h := h.2 hc
      refine fx_iconst (n := 43) (v := 1) dd_M_loadMap_42 (by decide) rfl ?_
      refine fx_goto (n := 47) dd_M_loadMap_43 rfl ?_
      exact h
theorem bk_M_loadMap_47 {G : fx_G} {S : fx_S} {Q : fx_R → fx_S → Prop} (v0 : Nat) (v1 : Int32) (v2 : Int32) (v3 : Int32) (z0 : Int32) (h : fx_is S v0 5 ∧ fx_Go G (0, 0) mm_M_byteOf 0 [(0, fx_r G v0), (1, .int v1), (2, .int (v2 + 1))] [] S (fx_qi (fun x3 S1 => (¬ z0 = 0 → fx_Go G (2, 32) mm_M_loadMap 82 [(0, fx_r G v0), (1, .int v1), (2, .int v2), (3, .int v3), (4, .int z0), (5, .int x3), (6, .int 0)] [] S1 Q) ∧ (z0 = 0 → fx_is S1 v0 5 ∧ fx_Go G (0, 0) mm_M_byteOf 0 [(0, fx_r G v0), (1, .int v1), (2, .int (v2 + 2))] [] S1 (fx_qi (fun x6 S4 => fx_Go G (2, 32) mm_M_loadMap 82 [(0, fx_r G v0), (1, .int v1), (2, .int v2), (3, .int ((v3 + x6) &&& 255)), (4, .int z0), (5, .int x3), (6, .int 0)] [] S4 Q) Q))) Q)) :
    fx_Go G (2, 32) mm_M_loadMap 47 [(0, fx_r G v0), (1, .int v1), (2, .int v2), (3, .int v3)] [.int z0] S Q := by
  refine fx_istore (n := 49) (L' := [(4, _), (0, _), (1, _), (2, _), (3, _)]) dd_M_loadMap_47 (by decide) rfl rfl ?_
  refine fx_aload_n (n := 50) dd_M_loadMap_49 rfl 1 rfl rfl ?_
  refine fx_iload_n (n := 51) dd_M_loadMap_50 rfl 2 rfl rfl ?_
  refine fx_iload_n (n := 52) dd_M_loadMap_51 rfl 3 rfl rfl ?_
  refine fx_iconst (n := 53) (v := 1) dd_M_loadMap_52 (by decide) rfl ?_
  refine fx_iadd (n := 54) dd_M_loadMap_53 rfl ?_
  obtain ⟨q2, h⟩ := h
  refine fx_callV (n := 57) (vs := [_, _]) dd_M_loadMap_54 mw_M_byteOf ⟨wd_729, wd_731, wp_40⟩ rfl (by decide) q2.1 q2.2 rfl rfl ⟨Nat.le_of_ble_eq_true rfl, Nat.le_of_ble_eq_true rfl, Nat.le_of_ble_eq_true rfl, fx_nx, rfl⟩ rfl h (fx_qi_k fun x3 S1 h => ?_) (fun _ _ h => h)
  refine fx_istore (n := 59) (L' := [(5, _), (4, _), (0, _), (1, _), (2, _), (3, _)]) dd_M_loadMap_57 (by decide) rfl rfl ?_
  refine fx_iload (n := 61) dd_M_loadMap_59 1 rfl rfl ?_
  refine fx_if_ne (n := 64) (tg := 79) dd_M_loadMap_61 rfl rfl (fun hc => ?_) (fun hc => ?_)
  · replace h := h.1 hc
    refine fx_iconst (n := 80) (v := 0) dd_M_loadMap_79 (by decide) rfl ?_
    refine fx_istore (n := 82) (L' := [(6, _), (5, _), (4, _), (0, _), (1, _), (2, _), (3, _)]) dd_M_loadMap_80 (by decide) rfl rfl ?_
    refine fx_sub (L' := [(0, _), (1, _), (2, _), (3, _), (4, _), (5, _), (6, _)]) [3, 4, 5, 6, 2, 1, 0] rfl ?_
    exact h
  · replace h := h.2 hc
    refine fx_iload_n (n := 65) dd_M_loadMap_64 rfl 5 rfl rfl ?_
    refine fx_aload_n (n := 66) dd_M_loadMap_65 rfl 2 rfl rfl ?_
    refine fx_iload_n (n := 67) dd_M_loadMap_66 rfl 3 rfl rfl ?_
    refine fx_iload_n (n := 68) dd_M_loadMap_67 rfl 4 rfl rfl ?_
    refine fx_iconst (n := 69) (v := 2) dd_M_loadMap_68 (by decide) rfl ?_
    refine fx_iadd (n := 70) dd_M_loadMap_69 rfl ?_
    obtain ⟨q5, h⟩ := h
    refine fx_callV (n := 73) (vs := [_, _]) dd_M_loadMap_70 mw_M_byteOf ⟨wd_729, wd_731, wp_40⟩ rfl (by decide) q5.1 q5.2 rfl rfl ⟨Nat.le_of_ble_eq_true rfl, Nat.le_of_ble_eq_true rfl, Nat.le_of_ble_eq_true rfl, fx_nx, rfl⟩ rfl h (fx_qi_k fun x6 S4 h => ?_) (fun _ _ h => h)
    refine fx_iadd (n := 74) dd_M_loadMap_73 rfl ?_
    refine fx_sipush (n := 77) (v := 255) dd_M_loadMap_74 (by decide) rfl ?_
    refine fx_iand (n := 78) dd_M_loadMap_77 rfl ?_
    refine fx_istore_n (n := 79) (L' := [(3, _), (5, _), (4, _), (0, _), (1, _), (2, _)]) dd_M_loadMap_78 rfl (by decide) rfl rfl ?_
    refine fx_iconst (n := 80) (v := 0) dd_M_loadMap_79 (by decide) rfl ?_
    refine fx_istore (n := 82) (L' := [(6, _), (3, _), (5, _), (4, _), (0, _), (1, _), (2, _)]) dd_M_loadMap_80 (by decide) rfl rfl ?_
    refine fx_sub (L' := [(0, _), (1, _), (2, _), (3, _), (4, _), (5, _), (6, _)]) [4, 5, 6, 1, 3, 2, 0] rfl ?_
    exact h
