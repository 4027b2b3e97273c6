theorem bk_M_writeOutside_95 {G : fx_G} {S : fx_S} {Q : fx_R → fx_S → Prop} (v0 : Nat) (v1 : Int32) (v2 : Int32) (v3 : Int32) (v4 : Int32) (v5 : Int32) (v6 : Int32) (v8 : Int32) (v9 : Int32) (h : fx_Go G (0, 0) mm_M_clustersOf 0 [(0, .int v6)] [] S (fx_qi (fun x2 S1 => (x2 ≤ v9 → fx_Go G (0, 0) mm_M_clustersOf 0 [(0, .int v6)] [] S1 (fx_qi (fun x4 S3 => fx_is S3 v0 5 ∧ ∀ S6, S6 = fx_setI S3 v0 10 x4 → fx_Go G (1, 16) mm_M_give 0 [(0, fx_r G v0), (1, .int v8), (2, .int v2), (3, .int v3)] [] S6 (fx_qi (fun x8 S7 => (¬ x8 = 0 → fx_is S7 v0 5 ∧ fx_Go G (0, 0) mm_M_byteOf 0 [(0, fx_r G v0), (1, .int v1), (2, .int 1)] [] S7 (fx_qi (fun x11 S9 => fx_is S9 v0 5 ∧ fx_Go G (0, 0) mm_M_begin 0 [(0, fx_r G v0), (1, .int 1), (2, .int x11)] [] S9 (fx_qv (fun S12 => fx_is S12 v0 5 ∧ fx_Go G (3, 45) mm_M_putName 0 [(0, fx_r G v0), (1, .int v1)] [] S12 (fx_qv (fun S14 => fx_is S14 v0 5 ∧ fx_Go G (1, 13) mm_M_putOutside 0 [(0, fx_r G v0), (1, .int v6)] [] S14 (fx_qv (fun S16 => fx_is S16 v0 5 ∧ ((fx_I S16 v0 9) ≤ 64 → fx_Go G (4, 60) mm_M_writeOutside 189 [(0, fx_r G v0), (1, .int v1), (2, .int v2), (3, .int v3), (4, .int v4), (5, .int v5), (6, .int v6), (8, .int v8), (9, .int 0)] [] S16 Q) ∧ (¬ (fx_I S16 v0 9) ≤ 64 → fx_Go G (0, 0) mm_M_takeBack 0 [(0, fx_r G v0)] [] S16 (fx_qv (fun S19 => fx_is S19 v0 5 ∧ fx_Go G (0, 0) mm_M_refuse 0 [(0, fx_r G v0), (1, .int 3)] [] S19 (fx_qi (fun x22 S20 => Q (.inl (some (.int x22))) S20) Q)) Q))) Q)) Q)) Q)) Q)) ∧ (x8 = 0 → fx_is S7 v0 5 ∧ fx_Go G (0, 0) mm_M_refuse 0 [(0, fx_r G v0), (1, .int 3)] [] S7 (fx_qi (fun x25 S23 => Q (.inl (some (.int x25))) S23) Q))) Q)) Q)) ∧ (¬ x2 ≤ v9 → fx_is S1 v0 5 ∧ ∃ r27, fx_P S1 v0 11 = some r27 ∧ fx_is S1 r27 100 ∧ vp_in v9 (fx_ln S1 r27) ∧ ∀ S30, S30 = fx_setI S1 r27 (v9.toNatClampNeg) (-1) → fx_Go G (4, 60) mm_M_writeOutside 95 [(0, fx_r G v0), (1, .int v1), (2, .int v2), (3, .int v3), (4, .int v4), (5, .int v5), (6, .int v6), (8, .int v8), (9, .int (v9 + Int32.ofInt 1))] [] S30 Q)) Q)) :
    fx_Go G (4, 60) mm_M_writeOutside 95 [(0, fx_r G v0), (1, .int v1), (2, .int v2), (3, .int v3), (4, .int v4), (5, .int v5), (6, .int v6), (8, .int v8), (9, .int v9)] [] S Q := by
  refine fx_iload (n := 97) dd_M_writeOutside_95 8 rfl rfl ?_
  refine fx_iload (n := 99) dd_M_writeOutside_97 6 rfl rfl ?_
  refine fx_callS (n := 102) (vs := [_]) dd_M_writeOutside_99 mw_M_clustersOf ⟨wd_829, wd_830, wd_8⟩ rfl rfl ⟨Nat.le_of_ble_eq_true rfl, Nat.le_of_ble_eq_true rfl, Nat.le_of_ble_eq_true rfl, fx_nx, rfl⟩ rfl h (fx_qi_k fun x2 S1 h => ?_) (fun _ _ h => h)
  refine fx_icmp_ge (n := 105) (tg := 119) dd_M_writeOutside_102 rfl rfl (fun hc => ?_) (fun hc => ?_)
  · replace h := h.1 hc
    refine fx_aload_n (n := 120) dd_M_writeOutside_119 rfl 0 rfl rfl ?_
    refine fx_iload (n := 122) dd_M_writeOutside_120 6 rfl rfl ?_
    refine fx_callS (n := 125) (vs := [_]) dd_M_writeOutside_122 mw_M_clustersOf ⟨wd_829, wd_830, wd_8⟩ rfl rfl ⟨Nat.le_of_ble_eq_true rfl, Nat.le_of_ble_eq_true rfl, Nat.le_of_ble_eq_true rfl, fx_nx, rfl⟩ rfl h (fx_qi_k fun x4 S3 h => ?_) (fun _ _ h => h)
    obtain ⟨q5, h⟩ := h
    replace h := h _ rfl
    refine fx_putI (n := 128) dd_M_writeOutside_125 fw_M_91 (by decide) rfl rfl rfl rfl q5.1 q5.2 ?_
    refine fx_aload_n (n := 129) dd_M_writeOutside_128 rfl 0 rfl rfl ?_
    refine fx_iload (n := 131) dd_M_writeOutside_129 7 rfl rfl ?_
    refine fx_iload_n (n := 132) dd_M_writeOutside_131 rfl 2 rfl rfl ?_
    refine fx_iload_n (n := 133) dd_M_writeOutside_132 rfl 3 rfl rfl ?_
    refine fx_callV (n := 136) (vs := [_, _, _]) dd_M_writeOutside_133 mw_M_give ⟨wd_832, wd_834, wp_62⟩ rfl (by decide) q5.1 q5.2 rfl rfl ⟨Nat.le_of_ble_eq_true rfl, Nat.le_of_ble_eq_true rfl, Nat.le_of_ble_eq_true rfl, fx_nx, rfl⟩ rfl h (fx_qi_k fun x8 S7 h => ?_) (fun _ _ h => h)
    refine fx_if_ne (n := 139) (tg := 145) dd_M_writeOutside_136 rfl rfl (fun hc => ?_) (fun hc => ?_)
    · replace h := h.1 hc
      refine fx_aload_n (n := 146) dd_M_writeOutside_145 rfl 0 rfl rfl ?_
      refine fx_iconst (n := 147) (v := 1) dd_M_writeOutside_146 (by decide) rfl ?_
      refine fx_aload_n (n := 148) dd_M_writeOutside_147 rfl 0 rfl rfl ?_
      refine fx_iload_n (n := 149) dd_M_writeOutside_148 rfl 1 rfl rfl ?_
      refine fx_iconst (n := 150) (v := 1) dd_M_writeOutside_149 (by decide) rfl ?_
      obtain ⟨q10, h⟩ := h
      refine fx_callV (n := 153) (vs := [_, _]) dd_M_writeOutside_150 mw_M_byteOf ⟨wd_729, wd_731, wp_40⟩ rfl (by decide) q10.1 q10.2 rfl rfl ⟨Nat.le_of_ble_eq_true rfl, Nat.le_of_ble_eq_true rfl, Nat.le_of_ble_eq_true rfl, fx_nx, rfl⟩ rfl h (fx_qi_k fun x11 S9 h => ?_) (fun _ _ h => h)
      obtain ⟨q13, h⟩ := h
      refine fx_callV (n := 156) (vs := [_, _]) dd_M_writeOutside_153 mw_M_begin ⟨wd_623, wd_625, wp_30⟩ rfl (by decide) q13.1 q13.2 rfl rfl ⟨Nat.le_of_ble_eq_true rfl, Nat.le_of_ble_eq_true rfl, Nat.le_of_ble_eq_true rfl, fx_nx, rfl⟩ rfl h (fx_qv_k fun S12 h => ?_) (fun _ _ h => h)
      refine fx_aload_n (n := 157) dd_M_writeOutside_156 rfl 0 rfl rfl ?_
      refine fx_iload_n (n := 158) dd_M_writeOutside_157 rfl 1 rfl rfl ?_
      obtain ⟨q15, h⟩ := h
      refine fx_callV (n := 161) (vs := [_]) dd_M_writeOutside_158 mw_M_putName ⟨wd_785, wd_787, wp_54⟩ rfl (by decide) q15.1 q15.2 rfl rfl ⟨Nat.le_of_ble_eq_true rfl, Nat.le_of_ble_eq_true rfl, Nat.le_of_ble_eq_true rfl, fx_nx, rfl⟩ rfl h (fx_qv_k fun S14 h => ?_) (fun _ _ h => h)
      refine fx_aload_n (n := 162) dd_M_writeOutside_161 rfl 0 rfl rfl ?_
      refine fx_iload (n := 164) dd_M_writeOutside_162 6 rfl rfl ?_
      obtain ⟨q17, h⟩ := h
      refine fx_callV (n := 167) (vs := [_]) dd_M_writeOutside_164 mw_M_putOutside ⟨wd_847, wd_849, wp_65⟩ rfl (by decide) q17.1 q17.2 rfl rfl ⟨Nat.le_of_ble_eq_true rfl, Nat.le_of_ble_eq_true rfl, Nat.le_of_ble_eq_true rfl, fx_nx, rfl⟩ rfl h (fx_qv_k fun S16 h => ?_) (fun _ _ h => h)
      refine fx_aload_n (n := 168) dd_M_writeOutside_167 rfl 0 rfl rfl ?_
      obtain ⟨q18, h⟩ := h
      refine fx_getI (n := 171) dd_M_writeOutside_168 fw_M_81 (by decide) rfl rfl q18.1 q18.2 ?_
      refine fx_bipush (n := 173) (v := 64) dd_M_writeOutside_171 (by decide) rfl ?_
      refine fx_icmp_le (n := 176) (tg := 186) dd_M_writeOutside_173 rfl rfl (fun hc => ?_) (fun hc => ?_)
      · replace h := h.1 hc
        refine fx_iconst (n := 187) (v := 0) dd_M_writeOutside_186 (by decide) rfl ?_
        refine fx_istore (n := 189) (L' := [(9, _), (0, _), (1, _), (2, _), (3, _), (4, _), (5, _), (6, _), (8, _)]) dd_M_writeOutside_187 (by decide) rfl rfl ?_
        refine fx_sub (L' := [(0, _), (1, _), (2, _), (3, _), (4, _), (5, _), (6, _), (8, _), (9, _)]) [1, 2, 3, 4, 5, 6, 7, 8, 0] rfl ?_
        exact h
      · replace h := h.2 hc
        refine fx_aload_n (n := 177) dd_M_writeOutside_176 rfl 0 rfl rfl ?_
        refine fx_callV (n := 180) (vs := []) dd_M_writeOutside_177 mw_M_takeBack ⟨wd_851, wd_853, wp_66⟩ rfl (by decide) q18.1 q18.2 rfl rfl ⟨Nat.le_of_ble_eq_true rfl, Nat.le_of_ble_eq_true rfl, Nat.le_of_ble_eq_true rfl, fx_nx, rfl⟩ rfl h (fx_qv_k fun S19 h => ?_) (fun _ _ h => h)
        refine fx_aload_n (n := 181) dd_M_writeOutside_180 rfl 0 rfl rfl ?_
        refine fx_iconst (n := 182) (v := 3) dd_M_writeOutside_181 (by decide) rfl ?_
        obtain ⟨q21, h⟩ := h
        refine fx_callV (n := 185) (vs := [_]) dd_M_writeOutside_182 mw_M_refuse ⟨wd_717, wd_719, wp_37⟩ rfl (by decide) q21.1 q21.2 rfl rfl ⟨Nat.le_of_ble_eq_true rfl, Nat.le_of_ble_eq_true rfl, Nat.le_of_ble_eq_true rfl, fx_nx, rfl⟩ rfl h (fx_qi_k fun x22 S20 h => ?_) (fun _ _ h => h)
        exact fx_iret dd_M_writeOutside_185 rfl h
    · replace h := h.2 hc
      refine fx_aload_n (n := 140) dd_M_writeOutside_139 rfl 0 rfl rfl ?_
      refine fx_iconst (n := 141) (v := 3) dd_M_writeOutside_140 (by decide) rfl ?_
      obtain ⟨q24, h⟩ := h
      refine fx_callV (n := 144) (vs := [_]) dd_M_writeOutside_141 mw_M_refuse ⟨wd_717, wd_719, wp_37⟩ rfl (by decide) q24.1 q24.2 rfl rfl ⟨Nat.le_of_ble_eq_true rfl, Nat.le_of_ble_eq_true rfl, Nat.le_of_ble_eq_true rfl, fx_nx, rfl⟩ rfl h (fx_qi_k fun x25 S23 h => ?_) (fun _ _ h => h)
      exact fx_iret dd_M_writeOutside_144 rfl h
  · replace h := h.2 hc
    refine fx_aload_n (n := 106) dd_M_writeOutside_105 rfl 0 rfl rfl ?_
    obtain ⟨q26, h⟩ := h
    obtain ⟨r27, hr27, h⟩ := h
    refine fx_getP (n := 109) dd_M_writeOutside_106 fw_M_27 (by decide) rfl rfl q26.1 q26.2 hr27 ?_
    refine fx_iload (n := 111) dd_M_writeOutside_109 8 rfl rfl ?_
    refine fx_iconst (n := 112) (v := (-1)) dd_M_writeOutside_111 (by decide) rfl ?_
    obtain ⟨q28, h⟩ := h
    obtain ⟨q29, h⟩ := h
    replace h := h _ rfl
    refine fx_iast (n := 113) dd_M_writeOutside_112 rfl q28.1 q28.2 q29 ?_
    refine fx_iinc (n := 116) (L' := [(9, _), (0, _), (1, _), (2, _), (3, _), (4, _), (5, _), (6, _), (8, _)]) dd_M_writeOutside_113 8 rfl rfl (by decide) rfl rfl ?_
    refine fx_goto (n := 95) dd_M_writeOutside_116 rfl ?_
    refine fx_sub (L' := [(0, _), (1, _), (2, _), (3, _), (4, _), (5, _), (6, _), (8, _), (9, _)]) [1, 2, 3, 4, 5, 6, 7, 8, 0] rfl ?_
    exact h
theorem bk_M_writeOutside_189 {G : fx_G} {S : fx_S} {Q : fx_R → fx_S → Prop} (v0 : Nat) (v1 : Int32) (v2 : Int32) (v3 : Int32) (v4 : Int32) (v5 : Int32) (v6 : Int32) (v8 : Int32) (v9 : Int32) (h : fx_is S v0 5 ∧ ((16 * (fx_I S v0 10)) ≤ v9 → fx_Go G (1, 15) mm_M_store 0 [(0, fx_r G v0), (1, .int v1)] [] S (fx_qi (fun x3 S2 => (x3 = 0 → fx_is S2 v0 5 ∧ fx_Go G (0, 0) mm_M_refuse 0 [(0, fx_r G v0), (1, .int 1)] [] S2 (fx_qi (fun x6 S4 => Q (.inl (some (.int x6))) S4) Q)) ∧ (¬ x3 = 0 → Q (.inl (some (.int v6))) S2)) Q)) ∧ (¬ (16 * (fx_I S v0 10)) ≤ v9 → (v9 < v2 → fx_Go G (4, 60) mm_M_writeOutside 220 [(0, fx_r G v0), (1, .int v1), (2, .int v2), (3, .int v3), (4, .int v4), (5, .int v5), (6, .int v6), (8, .int v8), (9, .int v9)] [.int 0] S Q) ∧ (¬ v9 < v2 → ((v2 + v3) ≤ v9 → fx_Go G (4, 60) mm_M_writeOutside 220 [(0, fx_r G v0), (1, .int v1), (2, .int v2), (3, .int v3), (4, .int v4), (5, .int v5), (6, .int v6), (8, .int v8), (9, .int v9)] [.int 0] S Q) ∧ (¬ (v2 + v3) ≤ v9 → fx_Go G (4, 60) mm_M_writeOutside 220 [(0, fx_r G v0), (1, .int v1), (2, .int v2), (3, .int v3), (4, .int v4), (5, .int v5), (6, .int v6), (8, .int v8), (9, .int v9)] [.int 1] S Q)))) :
    fx_Go G (4, 60) mm_M_writeOutside 189 [(0, fx_r G v0), (1, .int v1), (2, .int v2), (3, .int v3), (4, .int v4), (5, .int v5), (6, .int v6), (8, .int v8), (9, .int v9)] [] S Q := by
  refine fx_iload (n := 191) dd_M_writeOutside_189 8 rfl rfl ?_
  refine fx_bipush (n := 193) (v := 16) dd_M_writeOutside_191 (by decide) rfl ?_
  refine fx_aload_n (n := 194) dd_M_writeOutside_193 rfl 0 rfl rfl ?_
  obtain ⟨q1, h⟩ := h
  refine fx_getI (n := 197) dd_M_writeOutside_194 fw_M_91 (by decide) rfl rfl q1.1 q1.2 ?_
  refine fx_imul (n := 198) dd_M_writeOutside_197 rfl ?_
  refine fx_icmp_ge (n := 201) (tg := 303) dd_M_writeOutside_198 rfl rfl (fun hc => ?_) (fun hc => ?_)
  · replace h := h.1 hc
    refine fx_aload_n (n := 304) dd_M_writeOutside_303 rfl 0 rfl rfl ?_
    refine fx_iload_n (n := 305) dd_M_writeOutside_304 rfl 1 rfl rfl ?_
    refine fx_callV (n := 308) (vs := [_]) dd_M_writeOutside_305 mw_M_store ⟨wd_635, wd_637, wp_33⟩ rfl (by decide) q1.1 q1.2 rfl rfl ⟨Nat.le_of_ble_eq_true rfl, Nat.le_of_ble_eq_true rfl, Nat.le_of_ble_eq_true rfl, fx_nx, rfl⟩ rfl h (fx_qi_k fun x3 S2 h => ?_) (fun _ _ h => h)
    refine fx_if_eq (n := 311) (tg := 316) dd_M_writeOutside_308 rfl rfl (fun hc => ?_) (fun hc => ?_)
    · replace h := h.1 hc
      refine fx_aload_n (n := 317) dd_M_writeOutside_316 rfl 0 rfl rfl ?_
      refine fx_iconst (n := 318) (v := 1) dd_M_writeOutside_317 (by decide) rfl ?_
      obtain ⟨q5, h⟩ := h
      refine fx_callV (n := 321) (vs := [_]) dd_M_writeOutside_318 mw_M_refuse ⟨wd_717, wd_719, wp_37⟩ rfl (by decide) q5.1 q5.2 rfl rfl ⟨Nat.le_of_ble_eq_true rfl, Nat.le_of_ble_eq_true rfl, Nat.le_of_ble_eq_true rfl, fx_nx, rfl⟩ rfl h (fx_qi_k fun x6 S4 h => ?_) (fun _ _ h => h)
      exact fx_iret dd_M_writeOutside_321 rfl h
    · replace h := h.2 hc
      refine fx_iload (n := 313) dd_M_writeOutside_311 6 rfl rfl ?_
      refine fx_goto (n := 321) dd_M_writeOutside_313 rfl ?_
      exact fx_iret dd_M_writeOutside_321 rfl h
  · replace h := h.2 hc
    refine fx_iload (n := 203) dd_M_writeOutside_201 8 rfl rfl ?_
    refine fx_iload_n (n := 204) dd_M_writeOutside_203 rfl 2 rfl rfl ?_
    refine fx_icmp_lt (n := 207) (tg := 219) dd_M_writeOutside_204 rfl rfl (fun hc => ?_) (fun hc => ?_)
    · replace h := h.1 hc
      refine fx_iconst (n := 220) (v := 0) dd_M_writeOutside_219 (by decide) rfl ?_
      exact h
    · replace h := h.2 hc
      refine fx_iload (n := 209) dd_M_writeOutside_207 8 rfl rfl ?_
      refine fx_iload_n (n := 210) dd_M_writeOutside_209 rfl 2 rfl rfl ?_
      refine fx_iload_n (n := 211) dd_M_writeOutside_210 rfl 3 rfl rfl ?_
      refine fx_iadd (n := 212) dd_M_writeOutside_211 rfl ?_
      refine fx_icmp_ge (n := 215) (tg := 219) dd_M_writeOutside_212 rfl rfl (fun hc => ?_) (fun hc => ?_)
      · replace h := h.1 hc
        refine fx_iconst (n := 220) (v := 0) dd_M_writeOutside_219 (by decide) rfl ?_
        exact h
      · replace h := h.2 hc
        refine fx_iconst (n := 216) (v := 1) dd_M_writeOutside_215 (by decide) rfl ?_
        refine fx_goto (n := 220) dd_M_writeOutside_216 rfl ?_
        exact h
theorem bk_M_writeOutside_220 {G : fx_G} {S : fx_S} {Q : fx_R → fx_S → Prop} (v0 : Nat) (v1 : Int32) (v2 : Int32) (v3 : Int32) (v4 : Int32) (v5 : Int32) (v6 : Int32) (v8 : Int32) (v9 : Int32) (z0 : Int32) (h : (z0 = 0 → (v8 ≤ v9 → (v5 ≤ v9 → fx_is S v0 5 ∧ fx_Go G (0, 0) mm_M_place 0 [(0, fx_r G v0), (1, .int v9), (2, .int 0)] [] S (fx_qv (fun S1 => fx_Go G (4, 60) mm_M_writeOutside 189 [(0, fx_r G v0), (1, .int v1), (2, .int v2), (3, .int v3), (4, .int v4), (5, .int v5), (6, .int v6), (8, .int v8), (9, .int (v9 + Int32.ofInt 1))] [] S1 Q) Q)) ∧ (¬ v5 ≤ v9 → fx_is S v0 5 ∧ ∃ r4, fx_P S v0 12 = some r4 ∧ fx_is S r4 101 ∧ vp_in (v9 / 16) (fx_ln S r4) ∧ ((fx_I S r4 ((v9 / 16).toNatClampNeg)) = 0 → fx_Go G (4, 60) mm_M_writeOutside 189 [(0, fx_r G v0), (1, .int v1), (2, .int v2), (3, .int v3), (4, .int v4), (5, .int v5), (6, .int v6), (8, .int v8), (9, .int (v9 + Int32.ofInt 1))] [] S Q) ∧ (¬ (fx_I S r4 ((v9 / 16).toNatClampNeg)) = 0 → fx_Go G (0, 0) mm_M_place 0 [(0, fx_r G v0), (1, .int v9), (2, .int 0)] [] S (fx_qv (fun S7 => fx_Go G (4, 60) mm_M_writeOutside 189 [(0, fx_r G v0), (1, .int v1), (2, .int v2), (3, .int v3), (4, .int v4), (5, .int v5), (6, .int v6), (8, .int v8), (9, .int (v9 + Int32.ofInt 1))] [] S7 Q) Q)))) ∧ (¬ v8 ≤ v9 → fx_is S v0 5 ∧ ∃ r9, fx_P S v0 13 = some r9 ∧ fx_is S r9 100 ∧ vp_in v9 (fx_ln S r9) ∧ fx_Go G (0, 0) mm_M_place 0 [(0, fx_r G v0), (1, .int v9), (2, .int (fx_I S r9 (v9.toNatClampNeg)))] [] S (fx_qv (fun S12 => fx_Go G (4, 60) mm_M_writeOutside 189 [(0, fx_r G v0), (1, .int v1), (2, .int v2), (3, .int v3), (4, .int v4), (5, .int v5), (6, .int v6), (8, .int v8), (9, .int (v9 + Int32.ofInt 1))] [] S12 Q) Q))) ∧ (¬ z0 = 0 → fx_is S v0 5 ∧ fx_Go G (0, 0) mm_M_place 0 [(0, fx_r G v0), (1, .int v9), (2, .int (((v4 + v9) - v2) &&& 255))] [] S (fx_qv (fun S13 => fx_Go G (4, 60) mm_M_writeOutside 189 [(0, fx_r G v0), (1, .int v1), (2, .int v2), (3, .int v3), (4, .int v4), (5, .int v5), (6, .int v6), (8, .int v8), (9, .int (v9 + Int32.ofInt 1))] [] S13 Q) Q))) :
    fx_Go G (4, 60) mm_M_writeOutside 220 [(0, fx_r G v0), (1, .int v1), (2, .int v2), (3, .int v3), (4, .int v4), (5, .int v5), (6, .int v6), (8, .int v8), (9, .int v9)] [.int z0] S Q := by
  refine fx_istore (n := 222) (L' := [(10, _), (0, _), (1, _), (2, _), (3, _), (4, _), (5, _), (6, _), (8, _), (9, _)]) dd_M_writeOutside_220 (by decide) rfl rfl ?_
  refine fx_iload (n := 224) dd_M_writeOutside_222 0 rfl rfl ?_
  refine fx_if_eq (n := 227) (tg := 247) dd_M_writeOutside_224 rfl rfl (fun hc => ?_) (fun hc => ?_)
  · replace h := h.1 hc
    refine fx_iload (n := 249) dd_M_writeOutside_247 9 rfl rfl ?_
    refine fx_iload (n := 251) dd_M_writeOutside_249 8 rfl rfl ?_
    refine fx_icmp_ge (n := 254) (tg := 270) dd_M_writeOutside_251 rfl rfl (fun hc => ?_) (fun hc => ?_)
    · replace h := h.1 hc
      refine fx_iload (n := 272) dd_M_writeOutside_270 9 rfl rfl ?_
      refine fx_iload (n := 274) dd_M_writeOutside_272 6 rfl rfl ?_
      refine fx_icmp_ge (n := 277) (tg := 290) dd_M_writeOutside_274 rfl rfl (fun hc => ?_) (fun hc => ?_)
      · replace h := h.1 hc
        refine fx_aload_n (n := 291) dd_M_writeOutside_290 rfl 1 rfl rfl ?_
        refine fx_iload (n := 293) dd_M_writeOutside_291 9 rfl rfl ?_
        refine fx_iconst (n := 294) (v := 0) dd_M_writeOutside_293 (by decide) rfl ?_
        obtain ⟨q2, h⟩ := h
        refine fx_callV (n := 297) (vs := [_, _]) dd_M_writeOutside_294 mw_M_place ⟨wd_855, wd_857, wp_67⟩ rfl (by decide) q2.1 q2.2 rfl rfl ⟨Nat.le_of_ble_eq_true rfl, Nat.le_of_ble_eq_true rfl, Nat.le_of_ble_eq_true rfl, fx_nx, rfl⟩ rfl h (fx_qv_k fun S1 h => ?_) (fun _ _ h => h)
        refine fx_iinc (n := 300) (L' := [(9, _), (10, _), (0, _), (1, _), (2, _), (3, _), (4, _), (5, _), (6, _), (8, _)]) dd_M_writeOutside_297 9 rfl rfl (by decide) rfl rfl ?_
        refine fx_goto (n := 189) dd_M_writeOutside_300 rfl ?_
        refine fx_sub (L' := [(0, _), (1, _), (2, _), (3, _), (4, _), (5, _), (6, _), (8, _), (9, _)]) [2, 3, 4, 5, 6, 7, 8, 9, 0] rfl ?_
        exact h
      · replace h := h.2 hc
        refine fx_aload_n (n := 278) dd_M_writeOutside_277 rfl 1 rfl rfl ?_
        obtain ⟨q3, h⟩ := h
        obtain ⟨r4, hr4, h⟩ := h
        refine fx_getP (n := 281) dd_M_writeOutside_278 fw_M_30 (by decide) rfl rfl q3.1 q3.2 hr4 ?_
        refine fx_iload (n := 283) dd_M_writeOutside_281 9 rfl rfl ?_
        refine fx_bipush (n := 285) (v := 16) dd_M_writeOutside_283 (by decide) rfl ?_
        refine fx_idiv (n := 286) dd_M_writeOutside_285 (by decide) rfl ?_
        obtain ⟨q5, h⟩ := h
        obtain ⟨q6, h⟩ := h
        refine fx_zald (n := 287) dd_M_writeOutside_286 rfl q5.1 q5.2 q6 ?_
        refine fx_if_eq (n := 290) (tg := 297) dd_M_writeOutside_287 rfl rfl (fun hc => ?_) (fun hc => ?_)
        · replace h := h.1 hc
          refine fx_iinc (n := 300) (L' := [(9, _), (10, _), (0, _), (1, _), (2, _), (3, _), (4, _), (5, _), (6, _), (8, _)]) dd_M_writeOutside_297 9 rfl rfl (by decide) rfl rfl ?_
          refine fx_goto (n := 189) dd_M_writeOutside_300 rfl ?_
          refine fx_sub (L' := [(0, _), (1, _), (2, _), (3, _), (4, _), (5, _), (6, _), (8, _), (9, _)]) [2, 3, 4, 5, 6, 7, 8, 9, 0] rfl ?_
          exact h
        · replace h := h.2 hc
          refine fx_aload_n (n := 291) dd_M_writeOutside_290 rfl 1 rfl rfl ?_
          refine fx_iload (n := 293) dd_M_writeOutside_291 9 rfl rfl ?_
          refine fx_iconst (n := 294) (v := 0) dd_M_writeOutside_293 (by decide) rfl ?_
          refine fx_callV (n := 297) (vs := [_, _]) dd_M_writeOutside_294 mw_M_place ⟨wd_855, wd_857, wp_67⟩ rfl (by decide) q3.1 q3.2 rfl rfl ⟨Nat.le_of_ble_eq_true rfl, Nat.le_of_ble_eq_true rfl, Nat.le_of_ble_eq_true rfl, fx_nx, rfl⟩ rfl h (fx_qv_k fun S7 h => ?_) (fun _ _ h => h)
          refine fx_iinc (n := 300) (L' := [(9, _), (10, _), (0, _), (1, _), (2, _), (3, _), (4, _), (5, _), (6, _), (8, _)]) dd_M_writeOutside_297 9 rfl rfl (by decide) rfl rfl ?_
          refine fx_goto (n := 189) dd_M_writeOutside_300 rfl ?_
          refine fx_sub (L' := [(0, _), (1, _), (2, _), (3, _), (4, _), (5, _), (6, _), (8, _), (9, _)]) [2, 3, 4, 5, 6, 7, 8, 9, 0] rfl ?_
          exact h
    · replace h := h.2 hc
      refine fx_aload_n (n := 255) dd_M_writeOutside_254 rfl 1 rfl rfl ?_
      refine fx_iload (n := 257) dd_M_writeOutside_255 9 rfl rfl ?_
      refine fx_aload_n (n := 258) dd_M_writeOutside_257 rfl 1 rfl rfl ?_
      obtain ⟨q8, h⟩ := h
      obtain ⟨r9, hr9, h⟩ := h
      refine fx_getP (n := 261) dd_M_writeOutside_258 fw_M_33 (by decide) rfl rfl q8.1 q8.2 hr9 ?_
      refine fx_iload (n := 263) dd_M_writeOutside_261 9 rfl rfl ?_
      obtain ⟨q10, h⟩ := h
      obtain ⟨q11, h⟩ := h
      refine fx_iald (n := 264) dd_M_writeOutside_263 rfl q10.1 q10.2 q11 ?_
      refine fx_callV (n := 267) (vs := [_, _]) dd_M_writeOutside_264 mw_M_place ⟨wd_855, wd_857, wp_67⟩ rfl (by decide) q8.1 q8.2 rfl rfl ⟨Nat.le_of_ble_eq_true rfl, Nat.le_of_ble_eq_true rfl, Nat.le_of_ble_eq_true rfl, fx_nx, rfl⟩ rfl h (fx_qv_k fun S12 h => ?_) (fun _ _ h => h)
      refine fx_goto (n := 297) dd_M_writeOutside_267 rfl ?_
      refine fx_iinc (n := 300) (L' := [(9, _), (10, _), (0, _), (1, _), (2, _), (3, _), (4, _), (5, _), (6, _), (8, _)]) dd_M_writeOutside_297 9 rfl rfl (by decide) rfl rfl ?_
      refine fx_goto (n := 189) dd_M_writeOutside_300 rfl ?_
      refine fx_sub (L' := [(0, _), (1, _), (2, _), (3, _), (4, _), (5, _), (6, _), (8, _), (9, _)]) [2, 3, 4, 5, 6, 7, 8, 9, 0] rfl ?_
      exact h
  · replace h := h.2 hc
    refine fx_aload_n (n := 228) dd_M_writeOutside_227 rfl 1 rfl rfl ?_
    refine fx_iload (n := 230) dd_M_writeOutside_228 9 rfl rfl ?_
    refine fx_iload (n := 232) dd_M_writeOutside_230 5 rfl rfl ?_
    refine fx_iload (n := 234) dd_M_writeOutside_232 9 rfl rfl ?_
    refine fx_iadd (n := 235) dd_M_writeOutside_234 rfl ?_
    refine fx_iload_n (n := 236) dd_M_writeOutside_235 rfl 3 rfl rfl ?_
    refine fx_isub (n := 237) dd_M_writeOutside_236 rfl ?_
    refine fx_sipush (n := 240) (v := 255) dd_M_writeOutside_237 (by decide) rfl ?_
    refine fx_iand (n := 241) dd_M_writeOutside_240 rfl ?_
    obtain ⟨q14, h⟩ := h
    refine fx_callV (n := 244) (vs := [_, _]) dd_M_writeOutside_241 mw_M_place ⟨wd_855, wd_857, wp_67⟩ rfl (by decide) q14.1 q14.2 rfl rfl ⟨Nat.le_of_ble_eq_true rfl, Nat.le_of_ble_eq_true rfl, Nat.le_of_ble_eq_true rfl, fx_nx, rfl⟩ rfl h (fx_qv_k fun S13 h => ?_) (fun _ _ h => h)
    refine fx_goto (n := 297) dd_M_writeOutside_244 rfl ?_
    refine fx_iinc (n := 300) (L' := [(9, _), (10, _), (0, _), (1, _), (2, _), (3, _), (4, _), (5, _), (6, _), (8, _)]) dd_M_writeOutside_297 9 rfl rfl (by decide) rfl rfl ?_
    refine fx_goto (n := 189) dd_M_writeOutside_300 rfl ?_
    refine fx_sub (L' := [(0, _), (1, _), (2, _), (3, _), (4, _), (5, _), (6, _), (8, _), (9, _)]) [2, 3, 4, 5, 6, 7, 8, 9, 0] rfl ?_
    exact h
theorem bk_M_write_0 {G : fx_G} {S : fx_S} {Q : fx_R → fx_S → Prop} (v0 : Nat) (v1 : Int32) (v2 : Int32) (v3 : Int32) (v4 : Int32) (h : fx_is S v0 5 ∧ ∀ S2, S2 = fx_setI S v0 0 0 → (¬ (fx_I S2 v0 4) = 0 → fx_Go G (1, 15) mm_M_isKind 0 [(0, fx_r G v0), (1, .int v1), (2, .int 1)] [] S2 (fx_qi (fun x4 S3 => (x4 = 0 → fx_Go G (5, 82) mm_M_write 54 [(0, fx_r G v0), (1, .int v1), (2, .int v2), (3, .int v3), (4, .int v4)] [.int 0] S3 Q) ∧ (¬ x4 = 0 → (v2 < 0 → fx_Go G (5, 82) mm_M_write 54 [(0, fx_r G v0), (1, .int v1), (2, .int v2), (3, .int v3), (4, .int v4)] [.int 0] S3 Q) ∧ (¬ v2 < 0 → (1000 < v2 → fx_Go G (5, 82) mm_M_write 54 [(0, fx_r G v0), (1, .int v1), (2, .int v2), (3, .int v3), (4, .int v4)] [.int 0] S3 Q) ∧ (¬ 1000 < v2 → (v3 < 1 → fx_Go G (5, 82) mm_M_write 54 [(0, fx_r G v0), (1, .int v1), (2, .int v2), (3, .int v3), (4, .int v4)] [.int 0] S3 Q) ∧ (¬ v3 < 1 → (60 < v3 → fx_Go G (5, 82) mm_M_write 54 [(0, fx_r G v0), (1, .int v1), (2, .int v2), (3, .int v3), (4, .int v4)] [.int 0] S3 Q) ∧ (¬ 60 < v3 → fx_Go G (5, 82) mm_M_write 54 [(0, fx_r G v0), (1, .int v1), (2, .int v2), (3, .int v3), (4, .int v4)] [.int 1] S3 Q)))))) Q)) ∧ ((fx_I S2 v0 4) = 0 → fx_Go G (0, 0) mm_M_refuse 0 [(0, fx_r G v0), (1, .int 1)] [] S2 (fx_qi (fun x6 S5 => Q (.inl (some (.int x6))) S5) Q))) :
    fx_Go G (5, 82) mm_M_write 0 [(0, fx_r G v0), (1, .int v1), (2, .int v2), (3, .int v3), (4, .int v4)] [] S Q := by
  refine fx_aload_n (n := 1) dd_M_write_0 rfl 0 rfl rfl ?_
  refine fx_iconst (n := 2) (v := 0) dd_M_write_1 (by decide) rfl ?_
  obtain ⟨q1, h⟩ := h
  replace h := h _ rfl
  refine fx_putI (n := 5) dd_M_write_2 fw_M_54 (by decide) rfl rfl rfl rfl q1.1 q1.2 ?_
  refine fx_aload_n (n := 6) dd_M_write_5 rfl 0 rfl rfl ?_
  refine fx_getI (n := 9) dd_M_write_6 fw_M_50 (by decide) rfl rfl q1.1 q1.2 ?_
  refine fx_if_ne (n := 12) (tg := 18) dd_M_write_9 rfl rfl (fun hc => ?_) (fun hc => ?_)
  · replace h := h.1 hc
    refine fx_aload_n (n := 19) dd_M_write_18 rfl 0 rfl rfl ?_
    refine fx_iload_n (n := 20) dd_M_write_19 rfl 1 rfl rfl ?_
    refine fx_iconst (n := 21) (v := 1) dd_M_write_20 (by decide) rfl ?_
    refine fx_callV (n := 24) (vs := [_, _]) dd_M_write_21 mw_M_isKind ⟨wd_721, wd_723, wp_38⟩ rfl (by decide) q1.1 q1.2 rfl rfl ⟨Nat.le_of_ble_eq_true rfl, Nat.le_of_ble_eq_true rfl, Nat.le_of_ble_eq_true rfl, fx_nx, rfl⟩ rfl h (fx_qi_k fun x4 S3 h => ?_) (fun _ _ h => h)
    refine fx_if_eq (n := 27) (tg := 53) dd_M_write_24 rfl rfl (fun hc => ?_) (fun hc => ?_)
    · replace h := h.1 hc
      refine fx_iconst (n := 54) (v := 0) dd_M_write_53 (by decide) rfl ?_
      exact h
    · replace h := h.2 hc
      refine fx_iload_n (n := 28) dd_M_write_27 rfl 2 rfl rfl ?_
      refine fx_if_lt (n := 31) (tg := 53) dd_M_write_28 rfl rfl (fun hc => ?_) (fun hc => ?_)
      · replace h := h.1 hc
        refine fx_iconst (n := 54) (v := 0) dd_M_write_53 (by decide) rfl ?_
        exact h
      · replace h := h.2 hc
        refine fx_iload_n (n := 32) dd_M_write_31 rfl 2 rfl rfl ?_
        refine fx_sipush (n := 35) (v := 1000) dd_M_write_32 (by decide) rfl ?_
        refine fx_icmp_gt (n := 38) (tg := 53) dd_M_write_35 rfl rfl (fun hc => ?_) (fun hc => ?_)
        · replace h := h.1 hc
          refine fx_iconst (n := 54) (v := 0) dd_M_write_53 (by decide) rfl ?_
          exact h
        · replace h := h.2 hc
          refine fx_iload_n (n := 39) dd_M_write_38 rfl 3 rfl rfl ?_
          refine fx_iconst (n := 40) (v := 1) dd_M_write_39 (by decide) rfl ?_
          refine fx_icmp_lt (n := 43) (tg := 53) dd_M_write_40 rfl rfl (fun hc => ?_) (fun hc => ?_)
          · replace h := h.1 hc
            refine fx_iconst (n := 54) (v := 0) dd_M_write_53 (by decide) rfl ?_
            exact h
          · replace h := h.2 hc
            refine fx_iload_n (n := 44) dd_M_write_43 rfl 3 rfl rfl ?_
            refine fx_bipush (n := 46) (v := 60) dd_M_write_44 (by decide) rfl ?_
            refine fx_icmp_gt (n := 49) (tg := 53) dd_M_write_46 rfl rfl (fun hc => ?_) (fun hc => ?_)
            · replace h := h.1 hc
              refine fx_iconst (n := 54) (v := 0) dd_M_write_53 (by decide) rfl ?_
              exact h
            · replace h := h.2 hc
              refine fx_iconst (n := 50) (v := 1) dd_M_write_49 (by decide) rfl ?_
              refine fx_goto (n := 54) dd_M_write_50 rfl ?_
              exact h
  · replace h := h.2 hc
    refine fx_aload_n (n := 13) dd_M_write_12 rfl 0 rfl rfl ?_
    refine fx_iconst (n := 14) (v := 1) dd_M_write_13 (by decide) rfl ?_
    refine fx_callV (n := 17) (vs := [_]) dd_M_write_14 mw_M_refuse ⟨wd_717, wd_719, wp_37⟩ rfl (by decide) q1.1 q1.2 rfl rfl ⟨Nat.le_of_ble_eq_true rfl, Nat.le_of_ble_eq_true rfl, Nat.le_of_ble_eq_true rfl, fx_nx, rfl⟩ rfl h (fx_qi_k fun x6 S5 h => ?_) (fun _ _ h => h)
    exact fx_iret dd_M_write_17 rfl h
theorem bk_M_write_54 {G : fx_G} {S : fx_S} {Q : fx_R → fx_S → Prop} (v0 : Nat) (v1 : Int32) (v2 : Int32) (v3 : Int32) (v4 : Int32) (z0 : Int32) (h : (z0 = 0 → fx_is S v0 5 ∧ fx_Go G (0, 0) mm_M_refuse 0 [(0, fx_r G v0), (1, .int 2)] [] S (fx_qi (fun x3 S1 => Q (.inl (some (.int x3))) S1) Q)) ∧ (¬ z0 = 0 → ((v2 + v3) ≤ 1000 → fx_is S v0 5 ∧ fx_Go G (2, 32) mm_M_sizeOf 0 [(0, fx_r G v0), (1, .int v1)] [] S (fx_qi (fun x6 S4 => ((v2 + v3) ≤ x6 → fx_Go G (5, 82) mm_M_write 99 [(0, fx_r G v0), (1, .int v1), (2, .int v2), (3, .int v3), (4, .int v4), (6, .int x6)] [.int x6] S4 Q) ∧ (¬ (v2 + v3) ≤ x6 → fx_Go G (5, 82) mm_M_write 99 [(0, fx_r G v0), (1, .int v1), (2, .int v2), (3, .int v3), (4, .int v4), (6, .int x6)] [.int (v2 + v3)] S4 Q)) Q)) ∧ (¬ (v2 + v3) ≤ 1000 → fx_is S v0 5 ∧ fx_Go G (0, 0) mm_M_refuse 0 [(0, fx_r G v0), (1, .int 2)] [] S (fx_qi (fun x9 S7 => Q (.inl (some (.int x9))) S7) Q)))) :
    fx_Go G (5, 82) mm_M_write 54 [(0, fx_r G v0), (1, .int v1), (2, .int v2), (3, .int v3), (4, .int v4)] [.int z0] S Q := by
  refine fx_istore (n := 56) (L' := [(5, _), (0, _), (1, _), (2, _), (3, _), (4, _)]) dd_M_write_54 (by decide) rfl rfl ?_
  refine fx_iload (n := 58) dd_M_write_56 0 rfl rfl ?_
  refine fx_if_eq (n := 61) (tg := 70) dd_M_write_58 rfl rfl (fun hc => ?_) (fun hc => ?_)
  · replace h := h.1 hc
    refine fx_aload_n (n := 71) dd_M_write_70 rfl 1 rfl rfl ?_
    refine fx_iconst (n := 72) (v := 2) dd_M_write_71 (by decide) rfl ?_
    obtain ⟨q2, h⟩ := h
    refine fx_callV (n := 75) (vs := [_]) dd_M_write_72 mw_M_refuse ⟨wd_717, wd_719, wp_37⟩ rfl (by decide) q2.1 q2.2 rfl rfl ⟨Nat.le_of_ble_eq_true rfl, Nat.le_of_ble_eq_true rfl, Nat.le_of_ble_eq_true rfl, fx_nx, rfl⟩ rfl h (fx_qi_k fun x3 S1 h => ?_) (fun _ _ h => h)
    exact fx_iret dd_M_write_75 rfl h
  · replace h := h.2 hc
    refine fx_iload_n (n := 62) dd_M_write_61 rfl 3 rfl rfl ?_
    refine fx_iload_n (n := 63) dd_M_write_62 rfl 4 rfl rfl ?_
    refine fx_iadd (n := 64) dd_M_write_63 rfl ?_
    refine fx_sipush (n := 67) (v := 1000) dd_M_write_64 (by decide) rfl ?_
    refine fx_icmp_le (n := 70) (tg := 76) dd_M_write_67 rfl rfl (fun hc => ?_) (fun hc => ?_)
    · replace h := h.1 hc
      refine fx_aload_n (n := 77) dd_M_write_76 rfl 1 rfl rfl ?_
      refine fx_iload_n (n := 78) dd_M_write_77 rfl 2 rfl rfl ?_
      obtain ⟨q5, h⟩ := h
      refine fx_callV (n := 81) (vs := [_]) dd_M_write_78 mw_M_sizeOf ⟨wd_817, wd_819, wp_59⟩ rfl (by decide) q5.1 q5.2 rfl rfl ⟨Nat.le_of_ble_eq_true rfl, Nat.le_of_ble_eq_true rfl, Nat.le_of_ble_eq_true rfl, fx_nx, rfl⟩ rfl h (fx_qi_k fun x6 S4 h => ?_) (fun _ _ h => h)
      refine fx_istore (n := 83) (L' := [(6, _), (5, _), (0, _), (1, _), (2, _), (3, _), (4, _)]) dd_M_write_81 (by decide) rfl rfl ?_
      refine fx_iload_n (n := 84) dd_M_write_83 rfl 4 rfl rfl ?_
      refine fx_iload_n (n := 85) dd_M_write_84 rfl 5 rfl rfl ?_
      refine fx_iadd (n := 86) dd_M_write_85 rfl ?_
      refine fx_iload (n := 88) dd_M_write_86 0 rfl rfl ?_
      refine fx_icmp_le (n := 91) (tg := 97) dd_M_write_88 rfl rfl (fun hc => ?_) (fun hc => ?_)
      · replace h := h.1 hc
        refine fx_iload (n := 99) dd_M_write_97 0 rfl rfl ?_
        refine fx_sub (L' := [(0, _), (1, _), (2, _), (3, _), (4, _), (6, _)]) [2, 3, 4, 5, 6, 0] rfl ?_
        exact h
      · replace h := h.2 hc
        refine fx_iload_n (n := 92) dd_M_write_91 rfl 4 rfl rfl ?_
        refine fx_iload_n (n := 93) dd_M_write_92 rfl 5 rfl rfl ?_
        refine fx_iadd (n := 94) dd_M_write_93 rfl ?_
        refine fx_goto (n := 99) dd_M_write_94 rfl ?_
        refine fx_sub (L' := [(0, _), (1, _), (2, _), (3, _), (4, _), (6, _)]) [2, 3, 4, 5, 6, 0] rfl ?_
        exact h
    · replace h := h.2 hc
      refine fx_aload_n (n := 71) dd_M_write_70 rfl 1 rfl rfl ?_
      refine fx_iconst (n := 72) (v := 2) dd_M_write_71 (by decide) rfl ?_
      obtain ⟨q8, h⟩ := h
      refine fx_callV (n := 75) (vs := [_]) dd_M_write_72 mw_M_refuse ⟨wd_717, wd_719, wp_37⟩ rfl (by decide) q8.1 q8.2 rfl rfl ⟨Nat.le_of_ble_eq_true rfl, Nat.le_of_ble_eq_true rfl, Nat.le_of_ble_eq_true rfl, fx_nx, rfl⟩ rfl h (fx_qi_k fun x9 S7 h => ?_) (fun _ _ h => h)
      exact fx_iret dd_M_write_75 rfl h
theorem bk_M_write_99 {G : fx_G} {S : fx_S} {Q : fx_R → fx_S → Prop} (v0 : Nat) (v1 : Int32) (v2 : Int32) (v3 : Int32) (v4 : Int32) (v6 : Int32) (z0 : Int32) (h : fx_is S v0 5 ∧ fx_Go G (2, 32) mm_M_isInside 0 [(0, fx_r G v0), (1, .int v1)] [] S (fx_qi (fun x3 S1 => (x3 = 0 → fx_is S1 v0 5 ∧ fx_Go G (4, 60) mm_M_writeOutside 0 [(0, fx_r G v0), (1, .int v1), (2, .int v2), (3, .int v3), (4, .int v4)] [] S1 (fx_qi (fun x6 S4 => Q (.inl (some (.int x6))) S4) Q)) ∧ (¬ x3 = 0 → fx_is S1 v0 5 ∧ fx_Go G (2, 32) mm_M_nameLength 0 [(0, fx_r G v0), (1, .int v1)] [] S1 (fx_qi (fun x9 S7 => (z0 ≤ (50 - x9) → fx_is S7 v0 5 ∧ fx_Go G (1, 16) mm_M_attribute 0 [(0, fx_r G v0), (1, .int v1), (2, .int 2)] [] S7 (fx_qi (fun x12 S10 => fx_Go G (5, 82) mm_M_write 145 [(0, fx_r G v0), (1, .int v1), (2, .int v2), (3, .int v3), (4, .int v4), (6, .int v6), (7, .int z0), (8, .int (x12 + 2)), (9, .int 0)] [] S10 Q) Q)) ∧ (¬ z0 ≤ (50 - x9) → fx_is S7 v0 5 ∧ fx_Go G (4, 60) mm_M_writeOutside 0 [(0, fx_r G v0), (1, .int v1), (2, .int v2), (3, .int v3), (4, .int v4)] [] S7 (fx_qi (fun x15 S13 => Q (.inl (some (.int x15))) S13) Q))) Q))) Q)) :
    fx_Go G (5, 82) mm_M_write 99 [(0, fx_r G v0), (1, .int v1), (2, .int v2), (3, .int v3), (4, .int v4), (6, .int v6)] [.int z0] S Q := by
  refine fx_istore (n := 101) (L' := [(7, _), (0, _), (1, _), (2, _), (3, _), (4, _), (6, _)]) dd_M_write_99 (by decide) rfl rfl ?_
  refine fx_aload_n (n := 102) dd_M_write_101 rfl 1 rfl rfl ?_
  refine fx_iload_n (n := 103) dd_M_write_102 rfl 2 rfl rfl ?_
  obtain ⟨q2, h⟩ := h
  refine fx_callV (n := 106) (vs := [_]) dd_M_write_103 mw_M_isInside ⟨wd_821, wd_823, wp_60⟩ rfl (by decide) q2.1 q2.2 rfl rfl ⟨Nat.le_of_ble_eq_true rfl, Nat.le_of_ble_eq_true rfl, Nat.le_of_ble_eq_true rfl, fx_nx, rfl⟩ rfl h (fx_qi_k fun x3 S1 h => ?_) (fun _ _ h => h)
  refine fx_if_eq (n := 109) (tg := 122) dd_M_write_106 rfl rfl (fun hc => ?_) (fun hc => ?_)
  · replace h := h.1 hc
    refine fx_aload_n (n := 123) dd_M_write_122 rfl 1 rfl rfl ?_
    refine fx_iload_n (n := 124) dd_M_write_123 rfl 2 rfl rfl ?_
    refine fx_iload_n (n := 125) dd_M_write_124 rfl 3 rfl rfl ?_
    refine fx_iload_n (n := 126) dd_M_write_125 rfl 4 rfl rfl ?_
    refine fx_iload (n := 128) dd_M_write_126 5 rfl rfl ?_
    obtain ⟨q5, h⟩ := h
    refine fx_callV (n := 131) (vs := [_, _, _, _]) dd_M_write_128 mw_M_writeOutside ⟨wd_825, wd_827, wp_61⟩ rfl (by decide) q5.1 q5.2 rfl rfl ⟨Nat.le_of_ble_eq_true rfl, Nat.le_of_ble_eq_true rfl, Nat.le_of_ble_eq_true rfl, fx_nx, rfl⟩ rfl h (fx_qi_k fun x6 S4 h => ?_) (fun _ _ h => h)
    exact fx_iret dd_M_write_131 rfl h
  · replace h := h.2 hc
    refine fx_iload (n := 111) dd_M_write_109 0 rfl rfl ?_
    refine fx_bipush (n := 113) (v := 50) dd_M_write_111 (by decide) rfl ?_
    refine fx_aload_n (n := 114) dd_M_write_113 rfl 1 rfl rfl ?_
    refine fx_iload_n (n := 115) dd_M_write_114 rfl 2 rfl rfl ?_
    obtain ⟨q8, h⟩ := h
    refine fx_callV (n := 118) (vs := [_]) dd_M_write_115 mw_M_nameLength ⟨wd_753, wd_755, wp_46⟩ rfl (by decide) q8.1 q8.2 rfl rfl ⟨Nat.le_of_ble_eq_true rfl, Nat.le_of_ble_eq_true rfl, Nat.le_of_ble_eq_true rfl, fx_nx, rfl⟩ rfl h (fx_qi_k fun x9 S7 h => ?_) (fun _ _ h => h)
    refine fx_isub (n := 119) dd_M_write_118 rfl ?_
    refine fx_icmp_le (n := 122) (tg := 132) dd_M_write_119 rfl rfl (fun hc => ?_) (fun hc => ?_)
    · replace h := h.1 hc
      refine fx_aload_n (n := 133) dd_M_write_132 rfl 1 rfl rfl ?_
      refine fx_iload_n (n := 134) dd_M_write_133 rfl 2 rfl rfl ?_
      refine fx_iconst (n := 135) (v := 2) dd_M_write_134 (by decide) rfl ?_
      obtain ⟨q11, h⟩ := h
      refine fx_callV (n := 138) (vs := [_, _]) dd_M_write_135 mw_M_attribute ⟨wd_741, wd_743, wp_43⟩ rfl (by decide) q11.1 q11.2 rfl rfl ⟨Nat.le_of_ble_eq_true rfl, Nat.le_of_ble_eq_true rfl, Nat.le_of_ble_eq_true rfl, fx_nx, rfl⟩ rfl h (fx_qi_k fun x12 S10 h => ?_) (fun _ _ h => h)
      refine fx_iconst (n := 139) (v := 2) dd_M_write_138 (by decide) rfl ?_
      refine fx_iadd (n := 140) dd_M_write_139 rfl ?_
      refine fx_istore (n := 142) (L' := [(8, _), (7, _), (0, _), (1, _), (2, _), (3, _), (4, _), (6, _)]) dd_M_write_140 (by decide) rfl rfl ?_
      refine fx_iconst (n := 143) (v := 0) dd_M_write_142 (by decide) rfl ?_
      refine fx_istore (n := 145) (L' := [(9, _), (8, _), (7, _), (0, _), (1, _), (2, _), (3, _), (4, _), (6, _)]) dd_M_write_143 (by decide) rfl rfl ?_
      refine fx_sub (L' := [(0, _), (1, _), (2, _), (3, _), (4, _), (6, _), (7, _), (8, _), (9, _)]) [3, 4, 5, 6, 7, 8, 2, 1, 0] rfl ?_
      exact h
    · replace h := h.2 hc
      refine fx_aload_n (n := 123) dd_M_write_122 rfl 1 rfl rfl ?_
      refine fx_iload_n (n := 124) dd_M_write_123 rfl 2 rfl rfl ?_
      refine fx_iload_n (n := 125) dd_M_write_124 rfl 3 rfl rfl ?_
      refine fx_iload_n (n := 126) dd_M_write_125 rfl 4 rfl rfl ?_
      refine fx_iload (n := 128) dd_M_write_126 5 rfl rfl ?_
      obtain ⟨q14, h⟩ := h
      refine fx_callV (n := 131) (vs := [_, _, _, _]) dd_M_write_128 mw_M_writeOutside ⟨wd_825, wd_827, wp_61⟩ rfl (by decide) q14.1 q14.2 rfl rfl ⟨Nat.le_of_ble_eq_true rfl, Nat.le_of_ble_eq_true rfl, Nat.le_of_ble_eq_true rfl, fx_nx, rfl⟩ rfl h (fx_qi_k fun x15 S13 h => ?_) (fun _ _ h => h)
      exact fx_iret dd_M_write_131 rfl h
theorem bk_M_write_145 {G : fx_G} {S : fx_S} {Q : fx_R → fx_S → Prop} (v0 : Nat) (v1 : Int32) (v2 : Int32) (v3 : Int32) (v4 : Int32) (v6 : Int32) (v7 : Int32) (v8 : Int32) (v9 : Int32) (h : (v7 ≤ v9 → fx_is S v0 5 ∧ fx_Go G (0, 0) mm_M_byteOf 0 [(0, fx_r G v0), (1, .int v1), (2, .int 1)] [] S (fx_qi (fun x3 S1 => fx_is S1 v0 5 ∧ fx_Go G (0, 0) mm_M_begin 0 [(0, fx_r G v0), (1, .int 1), (2, .int x3)] [] S1 (fx_qv (fun S4 => fx_is S4 v0 5 ∧ fx_Go G (3, 45) mm_M_putName 0 [(0, fx_r G v0), (1, .int v1)] [] S4 (fx_qv (fun S6 => fx_is S6 v0 5 ∧ fx_Go G (1, 13) mm_M_putInside 0 [(0, fx_r G v0), (1, .int v7)] [] S6 (fx_qv (fun S8 => fx_is S8 v0 5 ∧ fx_Go G (1, 15) mm_M_store 0 [(0, fx_r G v0), (1, .int v1)] [] S8 (fx_qi (fun x12 S10 => (x12 = 0 → fx_is S10 v0 5 ∧ fx_Go G (0, 0) mm_M_refuse 0 [(0, fx_r G v0), (1, .int 1)] [] S10 (fx_qi (fun x15 S13 => Q (.inl (some (.int x15))) S13) Q)) ∧ (¬ x12 = 0 → Q (.inl (some (.int v7))) S10)) Q)) Q)) Q)) Q)) Q)) ∧ (¬ v7 ≤ v9 → fx_is S v0 5 ∧ ∃ r17, fx_P S v0 13 = some r17 ∧ (v9 < v2 → fx_Go G (5, 82) mm_M_write 186 [(0, fx_r G v0), (1, .int v1), (2, .int v2), (3, .int v3), (4, .int v4), (6, .int v6), (7, .int v7), (8, .int v8), (9, .int v9)] [.int v9, fx_r G r17] S Q) ∧ (¬ v9 < v2 → ((v2 + v3) ≤ v9 → fx_Go G (5, 82) mm_M_write 186 [(0, fx_r G v0), (1, .int v1), (2, .int v2), (3, .int v3), (4, .int v4), (6, .int v6), (7, .int v7), (8, .int v8), (9, .int v9)] [.int v9, fx_r G r17] S Q) ∧ (¬ (v2 + v3) ≤ v9 → fx_is S r17 100 ∧ vp_in v9 (fx_ln S r17) ∧ ∀ S20, S20 = fx_setI S r17 (v9.toNatClampNeg) (((v4 + v9) - v2) &&& 255) → fx_Go G (5, 82) mm_M_write 145 [(0, fx_r G v0), (1, .int v1), (2, .int v2), (3, .int v3), (4, .int v4), (6, .int v6), (7, .int v7), (8, .int v8), (9, .int (v9 + Int32.ofInt 1))] [] S20 Q)))) :
    fx_Go G (5, 82) mm_M_write 145 [(0, fx_r G v0), (1, .int v1), (2, .int v2), (3, .int v3), (4, .int v4), (6, .int v6), (7, .int v7), (8, .int v8), (9, .int v9)] [] S Q := by
  refine fx_iload (n := 147) dd_M_write_145 8 rfl rfl ?_
  refine fx_iload (n := 149) dd_M_write_147 6 rfl rfl ?_
  refine fx_icmp_ge (n := 152) (tg := 214) dd_M_write_149 rfl rfl (fun hc => ?_) (fun hc => ?_)
  · replace h := h.1 hc
    refine fx_aload_n (n := 215) dd_M_write_214 rfl 0 rfl rfl ?_
    refine fx_iconst (n := 216) (v := 1) dd_M_write_215 (by decide) rfl ?_
    refine fx_aload_n (n := 217) dd_M_write_216 rfl 0 rfl rfl ?_
    refine fx_iload_n (n := 218) dd_M_write_217 rfl 1 rfl rfl ?_
    refine fx_iconst (n := 219) (v := 1) dd_M_write_218 (by decide) rfl ?_
    obtain ⟨q2, h⟩ := h
    refine fx_callV (n := 222) (vs := [_, _]) dd_M_write_219 mw_M_byteOf ⟨wd_729, wd_731, wp_40⟩ rfl (by decide) q2.1 q2.2 rfl rfl ⟨Nat.le_of_ble_eq_true rfl, Nat.le_of_ble_eq_true rfl, Nat.le_of_ble_eq_true rfl, fx_nx, rfl⟩ rfl h (fx_qi_k fun x3 S1 h => ?_) (fun _ _ h => h)
    obtain ⟨q5, h⟩ := h
    refine fx_callV (n := 225) (vs := [_, _]) dd_M_write_222 mw_M_begin ⟨wd_623, wd_625, wp_30⟩ rfl (by decide) q5.1 q5.2 rfl rfl ⟨Nat.le_of_ble_eq_true rfl, Nat.le_of_ble_eq_true rfl, Nat.le_of_ble_eq_true rfl, fx_nx, rfl⟩ rfl h (fx_qv_k fun S4 h => ?_) (fun _ _ h => h)
    refine fx_aload_n (n := 226) dd_M_write_225 rfl 0 rfl rfl ?_
    refine fx_iload_n (n := 227) dd_M_write_226 rfl 1 rfl rfl ?_
    obtain ⟨q7, h⟩ := h
    refine fx_callV (n := 230) (vs := [_]) dd_M_write_227 mw_M_putName ⟨wd_785, wd_787, wp_54⟩ rfl (by decide) q7.1 q7.2 rfl rfl ⟨Nat.le_of_ble_eq_true rfl, Nat.le_of_ble_eq_true rfl, Nat.le_of_ble_eq_true rfl, fx_nx, rfl⟩ rfl h (fx_qv_k fun S6 h => ?_) (fun _ _ h => h)
    refine fx_aload_n (n := 231) dd_M_write_230 rfl 0 rfl rfl ?_
    refine fx_iload (n := 233) dd_M_write_231 6 rfl rfl ?_
    obtain ⟨q9, h⟩ := h
    refine fx_callV (n := 236) (vs := [_]) dd_M_write_233 mw_M_putInside ⟨wd_765, wd_767, wp_49⟩ rfl (by decide) q9.1 q9.2 rfl rfl ⟨Nat.le_of_ble_eq_true rfl, Nat.le_of_ble_eq_true rfl, Nat.le_of_ble_eq_true rfl, fx_nx, rfl⟩ rfl h (fx_qv_k fun S8 h => ?_) (fun _ _ h => h)
    refine fx_aload_n (n := 237) dd_M_write_236 rfl 0 rfl rfl ?_
    refine fx_iload_n (n := 238) dd_M_write_237 rfl 1 rfl rfl ?_
    obtain ⟨q11, h⟩ := h
    refine fx_callV (n := 241) (vs := [_]) dd_M_write_238 mw_M_store ⟨wd_635, wd_637, wp_33⟩ rfl (by decide) q11.1 q11.2 rfl rfl ⟨Nat.le_of_ble_eq_true rfl, Nat.le_of_ble_eq_true rfl, Nat.le_of_ble_eq_true rfl, fx_nx, rfl⟩ rfl h (fx_qi_k fun x12 S10 h => ?_) (fun _ _ h => h)
    refine fx_if_eq (n := 244) (tg := 249) dd_M_write_241 rfl rfl (fun hc => ?_) (fun hc => ?_)
    · replace h := h.1 hc
      refine fx_aload_n (n := 250) dd_M_write_249 rfl 0 rfl rfl ?_
      refine fx_iconst (n := 251) (v := 1) dd_M_write_250 (by decide) rfl ?_
      obtain ⟨q14, h⟩ := h
      refine fx_callV (n := 254) (vs := [_]) dd_M_write_251 mw_M_refuse ⟨wd_717, wd_719, wp_37⟩ rfl (by decide) q14.1 q14.2 rfl rfl ⟨Nat.le_of_ble_eq_true rfl, Nat.le_of_ble_eq_true rfl, Nat.le_of_ble_eq_true rfl, fx_nx, rfl⟩ rfl h (fx_qi_k fun x15 S13 h => ?_) (fun _ _ h => h)
      exact fx_iret dd_M_write_254 rfl h
    · replace h := h.2 hc
      refine fx_iload (n := 246) dd_M_write_244 6 rfl rfl ?_
      refine fx_goto (n := 254) dd_M_write_246 rfl ?_
      exact fx_iret dd_M_write_254 rfl h
  · replace h := h.2 hc
    refine fx_aload_n (n := 153) dd_M_write_152 rfl 0 rfl rfl ?_
    obtain ⟨q16, h⟩ := h
    obtain ⟨r17, hr17, h⟩ := h
    refine fx_getP (n := 156) dd_M_write_153 fw_M_33 (by decide) rfl rfl q16.1 q16.2 hr17 ?_
    refine fx_iload (n := 158) dd_M_write_156 8 rfl rfl ?_
    refine fx_iload (n := 160) dd_M_write_158 8 rfl rfl ?_
    refine fx_iload_n (n := 161) dd_M_write_160 rfl 2 rfl rfl ?_
    refine fx_icmp_lt (n := 164) (tg := 186) dd_M_write_161 rfl rfl (fun hc => ?_) (fun hc => ?_)
    · replace h := h.1 hc
      exact h
    · replace h := h.2 hc
      refine fx_iload (n := 166) dd_M_write_164 8 rfl rfl ?_
      refine fx_iload_n (n := 167) dd_M_write_166 rfl 2 rfl rfl ?_
      refine fx_iload_n (n := 168) dd_M_write_167 rfl 3 rfl rfl ?_
      refine fx_iadd (n := 169) dd_M_write_168 rfl ?_
      refine fx_icmp_ge (n := 172) (tg := 186) dd_M_write_169 rfl rfl (fun hc => ?_) (fun hc => ?_)
      · replace h := h.1 hc
        exact h
      · replace h := h.2 hc
        refine fx_iload (n := 174) dd_M_write_172 4 rfl rfl ?_
        refine fx_iload (n := 176) dd_M_write_174 8 rfl rfl ?_
        refine fx_iadd (n := 177) dd_M_write_176 rfl ?_
        refine fx_iload_n (n := 178) dd_M_write_177 rfl 2 rfl rfl ?_
        refine fx_isub (n := 179) dd_M_write_178 rfl ?_
        refine fx_sipush (n := 182) (v := 255) dd_M_write_179 (by decide) rfl ?_
        refine fx_iand (n := 183) dd_M_write_182 rfl ?_
        refine fx_goto (n := 207) dd_M_write_183 rfl ?_
        obtain ⟨q18, h⟩ := h
        obtain ⟨q19, h⟩ := h
        replace h := h _ rfl
        refine fx_iast (n := 208) dd_M_write_207 rfl q18.1 q18.2 q19 ?_
        refine fx_iinc (n := 211) (L' := [(9, _), (0, _), (1, _), (2, _), (3, _), (4, _), (6, _), (7, _), (8, _)]) dd_M_write_208 8 rfl rfl (by decide) rfl rfl ?_
        refine fx_goto (n := 145) dd_M_write_211 rfl ?_
        refine fx_sub (L' := [(0, _), (1, _), (2, _), (3, _), (4, _), (6, _), (7, _), (8, _), (9, _)]) [1, 2, 3, 4, 5, 6, 7, 8, 0] rfl ?_
        exact h
theorem bk_M_write_186 {G : fx_G} {S : fx_S} {Q : fx_R → fx_S → Prop} (v0 : Nat) (v1 : Int32) (v2 : Int32) (v3 : Int32) (v4 : Int32) (v6 : Int32) (v7 : Int32) (v8 : Int32) (v9 : Int32) (z0 : Int32) (z1 : Nat) (h : (v6 ≤ v9 → fx_is S z1 100 ∧ vp_in z0 (fx_ln S z1) ∧ ∀ S3, S3 = fx_setI S z1 (z0.toNatClampNeg) 0 → fx_Go G (5, 82) mm_M_write 145 [(0, fx_r G v0), (1, .int v1), (2, .int v2), (3, .int v3), (4, .int v4), (6, .int v6), (7, .int v7), (8, .int v8), (9, .int (v9 + Int32.ofInt 1))] [] S3 Q) ∧ (¬ v6 ≤ v9 → fx_is S v0 5 ∧ fx_Go G (0, 0) mm_M_byteOf 0 [(0, fx_r G v0), (1, .int v1), (2, .int (v8 + v9))] [] S (fx_qi (fun x6 S4 => fx_is S4 z1 100 ∧ vp_in z0 (fx_ln S4 z1) ∧ ∀ S9, S9 = fx_setI S4 z1 (z0.toNatClampNeg) x6 → fx_Go G (5, 82) mm_M_write 145 [(0, fx_r G v0), (1, .int v1), (2, .int v2), (3, .int v3), (4, .int v4), (6, .int v6), (7, .int v7), (8, .int v8), (9, .int (v9 + Int32.ofInt 1))] [] S9 Q) Q))) :
    fx_Go G (5, 82) mm_M_write 186 [(0, fx_r G v0), (1, .int v1), (2, .int v2), (3, .int v3), (4, .int v4), (6, .int v6), (7, .int v7), (8, .int v8), (9, .int v9)] [.int z0, fx_r G z1] S Q := by
  refine fx_iload (n := 188) dd_M_write_186 8 rfl rfl ?_
  refine fx_iload (n := 190) dd_M_write_188 5 rfl rfl ?_
  refine fx_icmp_ge (n := 193) (tg := 206) dd_M_write_190 rfl rfl (fun hc => ?_) (fun hc => ?_)
  · replace h := h.1 hc
    refine fx_iconst (n := 207) (v := 0) dd_M_write_206 (by decide) rfl ?_
    obtain ⟨q1, h⟩ := h
    obtain ⟨q2, h⟩ := h
    replace h := h _ rfl
    refine fx_iast (n := 208) dd_M_write_207 rfl q1.1 q1.2 q2 ?_
    refine fx_iinc (n := 211) (L' := [(9, _), (0, _), (1, _), (2, _), (3, _), (4, _), (6, _), (7, _), (8, _)]) dd_M_write_208 8 rfl rfl (by decide) rfl rfl ?_
    refine fx_goto (n := 145) dd_M_write_211 rfl ?_
    refine fx_sub (L' := [(0, _), (1, _), (2, _), (3, _), (4, _), (6, _), (7, _), (8, _), (9, _)]) [1, 2, 3, 4, 5, 6, 7, 8, 0] rfl ?_
    exact h
  · replace h := h.2 hc
    refine fx_aload_n (n := 194) dd_M_write_193 rfl 0 rfl rfl ?_
    refine fx_iload_n (n := 195) dd_M_write_194 rfl 1 rfl rfl ?_
    refine fx_iload (n := 197) dd_M_write_195 7 rfl rfl ?_
    refine fx_iload (n := 199) dd_M_write_197 8 rfl rfl ?_
    refine fx_iadd (n := 200) dd_M_write_199 rfl ?_
    obtain ⟨q5, h⟩ := h
    refine fx_callV (n := 203) (vs := [_, _]) dd_M_write_200 mw_M_byteOf ⟨wd_729, wd_731, wp_40⟩ rfl (by decide) q5.1 q5.2 rfl rfl ⟨Nat.le_of_ble_eq_true rfl, Nat.le_of_ble_eq_true rfl, Nat.le_of_ble_eq_true rfl, fx_nx, rfl⟩ rfl h (fx_qi_k fun x6 S4 h => ?_) (fun _ _ h => h)
    refine fx_goto (n := 207) dd_M_write_203 rfl ?_
    obtain ⟨q7, h⟩ := h
    obtain ⟨q8, h⟩ := h
    replace h := h _ rfl
    refine fx_iast (n := 208) dd_M_write_207 rfl q7.1 q7.2 q8 ?_
    refine fx_iinc (n := 211) (L' := [(9, _), (0, _), (1, _), (2, _), (3, _), (4, _), (6, _), (7, _), (8, _)]) dd_M_write_208 8 rfl rfl (by decide) rfl rfl ?_
    refine fx_goto (n := 145) dd_M_write_211 rfl ?_
    refine fx_sub (L' := [(0, _), (1, _), (2, _), (3, _), (4, _), (6, _), (7, _), (8, _), (9, _)]) [1, 2, 3, 4, 5, 6, 7, 8, 0] rfl ?_
    exact h
theorem bk_M_cut_0 {G : fx_G} {S : fx_S} {Q : fx_R → fx_S → Prop} (v0 : Nat) (v1 : Int32) (v2 : Int32) (h : fx_is S v0 5 ∧ ∀ S2, S2 = fx_setI S v0 0 0 → (¬ (fx_I S2 v0 4) = 0 → fx_Go G (1, 15) mm_M_isKind 0 [(0, fx_r G v0), (1, .int v1), (2, .int 1)] [] S2 (fx_qi (fun x4 S3 => (¬ x4 = 0 → fx_is S3 v0 5 ∧ fx_Go G (2, 32) mm_M_sizeOf 0 [(0, fx_r G v0), (1, .int v1)] [] S3 (fx_qi (fun x7 S5 => (v2 < 0 → fx_is S5 v0 5 ∧ fx_Go G (0, 0) mm_M_refuse 0 [(0, fx_r G v0), (1, .int 2)] [] S5 (fx_qi (fun x10 S8 => Q (.inl (some (.int x10))) S8) Q)) ∧ (¬ v2 < 0 → (v2 ≤ x7 → fx_is S5 v0 5 ∧ fx_Go G (2, 32) mm_M_isInside 0 [(0, fx_r G v0), (1, .int v1)] [] S5 (fx_qi (fun x13 S11 => fx_is S11 v0 5 ∧ fx_Go G (2, 32) mm_M_loadMap 0 [(0, fx_r G v0), (1, .int v1)] [] S11 (fx_qv (fun S14 => fx_is S14 v0 5 ∧ fx_Go G (1, 16) mm_M_attribute 0 [(0, fx_r G v0), (1, .int v1), (2, .int 2)] [] S14 (fx_qi (fun x18 S17 => fx_Go G (4, 60) mm_M_cut 85 [(0, fx_r G v0), (1, .int v1), (2, .int v2), (3, .int x7), (4, .int x13), (5, .int (fx_I S14 v0 10)), (6, .int (x18 + 2)), (7, .int 0)] [] S17 Q) Q)) Q)) Q)) ∧ (¬ v2 ≤ x7 → fx_is S5 v0 5 ∧ fx_Go G (0, 0) mm_M_refuse 0 [(0, fx_r G v0), (1, .int 2)] [] S5 (fx_qi (fun x21 S19 => Q (.inl (some (.int x21))) S19) Q)))) Q)) ∧ (x4 = 0 → fx_is S3 v0 5 ∧ fx_Go G (0, 0) mm_M_refuse 0 [(0, fx_r G v0), (1, .int 2)] [] S3 (fx_qi (fun x24 S22 => Q (.inl (some (.int x24))) S22) Q))) Q)) ∧ ((fx_I S2 v0 4) = 0 → fx_Go G (0, 0) mm_M_refuse 0 [(0, fx_r G v0), (1, .int 1)] [] S2 (fx_qi (fun x26 S25 => Q (.inl (some (.int x26))) S25) Q))) :
    fx_Go G (4, 60) mm_M_cut 0 [(0, fx_r G v0), (1, .int v1), (2, .int v2)] [] S Q := by
  refine fx_aload_n (n := 1) dd_M_cut_0 rfl 0 rfl rfl ?_
  refine fx_iconst (n := 2) (v := 0) dd_M_cut_1 (by decide) rfl ?_
  obtain ⟨q1, h⟩ := h
  replace h := h _ rfl
  refine fx_putI (n := 5) dd_M_cut_2 fw_M_54 (by decide) rfl rfl rfl rfl q1.1 q1.2 ?_
  refine fx_aload_n (n := 6) dd_M_cut_5 rfl 0 rfl rfl ?_
  refine fx_getI (n := 9) dd_M_cut_6 fw_M_50 (by decide) rfl rfl q1.1 q1.2 ?_
  refine fx_if_ne (n := 12) (tg := 18) dd_M_cut_9 rfl rfl (fun hc => ?_) (fun hc => ?_)
  · replace h := h.1 hc
    refine fx_aload_n (n := 19) dd_M_cut_18 rfl 0 rfl rfl ?_
    refine fx_iload_n (n := 20) dd_M_cut_19 rfl 1 rfl rfl ?_
    refine fx_iconst (n := 21) (v := 1) dd_M_cut_20 (by decide) rfl ?_
    refine fx_callV (n := 24) (vs := [_, _]) dd_M_cut_21 mw_M_isKind ⟨wd_721, wd_723, wp_38⟩ rfl (by decide) q1.1 q1.2 rfl rfl ⟨Nat.le_of_ble_eq_true rfl, Nat.le_of_ble_eq_true rfl, Nat.le_of_ble_eq_true rfl, fx_nx, rfl⟩ rfl h (fx_qi_k fun x4 S3 h => ?_) (fun _ _ h => h)
    refine fx_if_ne (n := 27) (tg := 33) dd_M_cut_24 rfl rfl (fun hc => ?_) (fun hc => ?_)
    · replace h := h.1 hc
      refine fx_aload_n (n := 34) dd_M_cut_33 rfl 0 rfl rfl ?_
      refine fx_iload_n (n := 35) dd_M_cut_34 rfl 1 rfl rfl ?_
      obtain ⟨q6, h⟩ := h
      refine fx_callV (n := 38) (vs := [_]) dd_M_cut_35 mw_M_sizeOf ⟨wd_817, wd_819, wp_59⟩ rfl (by decide) q6.1 q6.2 rfl rfl ⟨Nat.le_of_ble_eq_true rfl, Nat.le_of_ble_eq_true rfl, Nat.le_of_ble_eq_true rfl, fx_nx, rfl⟩ rfl h (fx_qi_k fun x7 S5 h => ?_) (fun _ _ h => h)
      refine fx_istore_n (n := 39) (L' := [(3, _), (0, _), (1, _), (2, _)]) dd_M_cut_38 rfl (by decide) rfl rfl ?_
      refine fx_iload_n (n := 40) dd_M_cut_39 rfl 3 rfl rfl ?_
      refine fx_if_lt (n := 43) (tg := 48) dd_M_cut_40 rfl rfl (fun hc => ?_) (fun hc => ?_)
      · replace h := h.1 hc
        refine fx_aload_n (n := 49) dd_M_cut_48 rfl 1 rfl rfl ?_
        refine fx_iconst (n := 50) (v := 2) dd_M_cut_49 (by decide) rfl ?_
        obtain ⟨q9, h⟩ := h
        refine fx_callV (n := 53) (vs := [_]) dd_M_cut_50 mw_M_refuse ⟨wd_717, wd_719, wp_37⟩ rfl (by decide) q9.1 q9.2 rfl rfl ⟨Nat.le_of_ble_eq_true rfl, Nat.le_of_ble_eq_true rfl, Nat.le_of_ble_eq_true rfl, fx_nx, rfl⟩ rfl h (fx_qi_k fun x10 S8 h => ?_) (fun _ _ h => h)
        exact fx_iret dd_M_cut_53 rfl h
      · replace h := h.2 hc
        refine fx_iload_n (n := 44) dd_M_cut_43 rfl 3 rfl rfl ?_
        refine fx_iload_n (n := 45) dd_M_cut_44 rfl 0 rfl rfl ?_
        refine fx_icmp_le (n := 48) (tg := 54) dd_M_cut_45 rfl rfl (fun hc => ?_) (fun hc => ?_)
        · replace h := h.1 hc
          refine fx_aload_n (n := 55) dd_M_cut_54 rfl 1 rfl rfl ?_
          refine fx_iload_n (n := 56) dd_M_cut_55 rfl 2 rfl rfl ?_
          obtain ⟨q12, h⟩ := h
          refine fx_callV (n := 59) (vs := [_]) dd_M_cut_56 mw_M_isInside ⟨wd_821, wd_823, wp_60⟩ rfl (by decide) q12.1 q12.2 rfl rfl ⟨Nat.le_of_ble_eq_true rfl, Nat.le_of_ble_eq_true rfl, Nat.le_of_ble_eq_true rfl, fx_nx, rfl⟩ rfl h (fx_qi_k fun x13 S11 h => ?_) (fun _ _ h => h)
          refine fx_istore (n := 61) (L' := [(4, _), (3, _), (0, _), (1, _), (2, _)]) dd_M_cut_59 (by decide) rfl rfl ?_
          refine fx_aload_n (n := 62) dd_M_cut_61 rfl 2 rfl rfl ?_
          refine fx_iload_n (n := 63) dd_M_cut_62 rfl 3 rfl rfl ?_
          obtain ⟨q15, h⟩ := h
          refine fx_callV (n := 66) (vs := [_]) dd_M_cut_63 mw_M_loadMap ⟨wd_793, wd_795, wp_55⟩ rfl (by decide) q15.1 q15.2 rfl rfl ⟨Nat.le_of_ble_eq_true rfl, Nat.le_of_ble_eq_true rfl, Nat.le_of_ble_eq_true rfl, fx_nx, rfl⟩ rfl h (fx_qv_k fun S14 h => ?_) (fun _ _ h => h)
          refine fx_aload_n (n := 67) dd_M_cut_66 rfl 2 rfl rfl ?_
          obtain ⟨q16, h⟩ := h
          refine fx_getI (n := 70) dd_M_cut_67 fw_M_91 (by decide) rfl rfl q16.1 q16.2 ?_
          refine fx_istore (n := 72) (L' := [(5, _), (4, _), (3, _), (0, _), (1, _), (2, _)]) dd_M_cut_70 (by decide) rfl rfl ?_
          refine fx_aload_n (n := 73) dd_M_cut_72 rfl 3 rfl rfl ?_
          refine fx_iload_n (n := 74) dd_M_cut_73 rfl 4 rfl rfl ?_
          refine fx_iconst (n := 75) (v := 2) dd_M_cut_74 (by decide) rfl ?_
          refine fx_callV (n := 78) (vs := [_, _]) dd_M_cut_75 mw_M_attribute ⟨wd_741, wd_743, wp_43⟩ rfl (by decide) q16.1 q16.2 rfl rfl ⟨Nat.le_of_ble_eq_true rfl, Nat.le_of_ble_eq_true rfl, Nat.le_of_ble_eq_true rfl, fx_nx, rfl⟩ rfl h (fx_qi_k fun x18 S17 h => ?_) (fun _ _ h => h)
          refine fx_iconst (n := 79) (v := 2) dd_M_cut_78 (by decide) rfl ?_
          refine fx_iadd (n := 80) dd_M_cut_79 rfl ?_
          refine fx_istore (n := 82) (L' := [(6, _), (5, _), (4, _), (3, _), (0, _), (1, _), (2, _)]) dd_M_cut_80 (by decide) rfl rfl ?_
          refine fx_iconst (n := 83) (v := 0) dd_M_cut_82 (by decide) rfl ?_
          refine fx_istore (n := 85) (L' := [(7, _), (6, _), (5, _), (4, _), (3, _), (0, _), (1, _), (2, _)]) dd_M_cut_83 (by decide) rfl rfl ?_
          refine fx_sub (L' := [(0, _), (1, _), (2, _), (3, _), (4, _), (5, _), (6, _), (7, _)]) [5, 6, 7, 4, 3, 2, 1, 0] rfl ?_
          exact h
        · replace h := h.2 hc
          refine fx_aload_n (n := 49) dd_M_cut_48 rfl 1 rfl rfl ?_
          refine fx_iconst (n := 50) (v := 2) dd_M_cut_49 (by decide) rfl ?_
          obtain ⟨q20, h⟩ := h
          refine fx_callV (n := 53) (vs := [_]) dd_M_cut_50 mw_M_refuse ⟨wd_717, wd_719, wp_37⟩ rfl (by decide) q20.1 q20.2 rfl rfl ⟨Nat.le_of_ble_eq_true rfl, Nat.le_of_ble_eq_true rfl, Nat.le_of_ble_eq_true rfl, fx_nx, rfl⟩ rfl h (fx_qi_k fun x21 S19 h => ?_) (fun _ _ h => h)
          exact fx_iret dd_M_cut_53 rfl h
    · replace h := h.2 hc
      refine fx_aload_n (n := 28) dd_M_cut_27 rfl 0 rfl rfl ?_
      refine fx_iconst (n := 29) (v := 2) dd_M_cut_28 (by decide) rfl ?_
      obtain ⟨q23, h⟩ := h
      refine fx_callV (n := 32) (vs := [_]) dd_M_cut_29 mw_M_refuse ⟨wd_717, wd_719, wp_37⟩ rfl (by decide) q23.1 q23.2 rfl rfl ⟨Nat.le_of_ble_eq_true rfl, Nat.le_of_ble_eq_true rfl, Nat.le_of_ble_eq_true rfl, fx_nx, rfl⟩ rfl h (fx_qi_k fun x24 S22 h => ?_) (fun _ _ h => h)
      exact fx_iret dd_M_cut_32 rfl h
  · replace h := h.2 hc
    refine fx_aload_n (n := 13) dd_M_cut_12 rfl 0 rfl rfl ?_
    refine fx_iconst (n := 14) (v := 1) dd_M_cut_13 (by decide) rfl ?_
    refine fx_callV (n := 17) (vs := [_]) dd_M_cut_14 mw_M_refuse ⟨wd_717, wd_719, wp_37⟩ rfl (by decide) q1.1 q1.2 rfl rfl ⟨Nat.le_of_ble_eq_true rfl, Nat.le_of_ble_eq_true rfl, Nat.le_of_ble_eq_true rfl, fx_nx, rfl⟩ rfl h (fx_qi_k fun x26 S25 h => ?_) (fun _ _ h => h)
    exact fx_iret dd_M_cut_17 rfl h
theorem bk_M_cut_85 {G : fx_G} {S : fx_S} {Q : fx_R → fx_S → Prop} (v0 : Nat) (v1 : Int32) (v2 : Int32) (v3 : Int32) (v4 : Int32) (v5 : Int32) (v6 : Int32) (v7 : Int32) (h : (v2 ≤ v7 → fx_Go G (4, 60) mm_M_cut 119 [(0, fx_r G v0), (1, .int v1), (2, .int v2), (3, .int v3), (4, .int v4), (5, .int v5)] [] S Q) ∧ (¬ v2 ≤ v7 → (v4 = 0 → fx_Go G (4, 60) mm_M_cut 119 [(0, fx_r G v0), (1, .int v1), (2, .int v2), (3, .int v3), (4, .int v4), (5, .int v5)] [] S Q) ∧ (¬ v4 = 0 → fx_is S v0 5 ∧ ∃ r2, fx_P S v0 13 = some r2 ∧ fx_Go G (0, 0) mm_M_byteOf 0 [(0, fx_r G v0), (1, .int v1), (2, .int (v6 + v7))] [] S (fx_qi (fun x4 S3 => fx_is S3 r2 100 ∧ vp_in v7 (fx_ln S3 r2) ∧ ∀ S7, S7 = fx_setI S3 r2 (v7.toNatClampNeg) x4 → fx_Go G (4, 60) mm_M_cut 85 [(0, fx_r G v0), (1, .int v1), (2, .int v2), (3, .int v3), (4, .int v4), (5, .int v5), (6, .int v6), (7, .int (v7 + Int32.ofInt 1))] [] S7 Q) Q)))) :
    fx_Go G (4, 60) mm_M_cut 85 [(0, fx_r G v0), (1, .int v1), (2, .int v2), (3, .int v3), (4, .int v4), (5, .int v5), (6, .int v6), (7, .int v7)] [] S Q := by
  refine fx_iload (n := 87) dd_M_cut_85 7 rfl rfl ?_
  refine fx_iload_n (n := 88) dd_M_cut_87 rfl 2 rfl rfl ?_
  refine fx_icmp_ge (n := 91) (tg := 119) dd_M_cut_88 rfl rfl (fun hc => ?_) (fun hc => ?_)
  · replace h := h.1 hc
    refine fx_sub (L' := [(0, _), (1, _), (2, _), (3, _), (4, _), (5, _)]) [0, 1, 2, 3, 4, 5] rfl ?_
    exact h
  · replace h := h.2 hc
    refine fx_iload (n := 93) dd_M_cut_91 4 rfl rfl ?_
    refine fx_if_eq (n := 96) (tg := 119) dd_M_cut_93 rfl rfl (fun hc => ?_) (fun hc => ?_)
    · replace h := h.1 hc
      refine fx_sub (L' := [(0, _), (1, _), (2, _), (3, _), (4, _), (5, _)]) [0, 1, 2, 3, 4, 5] rfl ?_
      exact h
    · replace h := h.2 hc
      refine fx_aload_n (n := 97) dd_M_cut_96 rfl 0 rfl rfl ?_
      obtain ⟨q1, h⟩ := h
      obtain ⟨r2, hr2, h⟩ := h
      refine fx_getP (n := 100) dd_M_cut_97 fw_M_33 (by decide) rfl rfl q1.1 q1.2 hr2 ?_
      refine fx_iload (n := 102) dd_M_cut_100 7 rfl rfl ?_
      refine fx_aload_n (n := 103) dd_M_cut_102 rfl 0 rfl rfl ?_
      refine fx_iload_n (n := 104) dd_M_cut_103 rfl 1 rfl rfl ?_
      refine fx_iload (n := 106) dd_M_cut_104 6 rfl rfl ?_
      refine fx_iload (n := 108) dd_M_cut_106 7 rfl rfl ?_
      refine fx_iadd (n := 109) dd_M_cut_108 rfl ?_
      refine fx_callV (n := 112) (vs := [_, _]) dd_M_cut_109 mw_M_byteOf ⟨wd_729, wd_731, wp_40⟩ rfl (by decide) q1.1 q1.2 rfl rfl ⟨Nat.le_of_ble_eq_true rfl, Nat.le_of_ble_eq_true rfl, Nat.le_of_ble_eq_true rfl, fx_nx, rfl⟩ rfl h (fx_qi_k fun x4 S3 h => ?_) (fun _ _ h => h)
      obtain ⟨q5, h⟩ := h
      obtain ⟨q6, h⟩ := h
      replace h := h _ rfl
      refine fx_iast (n := 113) dd_M_cut_112 rfl q5.1 q5.2 q6 ?_
      refine fx_iinc (n := 116) (L' := [(7, _), (0, _), (1, _), (2, _), (3, _), (4, _), (5, _), (6, _)]) dd_M_cut_113 7 rfl rfl (by decide) rfl rfl ?_
      refine fx_goto (n := 85) dd_M_cut_116 rfl ?_
      refine fx_sub (L' := [(0, _), (1, _), (2, _), (3, _), (4, _), (5, _), (6, _), (7, _)]) [1, 2, 3, 4, 5, 6, 7, 0] rfl ?_
      exact h
theorem bk_M_cut_119 {G : fx_G} {S : fx_S} {Q : fx_R → fx_S → Prop} (v0 : Nat) (v1 : Int32) (v2 : Int32) (v3 : Int32) (v4 : Int32) (v5 : Int32) (h : fx_is S v0 5 ∧ fx_Go G (0, 0) mm_M_byteOf 0 [(0, fx_r G v0), (1, .int v1), (2, .int 1)] [] S (fx_qi (fun x3 S1 => fx_is S1 v0 5 ∧ fx_Go G (0, 0) mm_M_begin 0 [(0, fx_r G v0), (1, .int 1), (2, .int x3)] [] S1 (fx_qv (fun S4 => fx_is S4 v0 5 ∧ fx_Go G (3, 45) mm_M_putName 0 [(0, fx_r G v0), (1, .int v1)] [] S4 (fx_qv (fun S6 => (¬ v4 = 0 → fx_is S6 v0 5 ∧ fx_Go G (1, 13) mm_M_putInside 0 [(0, fx_r G v0), (1, .int v2)] [] S6 (fx_qv (fun S8 => fx_Go G (4, 60) mm_M_cut 193 [(0, fx_r G v0), (1, .int v1), (2, .int v2), (3, .int v3), (5, .int v5)] [] S8 Q) Q)) ∧ (v4 = 0 → (¬ v2 = 0 → fx_Go G (0, 0) mm_M_clustersOf 0 [(0, .int v2)] [] S6 (fx_qi (fun x11 S10 => fx_is S10 v0 5 ∧ ∀ S13, S13 = fx_setI S10 v0 10 x11 → fx_Go G (1, 13) mm_M_putOutside 0 [(0, fx_r G v0), (1, .int v2)] [] S13 (fx_qv (fun S14 => fx_Go G (4, 60) mm_M_cut 168 [(0, fx_r G v0), (1, .int v1), (2, .int v2), (3, .int v3), (5, .int v5), (7, .int v2)] [] S14 Q) Q)) Q)) ∧ (v2 = 0 → fx_is S6 v0 5 ∧ fx_Go G (1, 13) mm_M_putInside 0 [(0, fx_r G v0), (1, .int v2)] [] S6 (fx_qv (fun S15 => fx_Go G (4, 60) mm_M_cut 193 [(0, fx_r G v0), (1, .int v1), (2, .int v2), (3, .int v3), (5, .int v5)] [] S15 Q) Q)))) Q)) Q)) Q)) :
    fx_Go G (4, 60) mm_M_cut 119 [(0, fx_r G v0), (1, .int v1), (2, .int v2), (3, .int v3), (4, .int v4), (5, .int v5)] [] S Q := by
  refine fx_aload_n (n := 120) dd_M_cut_119 rfl 0 rfl rfl ?_
  refine fx_iconst (n := 121) (v := 1) dd_M_cut_120 (by decide) rfl ?_
  refine fx_aload_n (n := 122) dd_M_cut_121 rfl 0 rfl rfl ?_
  refine fx_iload_n (n := 123) dd_M_cut_122 rfl 1 rfl rfl ?_
  refine fx_iconst (n := 124) (v := 1) dd_M_cut_123 (by decide) rfl ?_
  obtain ⟨q2, h⟩ := h
  refine fx_callV (n := 127) (vs := [_, _]) dd_M_cut_124 mw_M_byteOf ⟨wd_729, wd_731, wp_40⟩ rfl (by decide) q2.1 q2.2 rfl rfl ⟨Nat.le_of_ble_eq_true rfl, Nat.le_of_ble_eq_true rfl, Nat.le_of_ble_eq_true rfl, fx_nx, rfl⟩ rfl h (fx_qi_k fun x3 S1 h => ?_) (fun _ _ h => h)
  obtain ⟨q5, h⟩ := h
  refine fx_callV (n := 130) (vs := [_, _]) dd_M_cut_127 mw_M_begin ⟨wd_623, wd_625, wp_30⟩ rfl (by decide) q5.1 q5.2 rfl rfl ⟨Nat.le_of_ble_eq_true rfl, Nat.le_of_ble_eq_true rfl, Nat.le_of_ble_eq_true rfl, fx_nx, rfl⟩ rfl h (fx_qv_k fun S4 h => ?_) (fun _ _ h => h)
  refine fx_aload_n (n := 131) dd_M_cut_130 rfl 0 rfl rfl ?_
  refine fx_iload_n (n := 132) dd_M_cut_131 rfl 1 rfl rfl ?_
  obtain ⟨q7, h⟩ := h
  refine fx_callV (n := 135) (vs := [_]) dd_M_cut_132 mw_M_putName ⟨wd_785, wd_787, wp_54⟩ rfl (by decide) q7.1 q7.2 rfl rfl ⟨Nat.le_of_ble_eq_true rfl, Nat.le_of_ble_eq_true rfl, Nat.le_of_ble_eq_true rfl, fx_nx, rfl⟩ rfl h (fx_qv_k fun S6 h => ?_) (fun _ _ h => h)
  refine fx_iload (n := 137) dd_M_cut_135 4 rfl rfl ?_
  refine fx_if_ne (n := 140) (tg := 144) dd_M_cut_137 rfl rfl (fun hc => ?_) (fun hc => ?_)
  · replace h := h.1 hc
    refine fx_aload_n (n := 145) dd_M_cut_144 rfl 0 rfl rfl ?_
    refine fx_iload_n (n := 146) dd_M_cut_145 rfl 2 rfl rfl ?_
    obtain ⟨q9, h⟩ := h
    refine fx_callV (n := 149) (vs := [_]) dd_M_cut_146 mw_M_putInside ⟨wd_765, wd_767, wp_49⟩ rfl (by decide) q9.1 q9.2 rfl rfl ⟨Nat.le_of_ble_eq_true rfl, Nat.le_of_ble_eq_true rfl, Nat.le_of_ble_eq_true rfl, fx_nx, rfl⟩ rfl h (fx_qv_k fun S8 h => ?_) (fun _ _ h => h)
    refine fx_goto (n := 193) dd_M_cut_149 rfl ?_
    refine fx_sub (L' := [(0, _), (1, _), (2, _), (3, _), (5, _)]) [0, 1, 2, 3, 5] rfl ?_
    exact h
  · replace h := h.2 hc
    refine fx_iload_n (n := 141) dd_M_cut_140 rfl 2 rfl rfl ?_
    refine fx_if_ne (n := 144) (tg := 152) dd_M_cut_141 rfl rfl (fun hc => ?_) (fun hc => ?_)
    · replace h := h.1 hc
      refine fx_aload_n (n := 153) dd_M_cut_152 rfl 0 rfl rfl ?_
      refine fx_iload_n (n := 154) dd_M_cut_153 rfl 2 rfl rfl ?_
      refine fx_callS (n := 157) (vs := [_]) dd_M_cut_154 mw_M_clustersOf ⟨wd_829, wd_830, wd_8⟩ rfl rfl ⟨Nat.le_of_ble_eq_true rfl, Nat.le_of_ble_eq_true rfl, Nat.le_of_ble_eq_true rfl, fx_nx, rfl⟩ rfl h (fx_qi_k fun x11 S10 h => ?_) (fun _ _ h => h)
      obtain ⟨q12, h⟩ := h
      replace h := h _ rfl
      refine fx_putI (n := 160) dd_M_cut_157 fw_M_91 (by decide) rfl rfl rfl rfl q12.1 q12.2 ?_
      refine fx_aload_n (n := 161) dd_M_cut_160 rfl 0 rfl rfl ?_
      refine fx_iload_n (n := 162) dd_M_cut_161 rfl 2 rfl rfl ?_
      refine fx_callV (n := 165) (vs := [_]) dd_M_cut_162 mw_M_putOutside ⟨wd_847, wd_849, wp_65⟩ rfl (by decide) q12.1 q12.2 rfl rfl ⟨Nat.le_of_ble_eq_true rfl, Nat.le_of_ble_eq_true rfl, Nat.le_of_ble_eq_true rfl, fx_nx, rfl⟩ rfl h (fx_qv_k fun S14 h => ?_) (fun _ _ h => h)
      refine fx_iload_n (n := 166) dd_M_cut_165 rfl 2 rfl rfl ?_
      refine fx_istore (n := 168) (L' := [(7, _), (0, _), (1, _), (2, _), (3, _), (4, _), (5, _)]) dd_M_cut_166 (by decide) rfl rfl ?_
      refine fx_sub (L' := [(0, _), (1, _), (2, _), (3, _), (5, _), (7, _)]) [1, 2, 3, 4, 6, 0] rfl ?_
      exact h
    · replace h := h.2 hc
      refine fx_aload_n (n := 145) dd_M_cut_144 rfl 0 rfl rfl ?_
      refine fx_iload_n (n := 146) dd_M_cut_145 rfl 2 rfl rfl ?_
      obtain ⟨q16, h⟩ := h
      refine fx_callV (n := 149) (vs := [_]) dd_M_cut_146 mw_M_putInside ⟨wd_765, wd_767, wp_49⟩ rfl (by decide) q16.1 q16.2 rfl rfl ⟨Nat.le_of_ble_eq_true rfl, Nat.le_of_ble_eq_true rfl, Nat.le_of_ble_eq_true rfl, fx_nx, rfl⟩ rfl h (fx_qv_k fun S15 h => ?_) (fun _ _ h => h)
      refine fx_goto (n := 193) dd_M_cut_149 rfl ?_
      refine fx_sub (L' := [(0, _), (1, _), (2, _), (3, _), (5, _)]) [0, 1, 2, 3, 5] rfl ?_
      exact h
theorem bk_M_cut_168 {G : fx_G} {S : fx_S} {Q : fx_R → fx_S → Prop} (v0 : Nat) (v1 : Int32) (v2 : Int32) (v3 : Int32) (v5 : Int32) (v7 : Int32) (h : fx_is S v0 5 ∧ ((16 * (fx_I S v0 10)) ≤ v7 → fx_Go G (4, 60) mm_M_cut 193 [(0, fx_r G v0), (1, .int v1), (2, .int v2), (3, .int v3), (5, .int v5)] [] S Q) ∧ (¬ (16 * (fx_I S v0 10)) ≤ v7 → fx_Go G (0, 0) mm_M_place 0 [(0, fx_r G v0), (1, .int v7), (2, .int 0)] [] S (fx_qv (fun S2 => fx_Go G (4, 60) mm_M_cut 168 [(0, fx_r G v0), (1, .int v1), (2, .int v2), (3, .int v3), (5, .int v5), (7, .int (v7 + Int32.ofInt 1))] [] S2 Q) Q))) :
    fx_Go G (4, 60) mm_M_cut 168 [(0, fx_r G v0), (1, .int v1), (2, .int v2), (3, .int v3), (5, .int v5), (7, .int v7)] [] S Q := by
  refine fx_iload (n := 170) dd_M_cut_168 5 rfl rfl ?_
  refine fx_bipush (n := 172) (v := 16) dd_M_cut_170 (by decide) rfl ?_
  refine fx_aload_n (n := 173) dd_M_cut_172 rfl 0 rfl rfl ?_
  obtain ⟨q1, h⟩ := h
  refine fx_getI (n := 176) dd_M_cut_173 fw_M_91 (by decide) rfl rfl q1.1 q1.2 ?_
  refine fx_imul (n := 177) dd_M_cut_176 rfl ?_
  refine fx_icmp_ge (n := 180) (tg := 193) dd_M_cut_177 rfl rfl (fun hc => ?_) (fun hc => ?_)
  · replace h := h.1 hc
    refine fx_sub (L' := [(0, _), (1, _), (2, _), (3, _), (5, _)]) [0, 1, 2, 3, 4] rfl ?_
    exact h
  · replace h := h.2 hc
    refine fx_aload_n (n := 181) dd_M_cut_180 rfl 0 rfl rfl ?_
    refine fx_iload (n := 183) dd_M_cut_181 5 rfl rfl ?_
    refine fx_iconst (n := 184) (v := 0) dd_M_cut_183 (by decide) rfl ?_
    refine fx_callV (n := 187) (vs := [_, _]) dd_M_cut_184 mw_M_place ⟨wd_855, wd_857, wp_67⟩ rfl (by decide) q1.1 q1.2 rfl rfl ⟨Nat.le_of_ble_eq_true rfl, Nat.le_of_ble_eq_true rfl, Nat.le_of_ble_eq_true rfl, fx_nx, rfl⟩ rfl h (fx_qv_k fun S2 h => ?_) (fun _ _ h => h)
    refine fx_iinc (n := 190) (L' := [(7, _), (0, _), (1, _), (2, _), (3, _), (5, _)]) dd_M_cut_187 5 rfl rfl (by decide) rfl rfl ?_
    refine fx_goto (n := 168) dd_M_cut_190 rfl ?_
    refine fx_sub (L' := [(0, _), (1, _), (2, _), (3, _), (5, _), (7, _)]) [1, 2, 3, 4, 5, 0] rfl ?_
    exact h
theorem bk_M_cut_193 {G : fx_G} {S : fx_S} {Q : fx_R → fx_S → Prop} (v0 : Nat) (v1 : Int32) (v2 : Int32) (v3 : Int32) (v5 : Int32) (h : fx_is S v0 5 ∧ fx_Go G (1, 15) mm_M_store 0 [(0, fx_r G v0), (1, .int v1)] [] S (fx_qi (fun x3 S1 => (¬ x3 = 0 → fx_is S1 v0 5 ∧ ∀ S5, S5 = fx_setI S1 v0 10 v5 → fx_Go G (0, 0) mm_M_clustersOf 0 [(0, .int v2)] [] S5 (fx_qi (fun x7 S6 => fx_is S6 v0 5 ∧ fx_Go G (0, 0) mm_M_release 0 [(0, fx_r G v0), (1, .int x7)] [] S6 (fx_qi (fun x10 S8 => Q (.inl (some (.int v3))) S8) Q)) Q)) ∧ (x3 = 0 → fx_is S1 v0 5 ∧ fx_Go G (0, 0) mm_M_refuse 0 [(0, fx_r G v0), (1, .int 1)] [] S1 (fx_qi (fun x13 S11 => Q (.inl (some (.int x13))) S11) Q))) Q)) :
    fx_Go G (4, 60) mm_M_cut 193 [(0, fx_r G v0), (1, .int v1), (2, .int v2), (3, .int v3), (5, .int v5)] [] S Q := by
  refine fx_aload_n (n := 194) dd_M_cut_193 rfl 0 rfl rfl ?_
  refine fx_iload_n (n := 195) dd_M_cut_194 rfl 1 rfl rfl ?_
  obtain ⟨q2, h⟩ := h
  refine fx_callV (n := 198) (vs := [_]) dd_M_cut_195 mw_M_store ⟨wd_635, wd_637, wp_33⟩ rfl (by decide) q2.1 q2.2 rfl rfl ⟨Nat.le_of_ble_eq_true rfl, Nat.le_of_ble_eq_true rfl, Nat.le_of_ble_eq_true rfl, fx_nx, rfl⟩ rfl h (fx_qi_k fun x3 S1 h => ?_) (fun _ _ h => h)
  refine fx_if_ne (n := 201) (tg := 207) dd_M_cut_198 rfl rfl (fun hc => ?_) (fun hc => ?_)
  · replace h := h.1 hc
    refine fx_aload_n (n := 208) dd_M_cut_207 rfl 0 rfl rfl ?_
    refine fx_iload (n := 210) dd_M_cut_208 4 rfl rfl ?_
    obtain ⟨q4, h⟩ := h
    replace h := h _ rfl
    refine fx_putI (n := 213) dd_M_cut_210 fw_M_91 (by decide) rfl rfl rfl rfl q4.1 q4.2 ?_
    refine fx_aload_n (n := 214) dd_M_cut_213 rfl 0 rfl rfl ?_
    refine fx_iload_n (n := 215) dd_M_cut_214 rfl 2 rfl rfl ?_
    refine fx_callS (n := 218) (vs := [_]) dd_M_cut_215 mw_M_clustersOf ⟨wd_829, wd_830, wd_8⟩ rfl rfl ⟨Nat.le_of_ble_eq_true rfl, Nat.le_of_ble_eq_true rfl, Nat.le_of_ble_eq_true rfl, fx_nx, rfl⟩ rfl h (fx_qi_k fun x7 S6 h => ?_) (fun _ _ h => h)
    obtain ⟨q9, h⟩ := h
    refine fx_callV (n := 221) (vs := [_]) dd_M_cut_218 mw_M_release ⟨wd_797, wd_799, wp_56⟩ rfl (by decide) q9.1 q9.2 rfl rfl ⟨Nat.le_of_ble_eq_true rfl, Nat.le_of_ble_eq_true rfl, Nat.le_of_ble_eq_true rfl, fx_nx, rfl⟩ rfl h (fx_qi_k fun x10 S8 h => ?_) (fun _ _ h => h)
    refine fx_pop (n := 222) dd_M_cut_221 rfl rfl ?_
    refine fx_iload_n (n := 223) dd_M_cut_222 rfl 3 rfl rfl ?_
    exact fx_iret dd_M_cut_223 rfl h
  · replace h := h.2 hc
    refine fx_aload_n (n := 202) dd_M_cut_201 rfl 0 rfl rfl ?_
    refine fx_iconst (n := 203) (v := 1) dd_M_cut_202 (by decide) rfl ?_
    obtain ⟨q12, h⟩ := h
    refine fx_callV (n := 206) (vs := [_]) dd_M_cut_203 mw_M_refuse ⟨wd_717, wd_719, wp_37⟩ rfl (by decide) q12.1 q12.2 rfl rfl ⟨Nat.le_of_ble_eq_true rfl, Nat.le_of_ble_eq_true rfl, Nat.le_of_ble_eq_true rfl, fx_nx, rfl⟩ rfl h (fx_qi_k fun x13 S11 h => ?_) (fun _ _ h => h)
    exact fx_iret dd_M_cut_206 rfl h
theorem bk_M_fail_0 {G : fx_G} {S : fx_S} {Q : fx_R → fx_S → Prop} (v0 : Nat) (v1 : Int32) (h : fx_is S v0 5 ∧ ∀ S2, S2 = fx_setI S v0 0 0 → (v1 < 0 → Q (.inl (some (.int 0))) S2) ∧ (¬ v1 < 0 → (v1 ≤ 20 → ∀ S3, S3 = fx_setI S2 v0 5 v1 → Q (.inl (some (.int 1))) S3) ∧ (¬ v1 ≤ 20 → Q (.inl (some (.int 0))) S2))) :
    fx_Go G (0, 0) mm_M_fail 0 [(0, fx_r G v0), (1, .int v1)] [] S Q := by
  refine fx_aload_n (n := 1) dd_M_fail_0 rfl 0 rfl rfl ?_
  refine fx_iconst (n := 2) (v := 0) dd_M_fail_1 (by decide) rfl ?_
  obtain ⟨q1, h⟩ := h
  replace h := h _ rfl
  refine fx_putI (n := 5) dd_M_fail_2 fw_M_54 (by decide) rfl rfl rfl rfl q1.1 q1.2 ?_
  refine fx_iload_n (n := 6) dd_M_fail_5 rfl 1 rfl rfl ?_
  refine fx_if_lt (n := 9) (tg := 15) dd_M_fail_6 rfl rfl (fun hc => ?_) (fun hc => ?_)
  · replace h := h.1 hc
    refine fx_iconst (n := 16) (v := 0) dd_M_fail_15 (by decide) rfl ?_
    exact fx_zret dd_M_fail_16 rfl rfl h
  · replace h := h.2 hc
    refine fx_iload_n (n := 10) dd_M_fail_9 rfl 1 rfl rfl ?_
    refine fx_bipush (n := 12) (v := 20) dd_M_fail_10 (by decide) rfl ?_
    refine fx_icmp_le (n := 15) (tg := 17) dd_M_fail_12 rfl rfl (fun hc => ?_) (fun hc => ?_)
    · replace h := h.1 hc
      refine fx_aload_n (n := 18) dd_M_fail_17 rfl 0 rfl rfl ?_
      refine fx_iload_n (n := 19) dd_M_fail_18 rfl 1 rfl rfl ?_
      replace h := h _ rfl
      refine fx_putI (n := 22) dd_M_fail_19 fw_M_94 (by decide) rfl rfl rfl rfl q1.1 q1.2 ?_
      refine fx_iconst (n := 23) (v := 1) dd_M_fail_22 (by decide) rfl ?_
      exact fx_zret dd_M_fail_23 rfl rfl h
    · replace h := h.2 hc
      refine fx_iconst (n := 16) (v := 0) dd_M_fail_15 (by decide) rfl ?_
      exact fx_zret dd_M_fail_16 rfl rfl h
theorem bk_M_leadsUp_0 {G : fx_G} {S : fx_S} {Q : fx_R → fx_S → Prop} (v0 : Nat) (v1 : Int32) (h : fx_Go G (1, 15) mm_M_leadsUp 4 [(0, fx_r G v0), (2, .int v1), (3, .int 0)] [] S Q) :
    fx_Go G (1, 15) mm_M_leadsUp 0 [(0, fx_r G v0), (1, .int v1)] [] S Q := by
  refine fx_iload_n (n := 1) dd_M_leadsUp_0 rfl 1 rfl rfl ?_
  refine fx_istore_n (n := 2) (L' := [(2, _), (0, _), (1, _)]) dd_M_leadsUp_1 rfl (by decide) rfl rfl ?_
  refine fx_iconst (n := 3) (v := 0) dd_M_leadsUp_2 (by decide) rfl ?_
  refine fx_istore_n (n := 4) (L' := [(3, _), (2, _), (0, _), (1, _)]) dd_M_leadsUp_3 rfl (by decide) rfl rfl ?_
  refine fx_sub (L' := [(0, _), (2, _), (3, _)]) [2, 1, 0] rfl ?_
  exact h
theorem bk_M_leadsUp_4 {G : fx_G} {S : fx_S} {Q : fx_R → fx_S → Prop} (v0 : Nat) (v2 : Int32) (v3 : Int32) (h : (12 < v3 → (¬ v2 = 0 → Q (.inl (some (.int 0))) S) ∧ (v2 = 0 → Q (.inl (some (.int 1))) S)) ∧ (¬ 12 < v3 → (v2 = 0 → (¬ v2 = 0 → Q (.inl (some (.int 0))) S) ∧ (v2 = 0 → Q (.inl (some (.int 1))) S)) ∧ (¬ v2 = 0 → fx_is S v0 5 ∧ fx_Go G (0, 0) mm_M_byteOf 0 [(0, fx_r G v0), (1, .int v2), (2, .int 1)] [] S (fx_qi (fun x3 S1 => (12 ≤ x3 → Q (.inl (some (.int 0))) S1) ∧ (¬ 12 ≤ x3 → fx_is S1 v0 5 ∧ ∃ r5, fx_P S1 v0 2 = some r5 ∧ fx_is S1 r5 101 ∧ vp_in x3 (fx_ln S1 r5) ∧ ((fx_I S1 r5 (x3.toNatClampNeg)) = 0 → Q (.inl (some (.int 0))) S1) ∧ (¬ (fx_I S1 r5 (x3.toNatClampNeg)) = 0 → fx_Go G (0, 0) mm_M_byteOf 0 [(0, fx_r G v0), (1, .int x3), (2, .int 0)] [] S1 (fx_qi (fun x9 S8 => (x9 = 2 → fx_Go G (1, 15) mm_M_leadsUp 4 [(0, fx_r G v0), (2, .int x3), (3, .int (v3 + Int32.ofInt 1))] [] S8 Q) ∧ (¬ x9 = 2 → Q (.inl (some (.int 0))) S8)) Q)))) Q)))) :
    fx_Go G (1, 15) mm_M_leadsUp 4 [(0, fx_r G v0), (2, .int v2), (3, .int v3)] [] S Q := by
  refine fx_iload_n (n := 5) dd_M_leadsUp_4 rfl 2 rfl rfl ?_
  refine fx_bipush (n := 7) (v := 12) dd_M_leadsUp_5 (by decide) rfl ?_
  refine fx_icmp_gt (n := 10) (tg := 54) dd_M_leadsUp_7 rfl rfl (fun hc => ?_) (fun hc => ?_)
  · replace h := h.1 hc
    refine fx_iload_n (n := 55) dd_M_leadsUp_54 rfl 1 rfl rfl ?_
    refine fx_if_ne (n := 58) (tg := 62) dd_M_leadsUp_55 rfl rfl (fun hc => ?_) (fun hc => ?_)
    · replace h := h.1 hc
      refine fx_iconst (n := 63) (v := 0) dd_M_leadsUp_62 (by decide) rfl ?_
      exact fx_zret dd_M_leadsUp_63 rfl rfl h
    · replace h := h.2 hc
      refine fx_iconst (n := 59) (v := 1) dd_M_leadsUp_58 (by decide) rfl ?_
      refine fx_goto (n := 63) dd_M_leadsUp_59 rfl ?_
      exact fx_zret dd_M_leadsUp_63 rfl rfl h
  · replace h := h.2 hc
    refine fx_iload_n (n := 11) dd_M_leadsUp_10 rfl 1 rfl rfl ?_
    refine fx_if_eq (n := 14) (tg := 54) dd_M_leadsUp_11 rfl rfl (fun hc => ?_) (fun hc => ?_)
    · replace h := h.1 hc
      refine fx_iload_n (n := 55) dd_M_leadsUp_54 rfl 1 rfl rfl ?_
      refine fx_if_ne (n := 58) (tg := 62) dd_M_leadsUp_55 rfl rfl (fun hc => ?_) (fun hc => ?_)
      · replace h := h.1 hc
        refine fx_iconst (n := 63) (v := 0) dd_M_leadsUp_62 (by decide) rfl ?_
        exact fx_zret dd_M_leadsUp_63 rfl rfl h
      · replace h := h.2 hc
        refine fx_iconst (n := 59) (v := 1) dd_M_leadsUp_58 (by decide) rfl ?_
        refine fx_goto (n := 63) dd_M_leadsUp_59 rfl ?_
        exact fx_zret dd_M_leadsUp_63 rfl rfl h
    · replace h := h.2 hc
      refine fx_aload_n (n := 15) dd_M_leadsUp_14 rfl 0 rfl rfl ?_
      refine fx_iload_n (n := 16) dd_M_leadsUp_15 rfl 1 rfl rfl ?_
      refine fx_iconst (n := 17) (v := 1) dd_M_leadsUp_16 (by decide) rfl ?_
      obtain ⟨q2, h⟩ := h
      refine fx_callV (n := 20) (vs := [_, _]) dd_M_leadsUp_17 mw_M_byteOf ⟨wd_729, wd_731, wp_40⟩ rfl (by decide) q2.1 q2.2 rfl rfl ⟨Nat.le_of_ble_eq_true rfl, Nat.le_of_ble_eq_true rfl, Nat.le_of_ble_eq_true rfl, fx_nx, rfl⟩ rfl h (fx_qi_k fun x3 S1 h => ?_) (fun _ _ h => h)
      refine fx_istore_n (n := 21) (L' := [(2, _), (0, _), (3, _)]) dd_M_leadsUp_20 rfl (by decide) rfl rfl ?_
      refine fx_iload_n (n := 22) dd_M_leadsUp_21 rfl 0 rfl rfl ?_
      refine fx_bipush (n := 24) (v := 12) dd_M_leadsUp_22 (by decide) rfl ?_
      refine fx_icmp_ge (n := 27) (tg := 46) dd_M_leadsUp_24 rfl rfl (fun hc => ?_) (fun hc => ?_)
      · replace h := h.1 hc
        refine fx_iconst (n := 47) (v := 0) dd_M_leadsUp_46 (by decide) rfl ?_
        exact fx_zret dd_M_leadsUp_47 rfl rfl h
      · replace h := h.2 hc
        refine fx_aload_n (n := 28) dd_M_leadsUp_27 rfl 1 rfl rfl ?_
        obtain ⟨q4, h⟩ := h
        obtain ⟨r5, hr5, h⟩ := h
        refine fx_getP (n := 31) dd_M_leadsUp_28 fw_M_13 (by decide) rfl rfl q4.1 q4.2 hr5 ?_
        refine fx_iload_n (n := 32) dd_M_leadsUp_31 rfl 0 rfl rfl ?_
        obtain ⟨q6, h⟩ := h
        obtain ⟨q7, h⟩ := h
        refine fx_zald (n := 33) dd_M_leadsUp_32 rfl q6.1 q6.2 q7 ?_
        refine fx_if_eq (n := 36) (tg := 46) dd_M_leadsUp_33 rfl rfl (fun hc => ?_) (fun hc => ?_)
        · replace h := h.1 hc
          refine fx_iconst (n := 47) (v := 0) dd_M_leadsUp_46 (by decide) rfl ?_
          exact fx_zret dd_M_leadsUp_47 rfl rfl h
        · replace h := h.2 hc
          refine fx_aload_n (n := 37) dd_M_leadsUp_36 rfl 1 rfl rfl ?_
          refine fx_iload_n (n := 38) dd_M_leadsUp_37 rfl 0 rfl rfl ?_
          refine fx_iconst (n := 39) (v := 0) dd_M_leadsUp_38 (by decide) rfl ?_
          refine fx_callV (n := 42) (vs := [_, _]) dd_M_leadsUp_39 mw_M_byteOf ⟨wd_729, wd_731, wp_40⟩ rfl (by decide) q4.1 q4.2 rfl rfl ⟨Nat.le_of_ble_eq_true rfl, Nat.le_of_ble_eq_true rfl, Nat.le_of_ble_eq_true rfl, fx_nx, rfl⟩ rfl h (fx_qi_k fun x9 S8 h => ?_) (fun _ _ h => h)
          refine fx_iconst (n := 43) (v := 2) dd_M_leadsUp_42 (by decide) rfl ?_
          refine fx_icmp_eq (n := 46) (tg := 48) dd_M_leadsUp_43 rfl rfl (fun hc => ?_) (fun hc => ?_)
          · replace h := h.1 hc
            refine fx_iinc (n := 51) (L' := [(3, _), (2, _), (0, _)]) dd_M_leadsUp_48 2 rfl rfl (by decide) rfl rfl ?_
            refine fx_goto (n := 4) dd_M_leadsUp_51 rfl ?_
            refine fx_sub (L' := [(0, _), (2, _), (3, _)]) [2, 1, 0] rfl ?_
            exact h
          · replace h := h.2 hc
            refine fx_iconst (n := 47) (v := 0) dd_M_leadsUp_46 (by decide) rfl ?_
            exact fx_zret dd_M_leadsUp_47 rfl rfl h
theorem bk_M_mendRoot_0 {G : fx_G} {S : fx_S} {Q : fx_R → fx_S → Prop} (v0 : Nat) (h : fx_is S v0 5 ∧ ∃ r2, fx_P S v0 2 = some r2 ∧ fx_is S r2 101 ∧ vp_in 0 (fx_ln S r2) ∧ ((fx_I S r2 ((0 : Int32).toNatClampNeg)) = 0 → ∀ S5, S5 = fx_setI S v0 14 0 → fx_Go G (0, 0) mm_M_begin 0 [(0, fx_r G v0), (1, .int 2), (2, .int 0)] [] S5 (fx_qv (fun S6 => fx_is S6 v0 5 ∧ fx_Go G (1, 13) mm_M_putList 0 [(0, fx_r G v0)] [] S6 (fx_qv (fun S7 => fx_is S7 v0 5 ∧ ∀ S10, S10 = fx_setI S7 v0 16 ((fx_I S7 v0 16) + 1) → fx_Go G (1, 15) mm_M_store 0 [(0, fx_r G v0), (1, .int 0)] [] S10 (fx_qi (fun x12 S11 => narrow .boolean (.int x12) = .int x12 ∧ Q (.inl (some (.int x12))) S11) Q)) Q)) Q)) ∧ (¬ (fx_I S r2 ((0 : Int32).toNatClampNeg)) = 0 → Q (.inl (some (.int 1))) S)) :
    fx_Go G (2, 31) mm_M_mendRoot 0 [(0, fx_r G v0)] [] S Q := by
  refine fx_aload_n (n := 1) dd_M_mendRoot_0 rfl 0 rfl rfl ?_
  obtain ⟨q1, h⟩ := h
  obtain ⟨r2, hr2, h⟩ := h
  refine fx_getP (n := 4) dd_M_mendRoot_1 fw_M_13 (by decide) rfl rfl q1.1 q1.2 hr2 ?_
  refine fx_iconst (n := 5) (v := 0) dd_M_mendRoot_4 (by decide) rfl ?_
  obtain ⟨q3, h⟩ := h
  obtain ⟨q4, h⟩ := h
  refine fx_zald (n := 6) dd_M_mendRoot_5 rfl q3.1 q3.2 q4 ?_
  refine fx_if_eq (n := 9) (tg := 11) dd_M_mendRoot_6 rfl rfl (fun hc => ?_) (fun hc => ?_)
  · replace h := h.1 hc
    refine fx_aload_n (n := 12) dd_M_mendRoot_11 rfl 0 rfl rfl ?_
    refine fx_iconst (n := 13) (v := 0) dd_M_mendRoot_12 (by decide) rfl ?_
    replace h := h _ rfl
    refine fx_putI (n := 16) dd_M_mendRoot_13 fw_M_88 (by decide) rfl rfl rfl rfl q1.1 q1.2 ?_
    refine fx_aload_n (n := 17) dd_M_mendRoot_16 rfl 0 rfl rfl ?_
    refine fx_iconst (n := 18) (v := 2) dd_M_mendRoot_17 (by decide) rfl ?_
    refine fx_iconst (n := 19) (v := 0) dd_M_mendRoot_18 (by decide) rfl ?_
    refine fx_callV (n := 22) (vs := [_, _]) dd_M_mendRoot_19 mw_M_begin ⟨wd_623, wd_625, wp_30⟩ rfl (by decide) q1.1 q1.2 rfl rfl ⟨Nat.le_of_ble_eq_true rfl, Nat.le_of_ble_eq_true rfl, Nat.le_of_ble_eq_true rfl, fx_nx, rfl⟩ rfl h (fx_qv_k fun S6 h => ?_) (fun _ _ h => h)
    refine fx_aload_n (n := 23) dd_M_mendRoot_22 rfl 0 rfl rfl ?_
    obtain ⟨q8, h⟩ := h
    refine fx_callV (n := 26) (vs := []) dd_M_mendRoot_23 mw_M_putList ⟨wd_627, wd_629, wp_31⟩ rfl (by decide) q8.1 q8.2 rfl rfl ⟨Nat.le_of_ble_eq_true rfl, Nat.le_of_ble_eq_true rfl, Nat.le_of_ble_eq_true rfl, fx_nx, rfl⟩ rfl h (fx_qv_k fun S7 h => ?_) (fun _ _ h => h)
    refine fx_aload_n (n := 27) dd_M_mendRoot_26 rfl 0 rfl rfl ?_
    refine fx_dup (n := 28) dd_M_mendRoot_27 rfl rfl ?_
    obtain ⟨q9, h⟩ := h
    refine fx_getI (n := 31) dd_M_mendRoot_28 fw_M_193 (by decide) rfl rfl q9.1 q9.2 ?_
    refine fx_iconst (n := 32) (v := 1) dd_M_mendRoot_31 (by decide) rfl ?_
    refine fx_iadd (n := 33) dd_M_mendRoot_32 rfl ?_
    replace h := h _ rfl
    refine fx_putI (n := 36) dd_M_mendRoot_33 fw_M_193 (by decide) rfl rfl rfl rfl q9.1 q9.2 ?_
    refine fx_aload_n (n := 37) dd_M_mendRoot_36 rfl 0 rfl rfl ?_
    refine fx_iconst (n := 38) (v := 0) dd_M_mendRoot_37 (by decide) rfl ?_
    refine fx_callV (n := 41) (vs := [_]) dd_M_mendRoot_38 mw_M_store ⟨wd_635, wd_637, wp_33⟩ rfl (by decide) q9.1 q9.2 rfl rfl ⟨Nat.le_of_ble_eq_true rfl, Nat.le_of_ble_eq_true rfl, Nat.le_of_ble_eq_true rfl, fx_nx, rfl⟩ rfl h (fx_qi_k fun x12 S11 h => ?_) (fun _ _ h => h)
    exact fx_zret dd_M_mendRoot_41 rfl h.1 h.2
  · replace h := h.2 hc
    refine fx_iconst (n := 10) (v := 1) dd_M_mendRoot_9 (by decide) rfl ?_
    exact fx_zret dd_M_mendRoot_10 rfl rfl h
theorem bk_M_mendParents_0 {G : fx_G} {S : fx_S} {Q : fx_R → fx_S → Prop} (v0 : Nat) (h : fx_Go G (2, 31) mm_M_mendParents 2 [(0, fx_r G v0), (1, .int 1)] [] S Q) :
    fx_Go G (2, 31) mm_M_mendParents 0 [(0, fx_r G v0)] [] S Q := by
  refine fx_iconst (n := 1) (v := 1) dd_M_mendParents_0 (by decide) rfl ?_
  refine fx_istore_n (n := 2) (L' := [(1, _), (0, _)]) dd_M_mendParents_1 rfl (by decide) rfl rfl ?_
  refine fx_sub (L' := [(0, _), (1, _)]) [1, 0] rfl ?_
  exact h
theorem bk_M_mendParents_2 {G : fx_G} {S : fx_S} {Q : fx_R → fx_S → Prop} (v0 : Nat) (v1 : Int32) (h : (12 ≤ v1 → Q (.inl (some (.int 1))) S) ∧ (¬ 12 ≤ v1 → fx_is S v0 5 ∧ ∃ r2, fx_P S v0 2 = some r2 ∧ fx_is S r2 101 ∧ vp_in v1 (fx_ln S r2) ∧ ((fx_I S r2 (v1.toNatClampNeg)) = 0 → fx_Go G (2, 31) mm_M_mendParents 2 [(0, fx_r G v0), (1, .int (v1 + Int32.ofInt 1))] [] S Q) ∧ (¬ (fx_I S r2 (v1.toNatClampNeg)) = 0 → fx_Go G (1, 15) mm_M_leadsUp 0 [(0, fx_r G v0), (1, .int v1)] [] S (fx_qi (fun x6 S5 => (x6 = 0 → fx_Go G (2, 31) mm_M_mendParents 30 [(0, fx_r G v0), (1, .int v1), (2, .int 0)] [] S5 Q) ∧ (¬ x6 = 0 → fx_Go G (2, 31) mm_M_mendParents 2 [(0, fx_r G v0), (1, .int (v1 + Int32.ofInt 1))] [] S5 Q)) Q)))) :
    fx_Go G (2, 31) mm_M_mendParents 2 [(0, fx_r G v0), (1, .int v1)] [] S Q := by
  refine fx_iload_n (n := 3) dd_M_mendParents_2 rfl 1 rfl rfl ?_
  refine fx_bipush (n := 5) (v := 12) dd_M_mendParents_3 (by decide) rfl ?_
  refine fx_icmp_ge (n := 8) (tg := 101) dd_M_mendParents_5 rfl rfl (fun hc => ?_) (fun hc => ?_)
  · replace h := h.1 hc
    refine fx_iconst (n := 102) (v := 1) dd_M_mendParents_101 (by decide) rfl ?_
    exact fx_zret dd_M_mendParents_102 rfl rfl h
  · replace h := h.2 hc
    refine fx_aload_n (n := 9) dd_M_mendParents_8 rfl 0 rfl rfl ?_
    obtain ⟨q1, h⟩ := h
    obtain ⟨r2, hr2, h⟩ := h
    refine fx_getP (n := 12) dd_M_mendParents_9 fw_M_13 (by decide) rfl rfl q1.1 q1.2 hr2 ?_
    refine fx_iload_n (n := 13) dd_M_mendParents_12 rfl 1 rfl rfl ?_
    obtain ⟨q3, h⟩ := h
    obtain ⟨q4, h⟩ := h
    refine fx_zald (n := 14) dd_M_mendParents_13 rfl q3.1 q3.2 q4 ?_
    refine fx_if_eq (n := 17) (tg := 95) dd_M_mendParents_14 rfl rfl (fun hc => ?_) (fun hc => ?_)
    · replace h := h.1 hc
      refine fx_iinc (n := 98) (L' := [(1, _), (0, _)]) dd_M_mendParents_95 1 rfl rfl (by decide) rfl rfl ?_
      refine fx_goto (n := 2) dd_M_mendParents_98 rfl ?_
      refine fx_sub (L' := [(0, _), (1, _)]) [1, 0] rfl ?_
      exact h
    · replace h := h.2 hc
      refine fx_aload_n (n := 18) dd_M_mendParents_17 rfl 0 rfl rfl ?_
      refine fx_iload_n (n := 19) dd_M_mendParents_18 rfl 1 rfl rfl ?_
      refine fx_callV (n := 22) (vs := [_]) dd_M_mendParents_19 mw_M_leadsUp ⟨wd_883, wd_885, wp_71⟩ rfl (by decide) q1.1 q1.2 rfl rfl ⟨Nat.le_of_ble_eq_true rfl, Nat.le_of_ble_eq_true rfl, Nat.le_of_ble_eq_true rfl, fx_nx, rfl⟩ rfl h (fx_qi_k fun x6 S5 h => ?_) (fun _ _ h => h)
      refine fx_if_eq (n := 25) (tg := 28) dd_M_mendParents_22 rfl rfl (fun hc => ?_) (fun hc => ?_)
      · replace h := h.1 hc
        refine fx_iconst (n := 29) (v := 0) dd_M_mendParents_28 (by decide) rfl ?_
        refine fx_istore_n (n := 30) (L' := [(2, _), (0, _), (1, _)]) dd_M_mendParents_29 rfl (by decide) rfl rfl ?_
        refine fx_sub (L' := [(0, _), (1, _), (2, _)]) [1, 2, 0] rfl ?_
        exact h
      · replace h := h.2 hc
        refine fx_goto (n := 95) dd_M_mendParents_25 rfl ?_
        refine fx_iinc (n := 98) (L' := [(1, _), (0, _)]) dd_M_mendParents_95 1 rfl rfl (by decide) rfl rfl ?_
        refine fx_goto (n := 2) dd_M_mendParents_98 rfl ?_
        refine fx_sub (L' := [(0, _), (1, _)]) [1, 0] rfl ?_
        exact h
theorem bk_M_mendParents_30 {G : fx_G} {S : fx_S} {Q : fx_R → fx_S → Prop} (v0 : Nat) (v1 : Int32) (v2 : Int32) (h : (64 ≤ v2 → fx_is S v0 5 ∧ ∃ r2, fx_P S v0 8 = some r2 ∧ fx_is S r2 100 ∧ vp_in 1 (fx_ln S r2) ∧ ∀ S5, S5 = fx_setI S r2 ((1 : Int32).toNatClampNeg) 0 → ∃ r6, fx_P S5 v0 8 = some r6 ∧ fx_is S5 r6 100 ∧ vp_in 8 (fx_ln S5 r6) ∧ ∀ S9, S9 = fx_setI S5 v0 9 (10 + (fx_I S5 r6 ((8 : Int32).toNatClampNeg))) → ∀ S10, S10 = fx_setI S9 v0 16 ((fx_I S9 v0 16) + 1) → fx_Go G (1, 15) mm_M_store 0 [(0, fx_r G v0), (1, .int v1)] [] S10 (fx_qi (fun x12 S11 => (¬ x12 = 0 → fx_Go G (2, 31) mm_M_mendParents 2 [(0, fx_r G v0), (1, .int (v1 + Int32.ofInt 1))] [] S11 Q) ∧ (x12 = 0 → Q (.inl (some (.int 0))) S11)) Q)) ∧ (¬ 64 ≤ v2 → fx_is S v0 5 ∧ ∃ r14, fx_P S v0 8 = some r14 ∧ fx_Go G (0, 0) mm_M_byteOf 0 [(0, fx_r G v0), (1, .int v1), (2, .int v2)] [] S (fx_qi (fun x16 S15 => fx_is S15 r14 100 ∧ vp_in v2 (fx_ln S15 r14) ∧ ∀ S19, S19 = fx_setI S15 r14 (v2.toNatClampNeg) x16 → fx_Go G (2, 31) mm_M_mendParents 30 [(0, fx_r G v0), (1, .int v1), (2, .int (v2 + Int32.ofInt 1))] [] S19 Q) Q))) :
    fx_Go G (2, 31) mm_M_mendParents 30 [(0, fx_r G v0), (1, .int v1), (2, .int v2)] [] S Q := by
  refine fx_iload_n (n := 31) dd_M_mendParents_30 rfl 2 rfl rfl ?_
  refine fx_bipush (n := 33) (v := 64) dd_M_mendParents_31 (by decide) rfl ?_
  refine fx_icmp_ge (n := 36) (tg := 54) dd_M_mendParents_33 rfl rfl (fun hc => ?_) (fun hc => ?_)
  · replace h := h.1 hc
    refine fx_aload_n (n := 55) dd_M_mendParents_54 rfl 0 rfl rfl ?_
    obtain ⟨q1, h⟩ := h
    obtain ⟨r2, hr2, h⟩ := h
    refine fx_getP (n := 58) dd_M_mendParents_55 fw_M_24 (by decide) rfl rfl q1.1 q1.2 hr2 ?_
    refine fx_iconst (n := 59) (v := 1) dd_M_mendParents_58 (by decide) rfl ?_
    refine fx_iconst (n := 60) (v := 0) dd_M_mendParents_59 (by decide) rfl ?_
    obtain ⟨q3, h⟩ := h
    obtain ⟨q4, h⟩ := h
    replace h := h _ rfl
    refine fx_iast (n := 61) dd_M_mendParents_60 rfl q3.1 q3.2 q4 ?_
    refine fx_aload_n (n := 62) dd_M_mendParents_61 rfl 0 rfl rfl ?_
    refine fx_bipush (n := 64) (v := 10) dd_M_mendParents_62 (by decide) rfl ?_
    refine fx_aload_n (n := 65) dd_M_mendParents_64 rfl 0 rfl rfl ?_
    obtain ⟨r6, hr6, h⟩ := h
    refine fx_getP (n := 68) dd_M_mendParents_65 fw_M_24 (by decide) rfl rfl q1.1 q1.2 hr6 ?_
    refine fx_bipush (n := 70) (v := 8) dd_M_mendParents_68 (by decide) rfl ?_
    obtain ⟨q7, h⟩ := h
    obtain ⟨q8, h⟩ := h
    refine fx_iald (n := 71) dd_M_mendParents_70 rfl q7.1 q7.2 q8 ?_
    refine fx_iadd (n := 72) dd_M_mendParents_71 rfl ?_
    replace h := h _ rfl
    refine fx_putI (n := 75) dd_M_mendParents_72 fw_M_81 (by decide) rfl rfl rfl rfl q1.1 q1.2 ?_
    refine fx_aload_n (n := 76) dd_M_mendParents_75 rfl 0 rfl rfl ?_
    refine fx_dup (n := 77) dd_M_mendParents_76 rfl rfl ?_
    refine fx_getI (n := 80) dd_M_mendParents_77 fw_M_193 (by decide) rfl rfl q1.1 q1.2 ?_
    refine fx_iconst (n := 81) (v := 1) dd_M_mendParents_80 (by decide) rfl ?_
    refine fx_iadd (n := 82) dd_M_mendParents_81 rfl ?_
    replace h := h _ rfl
    refine fx_putI (n := 85) dd_M_mendParents_82 fw_M_193 (by decide) rfl rfl rfl rfl q1.1 q1.2 ?_
    refine fx_aload_n (n := 86) dd_M_mendParents_85 rfl 0 rfl rfl ?_
    refine fx_iload_n (n := 87) dd_M_mendParents_86 rfl 1 rfl rfl ?_
    refine fx_callV (n := 90) (vs := [_]) dd_M_mendParents_87 mw_M_store ⟨wd_635, wd_637, wp_33⟩ rfl (by decide) q1.1 q1.2 rfl rfl ⟨Nat.le_of_ble_eq_true rfl, Nat.le_of_ble_eq_true rfl, Nat.le_of_ble_eq_true rfl, fx_nx, rfl⟩ rfl h (fx_qi_k fun x12 S11 h => ?_) (fun _ _ h => h)
    refine fx_if_ne (n := 93) (tg := 95) dd_M_mendParents_90 rfl rfl (fun hc => ?_) (fun hc => ?_)
    · replace h := h.1 hc
      refine fx_iinc (n := 98) (L' := [(1, _), (0, _), (2, _)]) dd_M_mendParents_95 1 rfl rfl (by decide) rfl rfl ?_
      refine fx_goto (n := 2) dd_M_mendParents_98 rfl ?_
      refine fx_sub (L' := [(0, _), (1, _)]) [1, 0] rfl ?_
      exact h
    · replace h := h.2 hc
      refine fx_iconst (n := 94) (v := 0) dd_M_mendParents_93 (by decide) rfl ?_
      exact fx_zret dd_M_mendParents_94 rfl rfl h
  · replace h := h.2 hc
    refine fx_aload_n (n := 37) dd_M_mendParents_36 rfl 0 rfl rfl ?_
    obtain ⟨q13, h⟩ := h
    obtain ⟨r14, hr14, h⟩ := h
    refine fx_getP (n := 40) dd_M_mendParents_37 fw_M_24 (by decide) rfl rfl q13.1 q13.2 hr14 ?_
    refine fx_iload_n (n := 41) dd_M_mendParents_40 rfl 2 rfl rfl ?_
    refine fx_aload_n (n := 42) dd_M_mendParents_41 rfl 0 rfl rfl ?_
    refine fx_iload_n (n := 43) dd_M_mendParents_42 rfl 1 rfl rfl ?_
    refine fx_iload_n (n := 44) dd_M_mendParents_43 rfl 2 rfl rfl ?_
    refine fx_callV (n := 47) (vs := [_, _]) dd_M_mendParents_44 mw_M_byteOf ⟨wd_729, wd_731, wp_40⟩ rfl (by decide) q13.1 q13.2 rfl rfl ⟨Nat.le_of_ble_eq_true rfl, Nat.le_of_ble_eq_true rfl, Nat.le_of_ble_eq_true rfl, fx_nx, rfl⟩ rfl h (fx_qi_k fun x16 S15 h => ?_) (fun _ _ h => h)
    obtain ⟨q17, h⟩ := h
    obtain ⟨q18, h⟩ := h
    replace h := h _ rfl
    refine fx_iast (n := 48) dd_M_mendParents_47 rfl q17.1 q17.2 q18 ?_
    refine fx_iinc (n := 51) (L' := [(2, _), (0, _), (1, _)]) dd_M_mendParents_48 2 rfl rfl (by decide) rfl rfl ?_
    refine fx_goto (n := 30) dd_M_mendParents_51 rfl ?_
    refine fx_sub (L' := [(0, _), (1, _), (2, _)]) [1, 2, 0] rfl ?_
    exact h
theorem bk_M_mendLists_0 {G : fx_G} {S : fx_S} {Q : fx_R → fx_S → Prop} (v0 : Nat) (h : fx_Go G (6, 90) mm_M_mendLists 2 [(0, fx_r G v0), (1, .int 0)] [] S Q) :
    fx_Go G (6, 90) mm_M_mendLists 0 [(0, fx_r G v0)] [] S Q := by
  refine fx_iconst (n := 1) (v := 0) dd_M_mendLists_0 (by decide) rfl ?_
  refine fx_istore_n (n := 2) (L' := [(1, _), (0, _)]) dd_M_mendLists_1 rfl (by decide) rfl rfl ?_
  refine fx_sub (L' := [(0, _), (1, _)]) [1, 0] rfl ?_
  exact h
