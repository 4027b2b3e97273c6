theorem bk_Y_init_0 {G : fx_G} {S : fx_S} {Q : fx_R → fx_S → Prop} (v0 : Nat) (h : fx_room S 63 ∧ ∀ S1, S1 = fx_new S 100 63 63 → fx_is S1 v0 1 ∧ ∀ S4, S4 = fx_setP S1 v0 0 (some (fx_m S)) → Q (.inl none) S4) :
    fx_Go G (1, 12) mm_Y_init 0 [(0, fx_r G v0)] [] S Q := by
  refine fx_aload_n (n := 1) dd_Y_init_0 rfl 0 rfl rfl ?_
  refine fx_objInit (n := 4) dd_Y_init_1 ⟨wd_68, wd_22, wd_23⟩ rfl ⟨by decide, Nat.le_of_ble_eq_true rfl⟩ ?_
  refine fx_aload_n (n := 5) dd_Y_init_4 rfl 0 rfl rfl ?_
  refine fx_bipush (n := 7) (v := 63) dd_Y_init_5 (by decide) rfl ?_
  obtain ⟨q2, h⟩ := h
  replace h := h _ rfl
  refine fx_newa (n := 9) (t := 0) (N := 63) dd_Y_init_7 wd_39 (Or.inl ⟨rfl, rfl⟩) rfl (by decide) (by decide) q2.1 q2.2.1 q2.2.2 ?_
  obtain ⟨q3, h⟩ := h
  replace h := h _ rfl
  refine fx_putP (n := 12) dd_Y_init_9 fw_Y_9 (by decide) rfl rfl rfl (fun _ => rfl) (fun _ => rfl) rfl q3.1 q3.2 ?_
  exact fx_vret dd_Y_init_12 rfl h
theorem bk_Y_placeOf_0 {G : fx_G} {S : fx_S} {Q : fx_R → fx_S → Prop} (v0 : Nat) (v1 : Int32) (h : (v1 < 0 → Q (.inl (some (.int (-1)))) S) ∧ (¬ v1 < 0 → fx_is S v0 1 ∧ ((fx_I S v0 1) ≤ v1 → Q (.inl (some (.int (-1)))) S) ∧ (¬ (fx_I S v0 1) ≤ v1 → ∃ r2, fx_P S v0 0 = some r2 ∧ fx_is S r2 100 ∧ vp_in v1 (fx_ln S r2) ∧ Q (.inl (some (.int (fx_I S r2 (v1.toNatClampNeg))))) S))) :
    fx_Go G (0, 0) mm_Y_placeOf 0 [(0, fx_r G v0), (1, .int v1)] [] S Q := by
  refine fx_iload_n (n := 1) dd_Y_placeOf_0 rfl 1 rfl rfl ?_
  refine fx_if_lt (n := 4) (tg := 21) dd_Y_placeOf_1 rfl rfl (fun hc => ?_) (fun hc => ?_)
  · replace h := h.1 hc
    refine fx_iconst (n := 22) (v := (-1)) dd_Y_placeOf_21 (by decide) rfl ?_
    exact fx_iret dd_Y_placeOf_22 rfl h
  · replace h := h.2 hc
    refine fx_iload_n (n := 5) dd_Y_placeOf_4 rfl 1 rfl rfl ?_
    refine fx_aload_n (n := 6) dd_Y_placeOf_5 rfl 0 rfl rfl ?_
    obtain ⟨q1, h⟩ := h
    refine fx_getI (n := 9) dd_Y_placeOf_6 fw_Y_15 (by decide) rfl rfl q1.1 q1.2 ?_
    refine fx_icmp_ge (n := 12) (tg := 21) dd_Y_placeOf_9 rfl rfl (fun hc => ?_) (fun hc => ?_)
    · replace h := h.1 hc
      refine fx_iconst (n := 22) (v := (-1)) dd_Y_placeOf_21 (by decide) rfl ?_
      exact fx_iret dd_Y_placeOf_22 rfl h
    · replace h := h.2 hc
      refine fx_aload_n (n := 13) dd_Y_placeOf_12 rfl 0 rfl rfl ?_
      obtain ⟨r2, hr2, h⟩ := h
      refine fx_getP (n := 16) dd_Y_placeOf_13 fw_Y_9 (by decide) rfl rfl q1.1 q1.2 hr2 ?_
      refine fx_iload_n (n := 17) dd_Y_placeOf_16 rfl 1 rfl rfl ?_
      obtain ⟨q3, h⟩ := h
      obtain ⟨q4, h⟩ := h
      refine fx_iald (n := 18) dd_Y_placeOf_17 rfl q3.1 q3.2 q4 ?_
      refine fx_goto (n := 22) dd_Y_placeOf_18 rfl ?_
      exact fx_iret dd_Y_placeOf_22 rfl h
theorem bk_Y_append_0 {G : fx_G} {S : fx_S} {Q : fx_R → fx_S → Prop} (v0 : Nat) (v1 : Int32) (v2 : Int32) (h : fx_Go G (0, 0) mm_Y_append 2 [(0, fx_r G v0), (1, .int v1), (2, .int v2), (3, .int 0)] [] S Q) :
    fx_Go G (0, 0) mm_Y_append 0 [(0, fx_r G v0), (1, .int v1), (2, .int v2)] [] S Q := by
  refine fx_iconst (n := 1) (v := 0) dd_Y_append_0 (by decide) rfl ?_
  refine fx_istore_n (n := 2) (L' := [(3, _), (0, _), (1, _), (2, _)]) dd_Y_append_1 rfl (by decide) rfl rfl ?_
  refine fx_sub (L' := [(0, _), (1, _), (2, _), (3, _)]) [1, 2, 3, 0] rfl ?_
  exact h
theorem bk_Y_append_2 {G : fx_G} {S : fx_S} {Q : fx_R → fx_S → Prop} (v0 : Nat) (v1 : Int32) (v2 : Int32) (v3 : Int32) (h : (v2 ≤ v3 → Q (.inl none) S) ∧ (¬ v2 ≤ v3 → fx_is S v0 1 ∧ ∃ r2, fx_P S v0 0 = some r2 ∧ fx_is S r2 100 ∧ ((Int32.ofNat (fx_ln S r2)) ≤ (fx_I S v0 1) → Q (.inl none) S) ∧ (¬ (Int32.ofNat (fx_ln S r2)) ≤ (fx_I S v0 1) → ∃ r4, fx_P S v0 0 = some r4 ∧ (¬ v1 = (-1) → fx_is S r4 100 ∧ vp_in (fx_I S v0 1) (fx_ln S r4) ∧ ∀ S7, S7 = fx_setI S r4 ((fx_I S v0 1).toNatClampNeg) (v1 + v3) → ∀ S8, S8 = fx_setI S7 v0 1 ((fx_I S7 v0 1) + 1) → fx_Go G (0, 0) mm_Y_append 2 [(0, fx_r G v0), (1, .int v1), (2, .int v2), (3, .int (v3 + Int32.ofInt 1))] [] S8 Q) ∧ (v1 = (-1) → fx_is S r4 100 ∧ vp_in (fx_I S v0 1) (fx_ln S r4) ∧ ∀ S11, S11 = fx_setI S r4 ((fx_I S v0 1).toNatClampNeg) (-1) → ∀ S12, S12 = fx_setI S11 v0 1 ((fx_I S11 v0 1) + 1) → fx_Go G (0, 0) mm_Y_append 2 [(0, fx_r G v0), (1, .int v1), (2, .int v2), (3, .int (v3 + Int32.ofInt 1))] [] S12 Q)))) :
    fx_Go G (0, 0) mm_Y_append 2 [(0, fx_r G v0), (1, .int v1), (2, .int v2), (3, .int v3)] [] S Q := by
  refine fx_iload_n (n := 3) dd_Y_append_2 rfl 3 rfl rfl ?_
  refine fx_iload_n (n := 4) dd_Y_append_3 rfl 2 rfl rfl ?_
  refine fx_icmp_ge (n := 7) (tg := 56) dd_Y_append_4 rfl rfl (fun hc => ?_) (fun hc => ?_)
  · replace h := h.1 hc
    exact fx_vret dd_Y_append_56 rfl h
  · replace h := h.2 hc
    refine fx_aload_n (n := 8) dd_Y_append_7 rfl 0 rfl rfl ?_
    obtain ⟨q1, h⟩ := h
    refine fx_getI (n := 11) dd_Y_append_8 fw_Y_15 (by decide) rfl rfl q1.1 q1.2 ?_
    refine fx_aload_n (n := 12) dd_Y_append_11 rfl 0 rfl rfl ?_
    obtain ⟨r2, hr2, h⟩ := h
    refine fx_getP (n := 15) dd_Y_append_12 fw_Y_9 (by decide) rfl rfl q1.1 q1.2 hr2 ?_
    obtain ⟨q3, h⟩ := h
    refine fx_alen (n := 16) dd_Y_append_15 rfl q3.1 q3.2 ?_
    refine fx_icmp_ge (n := 19) (tg := 56) dd_Y_append_16 rfl rfl (fun hc => ?_) (fun hc => ?_)
    · replace h := h.1 hc
      exact fx_vret dd_Y_append_56 rfl h
    · replace h := h.2 hc
      refine fx_aload_n (n := 20) dd_Y_append_19 rfl 0 rfl rfl ?_
      obtain ⟨r4, hr4, h⟩ := h
      refine fx_getP (n := 23) dd_Y_append_20 fw_Y_9 (by decide) rfl rfl q1.1 q1.2 hr4 ?_
      refine fx_aload_n (n := 24) dd_Y_append_23 rfl 0 rfl rfl ?_
      refine fx_getI (n := 27) dd_Y_append_24 fw_Y_15 (by decide) rfl rfl q1.1 q1.2 ?_
      refine fx_iload_n (n := 28) dd_Y_append_27 rfl 1 rfl rfl ?_
      refine fx_iconst (n := 29) (v := (-1)) dd_Y_append_28 (by decide) rfl ?_
      refine fx_icmp_ne (n := 32) (tg := 36) dd_Y_append_29 rfl rfl (fun hc => ?_) (fun hc => ?_)
      · replace h := h.1 hc
        refine fx_iload_n (n := 37) dd_Y_append_36 rfl 1 rfl rfl ?_
        refine fx_iload_n (n := 38) dd_Y_append_37 rfl 3 rfl rfl ?_
        refine fx_iadd (n := 39) dd_Y_append_38 rfl ?_
        obtain ⟨q5, h⟩ := h
        obtain ⟨q6, h⟩ := h
        replace h := h _ rfl
        refine fx_iast (n := 40) dd_Y_append_39 rfl q5.1 q5.2 q6 ?_
        refine fx_aload_n (n := 41) dd_Y_append_40 rfl 0 rfl rfl ?_
        refine fx_dup (n := 42) dd_Y_append_41 rfl rfl ?_
        refine fx_getI (n := 45) dd_Y_append_42 fw_Y_15 (by decide) rfl rfl q1.1 q1.2 ?_
        refine fx_iconst (n := 46) (v := 1) dd_Y_append_45 (by decide) rfl ?_
        refine fx_iadd (n := 47) dd_Y_append_46 rfl ?_
        replace h := h _ rfl
        refine fx_putI (n := 50) dd_Y_append_47 fw_Y_15 (by decide) rfl rfl rfl rfl q1.1 q1.2 ?_
        refine fx_iinc (n := 53) (L' := [(3, _), (0, _), (1, _), (2, _)]) dd_Y_append_50 3 rfl rfl (by decide) rfl rfl ?_
        refine fx_goto (n := 2) dd_Y_append_53 rfl ?_
        refine fx_sub (L' := [(0, _), (1, _), (2, _), (3, _)]) [1, 2, 3, 0] rfl ?_
        exact h
      · replace h := h.2 hc
        refine fx_iconst (n := 33) (v := (-1)) dd_Y_append_32 (by decide) rfl ?_
        refine fx_goto (n := 39) dd_Y_append_33 rfl ?_
        obtain ⟨q9, h⟩ := h
        obtain ⟨q10, h⟩ := h
        replace h := h _ rfl
        refine fx_iast (n := 40) dd_Y_append_39 rfl q9.1 q9.2 q10 ?_
        refine fx_aload_n (n := 41) dd_Y_append_40 rfl 0 rfl rfl ?_
        refine fx_dup (n := 42) dd_Y_append_41 rfl rfl ?_
        refine fx_getI (n := 45) dd_Y_append_42 fw_Y_15 (by decide) rfl rfl q1.1 q1.2 ?_
        refine fx_iconst (n := 46) (v := 1) dd_Y_append_45 (by decide) rfl ?_
        refine fx_iadd (n := 47) dd_Y_append_46 rfl ?_
        replace h := h _ rfl
        refine fx_putI (n := 50) dd_Y_append_47 fw_Y_15 (by decide) rfl rfl rfl rfl q1.1 q1.2 ?_
        refine fx_iinc (n := 53) (L' := [(3, _), (0, _), (1, _), (2, _)]) dd_Y_append_50 3 rfl rfl (by decide) rfl rfl ?_
        refine fx_goto (n := 2) dd_Y_append_53 rfl ?_
        refine fx_sub (L' := [(0, _), (1, _), (2, _), (3, _)]) [1, 2, 3, 0] rfl ?_
        exact h
theorem bk_Y_copyFrom_0 {G : fx_G} {S : fx_S} {Q : fx_R → fx_S → Prop} (v0 : Nat) (v1 : Nat) (h : fx_is S v1 1 ∧ ∃ r2, fx_P S v1 0 = some r2 ∧ fx_is S v0 1 ∧ ∃ r4, fx_P S v0 0 = some r4 ∧ fx_is S r2 100 ∧ fx_is S r4 100 ∧ fx_cpy S r2 r4 0 0 (fx_I S v1 1) ∧ ∀ S5, S5 = fx_setR S r4 (va_cpy (fx_I S r2) (fx_I S r4) ((0 : Int32).toNatClampNeg) ((0 : Int32).toNatClampNeg) ((fx_I S v1 1).toNatClampNeg)) → ∀ S9, S9 = fx_setI S5 v0 1 (fx_I S5 v1 1) → Q (.inl none) S9) :
    fx_Go G (1, 18) mm_Y_copyFrom 0 [(0, fx_r G v0), (1, fx_r G v1)] [] S Q := by
  refine fx_aload_n (n := 1) dd_Y_copyFrom_0 rfl 1 rfl rfl ?_
  obtain ⟨q1, h⟩ := h
  obtain ⟨r2, hr2, h⟩ := h
  refine fx_getP (n := 4) dd_Y_copyFrom_1 fw_Y_9 (by decide) rfl rfl q1.1 q1.2 hr2 ?_
  refine fx_iconst (n := 5) (v := 0) dd_Y_copyFrom_4 (by decide) rfl ?_
  refine fx_aload_n (n := 6) dd_Y_copyFrom_5 rfl 0 rfl rfl ?_
  obtain ⟨q3, h⟩ := h
  obtain ⟨r4, hr4, h⟩ := h
  refine fx_getP (n := 9) dd_Y_copyFrom_6 fw_Y_9 (by decide) rfl rfl q3.1 q3.2 hr4 ?_
  refine fx_iconst (n := 10) (v := 0) dd_Y_copyFrom_9 (by decide) rfl ?_
  refine fx_aload_n (n := 11) dd_Y_copyFrom_10 rfl 1 rfl rfl ?_
  refine fx_getI (n := 14) dd_Y_copyFrom_11 fw_Y_15 (by decide) rfl rfl q1.1 q1.2 ?_
  obtain ⟨q6, h⟩ := h
  obtain ⟨q7, h⟩ := h
  obtain ⟨q8, h⟩ := h
  replace h := h _ rfl
  refine fx_copy (n := 17) dd_Y_copyFrom_14 ⟨wd_514, wd_145, wd_144, wd_7⟩ rfl ⟨by decide, Nat.le_of_ble_eq_true rfl⟩ q6.1 q6.2 q7.1 q7.2 q8.1 q8.2.1 q8.2.2.1 q8.2.2.2.1 q8.2.2.2.2 ?_
  refine fx_aload_n (n := 18) dd_Y_copyFrom_17 rfl 0 rfl rfl ?_
  refine fx_aload_n (n := 19) dd_Y_copyFrom_18 rfl 1 rfl rfl ?_
  refine fx_getI (n := 22) dd_Y_copyFrom_19 fw_Y_15 (by decide) rfl rfl q1.1 q1.2 ?_
  replace h := h _ rfl
  refine fx_putI (n := 25) dd_Y_copyFrom_22 fw_Y_15 (by decide) rfl rfl rfl rfl q3.1 q3.2 ?_
  exact fx_vret dd_Y_copyFrom_25 rfl h
theorem bk_Y_startsRun_0 {G : fx_G} {S : fx_S} {Q : fx_R → fx_S → Prop} (v0 : Nat) (v1 : Int32) (h : (¬ v1 = 0 → fx_is S v0 1 ∧ ∃ r2, fx_P S v0 0 = some r2 ∧ fx_is S r2 100 ∧ vp_in v1 (fx_ln S r2) ∧ ((fx_I S r2 (v1.toNatClampNeg)) = (-1) → fx_Go G (0, 0) mm_Y_startsRun 28 [(0, fx_r G v0), (1, .int v1)] [] S Q) ∧ (¬ (fx_I S r2 (v1.toNatClampNeg)) = (-1) → ∃ r5, fx_P S v0 0 = some r5 ∧ fx_is S r5 100 ∧ vp_in (v1 - 1) (fx_ln S r5) ∧ (¬ (fx_I S r5 ((v1 - 1).toNatClampNeg)) = (-1) → ∃ r8, fx_P S v0 0 = some r8 ∧ fx_is S r8 100 ∧ vp_in v1 (fx_ln S r8) ∧ ∃ r11, fx_P S v0 0 = some r11 ∧ fx_is S r11 100 ∧ vp_in (v1 - 1) (fx_ln S r11) ∧ ((fx_I S r8 (v1.toNatClampNeg)) = ((fx_I S r11 ((v1 - 1).toNatClampNeg)) + 1) → Q (.inl (some (.int 0))) S) ∧ (¬ (fx_I S r8 (v1.toNatClampNeg)) = ((fx_I S r11 ((v1 - 1).toNatClampNeg)) + 1) → Q (.inl (some (.int 1))) S)) ∧ ((fx_I S r5 ((v1 - 1).toNatClampNeg)) = (-1) → fx_Go G (0, 0) mm_Y_startsRun 28 [(0, fx_r G v0), (1, .int v1)] [] S Q))) ∧ (v1 = 0 → Q (.inl (some (.int 1))) S)) :
    fx_Go G (0, 0) mm_Y_startsRun 0 [(0, fx_r G v0), (1, .int v1)] [] S Q := by
  refine fx_iload_n (n := 1) dd_Y_startsRun_0 rfl 1 rfl rfl ?_
  refine fx_if_ne (n := 4) (tg := 6) dd_Y_startsRun_1 rfl rfl (fun hc => ?_) (fun hc => ?_)
  · replace h := h.1 hc
    refine fx_aload_n (n := 7) dd_Y_startsRun_6 rfl 0 rfl rfl ?_
    obtain ⟨q1, h⟩ := h
    obtain ⟨r2, hr2, h⟩ := h
    refine fx_getP (n := 10) dd_Y_startsRun_7 fw_Y_9 (by decide) rfl rfl q1.1 q1.2 hr2 ?_
    refine fx_iload_n (n := 11) dd_Y_startsRun_10 rfl 1 rfl rfl ?_
    obtain ⟨q3, h⟩ := h
    obtain ⟨q4, h⟩ := h
    refine fx_iald (n := 12) dd_Y_startsRun_11 rfl q3.1 q3.2 q4 ?_
    refine fx_iconst (n := 13) (v := (-1)) dd_Y_startsRun_12 (by decide) rfl ?_
    refine fx_icmp_eq (n := 16) (tg := 28) dd_Y_startsRun_13 rfl rfl (fun hc => ?_) (fun hc => ?_)
    · replace h := h.1 hc
      exact h
    · replace h := h.2 hc
      refine fx_aload_n (n := 17) dd_Y_startsRun_16 rfl 0 rfl rfl ?_
      obtain ⟨r5, hr5, h⟩ := h
      refine fx_getP (n := 20) dd_Y_startsRun_17 fw_Y_9 (by decide) rfl rfl q1.1 q1.2 hr5 ?_
      refine fx_iload_n (n := 21) dd_Y_startsRun_20 rfl 1 rfl rfl ?_
      refine fx_iconst (n := 22) (v := 1) dd_Y_startsRun_21 (by decide) rfl ?_
      refine fx_isub (n := 23) dd_Y_startsRun_22 rfl ?_
      obtain ⟨q6, h⟩ := h
      obtain ⟨q7, h⟩ := h
      refine fx_iald (n := 24) dd_Y_startsRun_23 rfl q6.1 q6.2 q7 ?_
      refine fx_iconst (n := 25) (v := (-1)) dd_Y_startsRun_24 (by decide) rfl ?_
      refine fx_icmp_ne (n := 28) (tg := 51) dd_Y_startsRun_25 rfl rfl (fun hc => ?_) (fun hc => ?_)
      · replace h := h.1 hc
        refine fx_aload_n (n := 52) dd_Y_startsRun_51 rfl 0 rfl rfl ?_
        obtain ⟨r8, hr8, h⟩ := h
        refine fx_getP (n := 55) dd_Y_startsRun_52 fw_Y_9 (by decide) rfl rfl q1.1 q1.2 hr8 ?_
        refine fx_iload_n (n := 56) dd_Y_startsRun_55 rfl 1 rfl rfl ?_
        obtain ⟨q9, h⟩ := h
        obtain ⟨q10, h⟩ := h
        refine fx_iald (n := 57) dd_Y_startsRun_56 rfl q9.1 q9.2 q10 ?_
        refine fx_aload_n (n := 58) dd_Y_startsRun_57 rfl 0 rfl rfl ?_
        obtain ⟨r11, hr11, h⟩ := h
        refine fx_getP (n := 61) dd_Y_startsRun_58 fw_Y_9 (by decide) rfl rfl q1.1 q1.2 hr11 ?_
        refine fx_iload_n (n := 62) dd_Y_startsRun_61 rfl 1 rfl rfl ?_
        refine fx_iconst (n := 63) (v := 1) dd_Y_startsRun_62 (by decide) rfl ?_
        refine fx_isub (n := 64) dd_Y_startsRun_63 rfl ?_
        obtain ⟨q12, h⟩ := h
        obtain ⟨q13, h⟩ := h
        refine fx_iald (n := 65) dd_Y_startsRun_64 rfl q12.1 q12.2 q13 ?_
        refine fx_iconst (n := 66) (v := 1) dd_Y_startsRun_65 (by decide) rfl ?_
        refine fx_iadd (n := 67) dd_Y_startsRun_66 rfl ?_
        refine fx_icmp_eq (n := 70) (tg := 74) dd_Y_startsRun_67 rfl rfl (fun hc => ?_) (fun hc => ?_)
        · replace h := h.1 hc
          refine fx_iconst (n := 75) (v := 0) dd_Y_startsRun_74 (by decide) rfl ?_
          exact fx_zret dd_Y_startsRun_75 rfl rfl h
        · replace h := h.2 hc
          refine fx_iconst (n := 71) (v := 1) dd_Y_startsRun_70 (by decide) rfl ?_
          refine fx_goto (n := 75) dd_Y_startsRun_71 rfl ?_
          exact fx_zret dd_Y_startsRun_75 rfl rfl h
      · replace h := h.2 hc
        exact h
  · replace h := h.2 hc
    refine fx_iconst (n := 5) (v := 1) dd_Y_startsRun_4 (by decide) rfl ?_
    exact fx_zret dd_Y_startsRun_5 rfl rfl h
theorem bk_Y_startsRun_28 {G : fx_G} {S : fx_S} {Q : fx_R → fx_S → Prop} (v0 : Nat) (v1 : Int32) (h : fx_is S v0 1 ∧ ∃ r2, fx_P S v0 0 = some r2 ∧ fx_is S r2 100 ∧ vp_in v1 (fx_ln S r2) ∧ ∃ r5, fx_P S v0 0 = some r5 ∧ fx_is S r5 100 ∧ vp_in (v1 - 1) (fx_ln S r5) ∧ ((fx_I S r2 (v1.toNatClampNeg)) = (fx_I S r5 ((v1 - 1).toNatClampNeg)) → Q (.inl (some (.int 0))) S) ∧ (¬ (fx_I S r2 (v1.toNatClampNeg)) = (fx_I S r5 ((v1 - 1).toNatClampNeg)) → Q (.inl (some (.int 1))) S)) :
    fx_Go G (0, 0) mm_Y_startsRun 28 [(0, fx_r G v0), (1, .int v1)] [] S Q := by
  refine fx_aload_n (n := 29) dd_Y_startsRun_28 rfl 0 rfl rfl ?_
  obtain ⟨q1, h⟩ := h
  obtain ⟨r2, hr2, h⟩ := h
  refine fx_getP (n := 32) dd_Y_startsRun_29 fw_Y_9 (by decide) rfl rfl q1.1 q1.2 hr2 ?_
  refine fx_iload_n (n := 33) dd_Y_startsRun_32 rfl 1 rfl rfl ?_
  obtain ⟨q3, h⟩ := h
  obtain ⟨q4, h⟩ := h
  refine fx_iald (n := 34) dd_Y_startsRun_33 rfl q3.1 q3.2 q4 ?_
  refine fx_aload_n (n := 35) dd_Y_startsRun_34 rfl 0 rfl rfl ?_
  obtain ⟨r5, hr5, h⟩ := h
  refine fx_getP (n := 38) dd_Y_startsRun_35 fw_Y_9 (by decide) rfl rfl q1.1 q1.2 hr5 ?_
  refine fx_iload_n (n := 39) dd_Y_startsRun_38 rfl 1 rfl rfl ?_
  refine fx_iconst (n := 40) (v := 1) dd_Y_startsRun_39 (by decide) rfl ?_
  refine fx_isub (n := 41) dd_Y_startsRun_40 rfl ?_
  obtain ⟨q6, h⟩ := h
  obtain ⟨q7, h⟩ := h
  refine fx_iald (n := 42) dd_Y_startsRun_41 rfl q6.1 q6.2 q7 ?_
  refine fx_icmp_eq (n := 45) (tg := 49) dd_Y_startsRun_42 rfl rfl (fun hc => ?_) (fun hc => ?_)
  · replace h := h.1 hc
    refine fx_iconst (n := 50) (v := 0) dd_Y_startsRun_49 (by decide) rfl ?_
    exact fx_zret dd_Y_startsRun_50 rfl rfl h
  · replace h := h.2 hc
    refine fx_iconst (n := 46) (v := 1) dd_Y_startsRun_45 (by decide) rfl ?_
    refine fx_goto (n := 50) dd_Y_startsRun_46 rfl ?_
    exact fx_zret dd_Y_startsRun_50 rfl rfl h
theorem bk_Y_runCount_0 {G : fx_G} {S : fx_S} {Q : fx_R → fx_S → Prop} (v0 : Nat) (h : fx_Go G (1, 13) mm_Y_runCount 4 [(0, fx_r G v0), (1, .int 0), (2, .int 0)] [] S Q) :
    fx_Go G (1, 13) mm_Y_runCount 0 [(0, fx_r G v0)] [] S Q := by
  refine fx_iconst (n := 1) (v := 0) dd_Y_runCount_0 (by decide) rfl ?_
  refine fx_istore_n (n := 2) (L' := [(1, _), (0, _)]) dd_Y_runCount_1 rfl (by decide) rfl rfl ?_
  refine fx_iconst (n := 3) (v := 0) dd_Y_runCount_2 (by decide) rfl ?_
  refine fx_istore_n (n := 4) (L' := [(2, _), (1, _), (0, _)]) dd_Y_runCount_3 rfl (by decide) rfl rfl ?_
  refine fx_sub (L' := [(0, _), (1, _), (2, _)]) [2, 1, 0] rfl ?_
  exact h
theorem bk_Y_runCount_4 {G : fx_G} {S : fx_S} {Q : fx_R → fx_S → Prop} (v0 : Nat) (v1 : Int32) (v2 : Int32) (h : fx_is S v0 1 ∧ ((fx_I S v0 1) ≤ v2 → Q (.inl (some (.int v1))) S) ∧ (¬ (fx_I S v0 1) ≤ v2 → fx_Go G (0, 0) mm_Y_startsRun 0 [(0, fx_r G v0), (1, .int v2)] [] S (fx_qi (fun x3 S2 => (x3 = 0 → fx_Go G (1, 13) mm_Y_runCount 4 [(0, fx_r G v0), (1, .int v1), (2, .int (v2 + Int32.ofInt 1))] [] S2 Q) ∧ (¬ x3 = 0 → fx_Go G (1, 13) mm_Y_runCount 4 [(0, fx_r G v0), (1, .int (v1 + Int32.ofInt 1)), (2, .int (v2 + Int32.ofInt 1))] [] S2 Q)) Q))) :
    fx_Go G (1, 13) mm_Y_runCount 4 [(0, fx_r G v0), (1, .int v1), (2, .int v2)] [] S Q := by
  refine fx_iload_n (n := 5) dd_Y_runCount_4 rfl 2 rfl rfl ?_
  refine fx_aload_n (n := 6) dd_Y_runCount_5 rfl 0 rfl rfl ?_
  obtain ⟨q1, h⟩ := h
  refine fx_getI (n := 9) dd_Y_runCount_6 fw_Y_15 (by decide) rfl rfl q1.1 q1.2 ?_
  refine fx_icmp_ge (n := 12) (tg := 29) dd_Y_runCount_9 rfl rfl (fun hc => ?_) (fun hc => ?_)
  · replace h := h.1 hc
    refine fx_iload_n (n := 30) dd_Y_runCount_29 rfl 1 rfl rfl ?_
    exact fx_iret dd_Y_runCount_30 rfl h
  · replace h := h.2 hc
    refine fx_aload_n (n := 13) dd_Y_runCount_12 rfl 0 rfl rfl ?_
    refine fx_iload_n (n := 14) dd_Y_runCount_13 rfl 2 rfl rfl ?_
    refine fx_callV (n := 17) (vs := [_]) dd_Y_runCount_14 mw_Y_startsRun ⟨wd_154, wd_155, wd_156⟩ rfl (by decide) q1.1 q1.2 rfl rfl ⟨Nat.le_of_ble_eq_true rfl, Nat.le_of_ble_eq_true rfl, Nat.le_of_ble_eq_true rfl, fx_nx, rfl⟩ rfl h (fx_qi_k fun x3 S2 h => ?_) (fun _ _ h => h)
    refine fx_if_eq (n := 20) (tg := 23) dd_Y_runCount_17 rfl rfl (fun hc => ?_) (fun hc => ?_)
    · replace h := h.1 hc
      refine fx_iinc (n := 26) (L' := [(2, _), (0, _), (1, _)]) dd_Y_runCount_23 2 rfl rfl (by decide) rfl rfl ?_
      refine fx_goto (n := 4) dd_Y_runCount_26 rfl ?_
      refine fx_sub (L' := [(0, _), (1, _), (2, _)]) [1, 2, 0] rfl ?_
      exact h
    · replace h := h.2 hc
      refine fx_iinc (n := 23) (L' := [(1, _), (0, _), (2, _)]) dd_Y_runCount_20 1 rfl rfl (by decide) rfl rfl ?_
      refine fx_iinc (n := 26) (L' := [(2, _), (1, _), (0, _)]) dd_Y_runCount_23 2 rfl rfl (by decide) rfl rfl ?_
      refine fx_goto (n := 4) dd_Y_runCount_26 rfl ?_
      refine fx_sub (L' := [(0, _), (1, _), (2, _)]) [2, 1, 0] rfl ?_
      exact h
theorem bk_Y_startOfRun_0 {G : fx_G} {S : fx_S} {Q : fx_R → fx_S → Prop} (v0 : Nat) (v1 : Int32) (h : fx_Go G (1, 13) mm_Y_startOfRun 4 [(0, fx_r G v0), (1, .int v1), (2, .int 0), (3, .int 0)] [] S Q) :
    fx_Go G (1, 13) mm_Y_startOfRun 0 [(0, fx_r G v0), (1, .int v1)] [] S Q := by
  refine fx_iconst (n := 1) (v := 0) dd_Y_startOfRun_0 (by decide) rfl ?_
  refine fx_istore_n (n := 2) (L' := [(2, _), (0, _), (1, _)]) dd_Y_startOfRun_1 rfl (by decide) rfl rfl ?_
  refine fx_iconst (n := 3) (v := 0) dd_Y_startOfRun_2 (by decide) rfl ?_
  refine fx_istore_n (n := 4) (L' := [(3, _), (2, _), (0, _), (1, _)]) dd_Y_startOfRun_3 rfl (by decide) rfl rfl ?_
  refine fx_sub (L' := [(0, _), (1, _), (2, _), (3, _)]) [2, 3, 1, 0] rfl ?_
  exact h
theorem bk_Y_startOfRun_4 {G : fx_G} {S : fx_S} {Q : fx_R → fx_S → Prop} (v0 : Nat) (v1 : Int32) (v2 : Int32) (v3 : Int32) (h : fx_is S v0 1 ∧ ((fx_I S v0 1) ≤ v3 → Q (.inl (some (.int (-1)))) S) ∧ (¬ (fx_I S v0 1) ≤ v3 → fx_Go G (0, 0) mm_Y_startsRun 0 [(0, fx_r G v0), (1, .int v3)] [] S (fx_qi (fun x3 S2 => (x3 = 0 → fx_Go G (1, 13) mm_Y_startOfRun 4 [(0, fx_r G v0), (1, .int v1), (2, .int v2), (3, .int (v3 + Int32.ofInt 1))] [] S2 Q) ∧ (¬ x3 = 0 → (¬ v2 = v1 → fx_Go G (1, 13) mm_Y_startOfRun 4 [(0, fx_r G v0), (1, .int v1), (2, .int (v2 + Int32.ofInt 1)), (3, .int (v3 + Int32.ofInt 1))] [] S2 Q) ∧ (v2 = v1 → Q (.inl (some (.int v3))) S2))) Q))) :
    fx_Go G (1, 13) mm_Y_startOfRun 4 [(0, fx_r G v0), (1, .int v1), (2, .int v2), (3, .int v3)] [] S Q := by
  refine fx_iload_n (n := 5) dd_Y_startOfRun_4 rfl 3 rfl rfl ?_
  refine fx_aload_n (n := 6) dd_Y_startOfRun_5 rfl 0 rfl rfl ?_
  obtain ⟨q1, h⟩ := h
  refine fx_getI (n := 9) dd_Y_startOfRun_6 fw_Y_15 (by decide) rfl rfl q1.1 q1.2 ?_
  refine fx_icmp_ge (n := 12) (tg := 36) dd_Y_startOfRun_9 rfl rfl (fun hc => ?_) (fun hc => ?_)
  · replace h := h.1 hc
    refine fx_iconst (n := 37) (v := (-1)) dd_Y_startOfRun_36 (by decide) rfl ?_
    exact fx_iret dd_Y_startOfRun_37 rfl h
  · replace h := h.2 hc
    refine fx_aload_n (n := 13) dd_Y_startOfRun_12 rfl 0 rfl rfl ?_
    refine fx_iload_n (n := 14) dd_Y_startOfRun_13 rfl 3 rfl rfl ?_
    refine fx_callV (n := 17) (vs := [_]) dd_Y_startOfRun_14 mw_Y_startsRun ⟨wd_154, wd_155, wd_156⟩ rfl (by decide) q1.1 q1.2 rfl rfl ⟨Nat.le_of_ble_eq_true rfl, Nat.le_of_ble_eq_true rfl, Nat.le_of_ble_eq_true rfl, fx_nx, rfl⟩ rfl h (fx_qi_k fun x3 S2 h => ?_) (fun _ _ h => h)
    refine fx_if_eq (n := 20) (tg := 30) dd_Y_startOfRun_17 rfl rfl (fun hc => ?_) (fun hc => ?_)
    · replace h := h.1 hc
      refine fx_iinc (n := 33) (L' := [(3, _), (0, _), (1, _), (2, _)]) dd_Y_startOfRun_30 3 rfl rfl (by decide) rfl rfl ?_
      refine fx_goto (n := 4) dd_Y_startOfRun_33 rfl ?_
      refine fx_sub (L' := [(0, _), (1, _), (2, _), (3, _)]) [1, 2, 3, 0] rfl ?_
      exact h
    · replace h := h.2 hc
      refine fx_iload_n (n := 21) dd_Y_startOfRun_20 rfl 2 rfl rfl ?_
      refine fx_iload_n (n := 22) dd_Y_startOfRun_21 rfl 1 rfl rfl ?_
      refine fx_icmp_ne (n := 25) (tg := 27) dd_Y_startOfRun_22 rfl rfl (fun hc => ?_) (fun hc => ?_)
      · replace h := h.1 hc
        refine fx_iinc (n := 30) (L' := [(2, _), (0, _), (1, _), (3, _)]) dd_Y_startOfRun_27 2 rfl rfl (by decide) rfl rfl ?_
        refine fx_iinc (n := 33) (L' := [(3, _), (2, _), (0, _), (1, _)]) dd_Y_startOfRun_30 3 rfl rfl (by decide) rfl rfl ?_
        refine fx_goto (n := 4) dd_Y_startOfRun_33 rfl ?_
        refine fx_sub (L' := [(0, _), (1, _), (2, _), (3, _)]) [2, 3, 1, 0] rfl ?_
        exact h
      · replace h := h.2 hc
        refine fx_iload_n (n := 26) dd_Y_startOfRun_25 rfl 3 rfl rfl ?_
        exact fx_iret dd_Y_startOfRun_26 rfl h
theorem bk_Y_lengthOfRun_0 {G : fx_G} {S : fx_S} {Q : fx_R → fx_S → Prop} (v0 : Nat) (v1 : Int32) (h : fx_Go G (1, 13) mm_Y_lengthOfRun 4 [(0, fx_r G v0), (1, .int v1), (2, .int (v1 + 1))] [] S Q) :
    fx_Go G (1, 13) mm_Y_lengthOfRun 0 [(0, fx_r G v0), (1, .int v1)] [] S Q := by
  refine fx_iload_n (n := 1) dd_Y_lengthOfRun_0 rfl 1 rfl rfl ?_
  refine fx_iconst (n := 2) (v := 1) dd_Y_lengthOfRun_1 (by decide) rfl ?_
  refine fx_iadd (n := 3) dd_Y_lengthOfRun_2 rfl ?_
  refine fx_istore_n (n := 4) (L' := [(2, _), (0, _), (1, _)]) dd_Y_lengthOfRun_3 rfl (by decide) rfl rfl ?_
  refine fx_sub (L' := [(0, _), (1, _), (2, _)]) [1, 2, 0] rfl ?_
  exact h
theorem bk_Y_lengthOfRun_4 {G : fx_G} {S : fx_S} {Q : fx_R → fx_S → Prop} (v0 : Nat) (v1 : Int32) (v2 : Int32) (h : fx_is S v0 1 ∧ ((fx_I S v0 1) ≤ v2 → Q (.inl (some (.int (v2 - v1)))) S) ∧ (¬ (fx_I S v0 1) ≤ v2 → fx_Go G (0, 0) mm_Y_startsRun 0 [(0, fx_r G v0), (1, .int v2)] [] S (fx_qi (fun x3 S2 => (¬ x3 = 0 → Q (.inl (some (.int (v2 - v1)))) S2) ∧ (x3 = 0 → fx_Go G (1, 13) mm_Y_lengthOfRun 4 [(0, fx_r G v0), (1, .int v1), (2, .int (v2 + Int32.ofInt 1))] [] S2 Q)) Q))) :
    fx_Go G (1, 13) mm_Y_lengthOfRun 4 [(0, fx_r G v0), (1, .int v1), (2, .int v2)] [] S Q := by
  refine fx_iload_n (n := 5) dd_Y_lengthOfRun_4 rfl 2 rfl rfl ?_
  refine fx_aload_n (n := 6) dd_Y_lengthOfRun_5 rfl 0 rfl rfl ?_
  obtain ⟨q1, h⟩ := h
  refine fx_getI (n := 9) dd_Y_lengthOfRun_6 fw_Y_15 (by decide) rfl rfl q1.1 q1.2 ?_
  refine fx_icmp_ge (n := 12) (tg := 26) dd_Y_lengthOfRun_9 rfl rfl (fun hc => ?_) (fun hc => ?_)
  · replace h := h.1 hc
    refine fx_iload_n (n := 27) dd_Y_lengthOfRun_26 rfl 2 rfl rfl ?_
    refine fx_iload_n (n := 28) dd_Y_lengthOfRun_27 rfl 1 rfl rfl ?_
    refine fx_isub (n := 29) dd_Y_lengthOfRun_28 rfl ?_
    exact fx_iret dd_Y_lengthOfRun_29 rfl h
  · replace h := h.2 hc
    refine fx_aload_n (n := 13) dd_Y_lengthOfRun_12 rfl 0 rfl rfl ?_
    refine fx_iload_n (n := 14) dd_Y_lengthOfRun_13 rfl 2 rfl rfl ?_
    refine fx_callV (n := 17) (vs := [_]) dd_Y_lengthOfRun_14 mw_Y_startsRun ⟨wd_154, wd_155, wd_156⟩ rfl (by decide) q1.1 q1.2 rfl rfl ⟨Nat.le_of_ble_eq_true rfl, Nat.le_of_ble_eq_true rfl, Nat.le_of_ble_eq_true rfl, fx_nx, rfl⟩ rfl h (fx_qi_k fun x3 S2 h => ?_) (fun _ _ h => h)
    refine fx_if_ne (n := 20) (tg := 26) dd_Y_lengthOfRun_17 rfl rfl (fun hc => ?_) (fun hc => ?_)
    · replace h := h.1 hc
      refine fx_iload_n (n := 27) dd_Y_lengthOfRun_26 rfl 2 rfl rfl ?_
      refine fx_iload_n (n := 28) dd_Y_lengthOfRun_27 rfl 1 rfl rfl ?_
      refine fx_isub (n := 29) dd_Y_lengthOfRun_28 rfl ?_
      exact fx_iret dd_Y_lengthOfRun_29 rfl h
    · replace h := h.2 hc
      refine fx_iinc (n := 23) (L' := [(2, _), (0, _), (1, _)]) dd_Y_lengthOfRun_20 2 rfl rfl (by decide) rfl rfl ?_
      refine fx_goto (n := 4) dd_Y_lengthOfRun_23 rfl ?_
      refine fx_sub (L' := [(0, _), (1, _), (2, _)]) [1, 2, 0] rfl ?_
      exact h
theorem bk_Y_attributeBytes_0 {G : fx_G} {S : fx_S} {Q : fx_R → fx_S → Prop} (v0 : Nat) (h : fx_Go G (1, 13) mm_Y_attributeBytes 4 [(0, fx_r G v0), (1, .int 5), (2, .int 0)] [] S Q) :
    fx_Go G (1, 13) mm_Y_attributeBytes 0 [(0, fx_r G v0)] [] S Q := by
  refine fx_iconst (n := 1) (v := 5) dd_Y_attributeBytes_0 (by decide) rfl ?_
  refine fx_istore_n (n := 2) (L' := [(1, _), (0, _)]) dd_Y_attributeBytes_1 rfl (by decide) rfl rfl ?_
  refine fx_iconst (n := 3) (v := 0) dd_Y_attributeBytes_2 (by decide) rfl ?_
  refine fx_istore_n (n := 4) (L' := [(2, _), (1, _), (0, _)]) dd_Y_attributeBytes_3 rfl (by decide) rfl rfl ?_
  refine fx_sub (L' := [(0, _), (1, _), (2, _)]) [2, 1, 0] rfl ?_
  exact h
theorem bk_Y_attributeBytes_4 {G : fx_G} {S : fx_S} {Q : fx_R → fx_S → Prop} (v0 : Nat) (v1 : Int32) (v2 : Int32) (h : fx_is S v0 1 ∧ ((fx_I S v0 1) ≤ v2 → Q (.inl (some (.int v1))) S) ∧ (¬ (fx_I S v0 1) ≤ v2 → fx_Go G (0, 0) mm_Y_startsRun 0 [(0, fx_r G v0), (1, .int v2)] [] S (fx_qi (fun x3 S2 => (x3 = 0 → fx_Go G (1, 13) mm_Y_attributeBytes 4 [(0, fx_r G v0), (1, .int v1), (2, .int (v2 + Int32.ofInt 1))] [] S2 Q) ∧ (¬ x3 = 0 → fx_is S2 v0 1 ∧ ∃ r5, fx_P S2 v0 0 = some r5 ∧ fx_is S2 r5 100 ∧ vp_in v2 (fx_ln S2 r5) ∧ (¬ (fx_I S2 r5 (v2.toNatClampNeg)) = (-1) → fx_Go G (1, 13) mm_Y_attributeBytes 4 [(0, fx_r G v0), (1, .int (v1 + 3)), (2, .int (v2 + Int32.ofInt 1))] [] S2 Q) ∧ ((fx_I S2 r5 (v2.toNatClampNeg)) = (-1) → fx_Go G (1, 13) mm_Y_attributeBytes 4 [(0, fx_r G v0), (1, .int (v1 + 2)), (2, .int (v2 + Int32.ofInt 1))] [] S2 Q))) Q))) :
    fx_Go G (1, 13) mm_Y_attributeBytes 4 [(0, fx_r G v0), (1, .int v1), (2, .int v2)] [] S Q := by
  refine fx_iload_n (n := 5) dd_Y_attributeBytes_4 rfl 2 rfl rfl ?_
  refine fx_aload_n (n := 6) dd_Y_attributeBytes_5 rfl 0 rfl rfl ?_
  obtain ⟨q1, h⟩ := h
  refine fx_getI (n := 9) dd_Y_attributeBytes_6 fw_Y_15 (by decide) rfl rfl q1.1 q1.2 ?_
  refine fx_icmp_ge (n := 12) (tg := 44) dd_Y_attributeBytes_9 rfl rfl (fun hc => ?_) (fun hc => ?_)
  · replace h := h.1 hc
    refine fx_iload_n (n := 45) dd_Y_attributeBytes_44 rfl 1 rfl rfl ?_
    exact fx_iret dd_Y_attributeBytes_45 rfl h
  · replace h := h.2 hc
    refine fx_aload_n (n := 13) dd_Y_attributeBytes_12 rfl 0 rfl rfl ?_
    refine fx_iload_n (n := 14) dd_Y_attributeBytes_13 rfl 2 rfl rfl ?_
    refine fx_callV (n := 17) (vs := [_]) dd_Y_attributeBytes_14 mw_Y_startsRun ⟨wd_154, wd_155, wd_156⟩ rfl (by decide) q1.1 q1.2 rfl rfl ⟨Nat.le_of_ble_eq_true rfl, Nat.le_of_ble_eq_true rfl, Nat.le_of_ble_eq_true rfl, fx_nx, rfl⟩ rfl h (fx_qi_k fun x3 S2 h => ?_) (fun _ _ h => h)
    refine fx_if_eq (n := 20) (tg := 38) dd_Y_attributeBytes_17 rfl rfl (fun hc => ?_) (fun hc => ?_)
    · replace h := h.1 hc
      refine fx_iinc (n := 41) (L' := [(2, _), (0, _), (1, _)]) dd_Y_attributeBytes_38 2 rfl rfl (by decide) rfl rfl ?_
      refine fx_goto (n := 4) dd_Y_attributeBytes_41 rfl ?_
      refine fx_sub (L' := [(0, _), (1, _), (2, _)]) [1, 2, 0] rfl ?_
      exact h
    · replace h := h.2 hc
      refine fx_iload_n (n := 21) dd_Y_attributeBytes_20 rfl 1 rfl rfl ?_
      refine fx_aload_n (n := 22) dd_Y_attributeBytes_21 rfl 0 rfl rfl ?_
      obtain ⟨q4, h⟩ := h
      obtain ⟨r5, hr5, h⟩ := h
      refine fx_getP (n := 25) dd_Y_attributeBytes_22 fw_Y_9 (by decide) rfl rfl q4.1 q4.2 hr5 ?_
      refine fx_iload_n (n := 26) dd_Y_attributeBytes_25 rfl 2 rfl rfl ?_
      obtain ⟨q6, h⟩ := h
      obtain ⟨q7, h⟩ := h
      refine fx_iald (n := 27) dd_Y_attributeBytes_26 rfl q6.1 q6.2 q7 ?_
      refine fx_iconst (n := 28) (v := (-1)) dd_Y_attributeBytes_27 (by decide) rfl ?_
      refine fx_icmp_ne (n := 31) (tg := 35) dd_Y_attributeBytes_28 rfl rfl (fun hc => ?_) (fun hc => ?_)
      · replace h := h.1 hc
        refine fx_iconst (n := 36) (v := 3) dd_Y_attributeBytes_35 (by decide) rfl ?_
        refine fx_iadd (n := 37) dd_Y_attributeBytes_36 rfl ?_
        refine fx_istore_n (n := 38) (L' := [(1, _), (0, _), (2, _)]) dd_Y_attributeBytes_37 rfl (by decide) rfl rfl ?_
        refine fx_iinc (n := 41) (L' := [(2, _), (1, _), (0, _)]) dd_Y_attributeBytes_38 2 rfl rfl (by decide) rfl rfl ?_
        refine fx_goto (n := 4) dd_Y_attributeBytes_41 rfl ?_
        refine fx_sub (L' := [(0, _), (1, _), (2, _)]) [2, 1, 0] rfl ?_
        exact h
      · replace h := h.2 hc
        refine fx_iconst (n := 32) (v := 2) dd_Y_attributeBytes_31 (by decide) rfl ?_
        refine fx_goto (n := 36) dd_Y_attributeBytes_32 rfl ?_
        refine fx_iadd (n := 37) dd_Y_attributeBytes_36 rfl ?_
        refine fx_istore_n (n := 38) (L' := [(1, _), (0, _), (2, _)]) dd_Y_attributeBytes_37 rfl (by decide) rfl rfl ?_
        refine fx_iinc (n := 41) (L' := [(2, _), (1, _), (0, _)]) dd_Y_attributeBytes_38 2 rfl rfl (by decide) rfl rfl ?_
        refine fx_goto (n := 4) dd_Y_attributeBytes_41 rfl ?_
        refine fx_sub (L' := [(0, _), (1, _), (2, _)]) [2, 1, 0] rfl ?_
        exact h
theorem bk_Y_encode_0 {G : fx_G} {S : fx_S} {Q : fx_R → fx_S → Prop} (v0 : Nat) (v1 : Nat) (v2 : Int32) (h : fx_Go G (1, 13) mm_Y_encode 12 [(0, fx_r G v0), (1, fx_r G v1), (3, .int v2), (4, .int v2), (5, .int 48), (6, .int 0)] [] S Q) :
    fx_Go G (1, 13) mm_Y_encode 0 [(0, fx_r G v0), (1, fx_r G v1), (2, .int v2)] [] S Q := by
  refine fx_iload_n (n := 1) dd_Y_encode_0 rfl 2 rfl rfl ?_
  refine fx_istore_n (n := 2) (L' := [(3, _), (0, _), (1, _), (2, _)]) dd_Y_encode_1 rfl (by decide) rfl rfl ?_
  refine fx_iload_n (n := 3) dd_Y_encode_2 rfl 3 rfl rfl ?_
  refine fx_istore (n := 5) (L' := [(4, _), (3, _), (0, _), (1, _), (2, _)]) dd_Y_encode_3 (by decide) rfl rfl ?_
  refine fx_bipush (n := 7) (v := 48) dd_Y_encode_5 (by decide) rfl ?_
  refine fx_istore (n := 9) (L' := [(5, _), (4, _), (3, _), (0, _), (1, _), (2, _)]) dd_Y_encode_7 (by decide) rfl rfl ?_
  refine fx_iconst (n := 10) (v := 0) dd_Y_encode_9 (by decide) rfl ?_
  refine fx_istore (n := 12) (L' := [(6, _), (5, _), (4, _), (3, _), (0, _), (1, _), (2, _)]) dd_Y_encode_10 (by decide) rfl rfl ?_
  refine fx_sub (L' := [(0, _), (1, _), (3, _), (4, _), (5, _), (6, _)]) [4, 5, 3, 2, 1, 0] rfl ?_
  exact h
theorem bk_Y_encode_12 {G : fx_G} {S : fx_S} {Q : fx_R → fx_S → Prop} (v0 : Nat) (v1 : Nat) (v3 : Int32) (v4 : Int32) (v5 : Int32) (v6 : Int32) (h : fx_is S v0 1 ∧ ((fx_I S v0 1) ≤ v6 → Q (.inl (some (.int v3))) S) ∧ (¬ (fx_I S v0 1) ≤ v6 → fx_Go G (0, 0) mm_Y_startsRun 0 [(0, fx_r G v0), (1, .int v6)] [] S (fx_qi (fun x3 S2 => (x3 = 0 → fx_Go G (1, 13) mm_Y_encode 92 [(0, fx_r G v0), (1, fx_r G v1), (3, .int v3), (4, .int v4), (5, .int v5), (6, .int v6)] [] S2 Q) ∧ (¬ x3 = 0 → fx_is S2 v0 1 ∧ ∃ r5, fx_P S2 v0 0 = some r5 ∧ fx_is S2 r5 100 ∧ vp_in v6 (fx_ln S2 r5) ∧ (¬ (fx_I S2 r5 (v6.toNatClampNeg)) = (-1) → fx_is S2 v1 100 ∧ vp_in v3 (fx_ln S2 v1) ∧ ∀ S10, S10 = fx_setI S2 v1 (v3.toNatClampNeg) 17 → ∃ r11, fx_P S10 v0 0 = some r11 ∧ fx_is S10 r11 100 ∧ vp_in v6 (fx_ln S10 r11) ∧ vp_in (v3 + 2) (fx_ln S10 v1) ∧ ∀ S15, S15 = fx_setI S10 v1 ((v3 + 2).toNatClampNeg) (((fx_I S10 r11 (v6.toNatClampNeg)) - v5) &&& 255) → ∃ r16, fx_P S15 v0 0 = some r16 ∧ fx_is S15 r16 100 ∧ vp_in v6 (fx_ln S15 r16) ∧ fx_Go G (1, 13) mm_Y_encode 92 [(0, fx_r G v0), (1, fx_r G v1), (3, .int (v3 + Int32.ofInt 3)), (4, .int (v3 + 1)), (5, .int (fx_I S15 r16 (v6.toNatClampNeg))), (6, .int v6)] [] S15 Q) ∧ ((fx_I S2 r5 (v6.toNatClampNeg)) = (-1) → fx_is S2 v1 100 ∧ vp_in v3 (fx_ln S2 v1) ∧ ∀ S21, S21 = fx_setI S2 v1 (v3.toNatClampNeg) 1 → fx_Go G (1, 13) mm_Y_encode 92 [(0, fx_r G v0), (1, fx_r G v1), (3, .int (v3 + Int32.ofInt 2)), (4, .int (v3 + 1)), (5, .int v5), (6, .int v6)] [] S21 Q))) Q))) :
    fx_Go G (1, 13) mm_Y_encode 12 [(0, fx_r G v0), (1, fx_r G v1), (3, .int v3), (4, .int v4), (5, .int v5), (6, .int v6)] [] S Q := by
  refine fx_iload (n := 14) dd_Y_encode_12 5 rfl rfl ?_
  refine fx_aload_n (n := 15) dd_Y_encode_14 rfl 0 rfl rfl ?_
  obtain ⟨q1, h⟩ := h
  refine fx_getI (n := 18) dd_Y_encode_15 fw_Y_15 (by decide) rfl rfl q1.1 q1.2 ?_
  refine fx_icmp_ge (n := 21) (tg := 106) dd_Y_encode_18 rfl rfl (fun hc => ?_) (fun hc => ?_)
  · replace h := h.1 hc
    refine fx_iload_n (n := 107) dd_Y_encode_106 rfl 2 rfl rfl ?_
    exact fx_iret dd_Y_encode_107 rfl h
  · replace h := h.2 hc
    refine fx_aload_n (n := 22) dd_Y_encode_21 rfl 0 rfl rfl ?_
    refine fx_iload (n := 24) dd_Y_encode_22 5 rfl rfl ?_
    refine fx_callV (n := 27) (vs := [_]) dd_Y_encode_24 mw_Y_startsRun ⟨wd_154, wd_155, wd_156⟩ rfl (by decide) q1.1 q1.2 rfl rfl ⟨Nat.le_of_ble_eq_true rfl, Nat.le_of_ble_eq_true rfl, Nat.le_of_ble_eq_true rfl, fx_nx, rfl⟩ rfl h (fx_qi_k fun x3 S2 h => ?_) (fun _ _ h => h)
    refine fx_if_eq (n := 30) (tg := 92) dd_Y_encode_27 rfl rfl (fun hc => ?_) (fun hc => ?_)
    · replace h := h.1 hc
      exact h
    · replace h := h.2 hc
      refine fx_iload_n (n := 31) dd_Y_encode_30 rfl 2 rfl rfl ?_
      refine fx_iconst (n := 32) (v := 1) dd_Y_encode_31 (by decide) rfl ?_
      refine fx_iadd (n := 33) dd_Y_encode_32 rfl ?_
      refine fx_istore (n := 35) (L' := [(4, _), (0, _), (1, _), (3, _), (5, _), (6, _)]) dd_Y_encode_33 (by decide) rfl rfl ?_
      refine fx_aload_n (n := 36) dd_Y_encode_35 rfl 1 rfl rfl ?_
      obtain ⟨q4, h⟩ := h
      obtain ⟨r5, hr5, h⟩ := h
      refine fx_getP (n := 39) dd_Y_encode_36 fw_Y_9 (by decide) rfl rfl q4.1 q4.2 hr5 ?_
      refine fx_iload (n := 41) dd_Y_encode_39 5 rfl rfl ?_
      obtain ⟨q6, h⟩ := h
      obtain ⟨q7, h⟩ := h
      refine fx_iald (n := 42) dd_Y_encode_41 rfl q6.1 q6.2 q7 ?_
      refine fx_iconst (n := 43) (v := (-1)) dd_Y_encode_42 (by decide) rfl ?_
      refine fx_icmp_ne (n := 46) (tg := 56) dd_Y_encode_43 rfl rfl (fun hc => ?_) (fun hc => ?_)
      · replace h := h.1 hc
        refine fx_aload_n (n := 57) dd_Y_encode_56 rfl 2 rfl rfl ?_
        refine fx_iload_n (n := 58) dd_Y_encode_57 rfl 3 rfl rfl ?_
        refine fx_bipush (n := 60) (v := 17) dd_Y_encode_58 (by decide) rfl ?_
        obtain ⟨q8, h⟩ := h
        obtain ⟨q9, h⟩ := h
        replace h := h _ rfl
        refine fx_iast (n := 61) dd_Y_encode_60 rfl q8.1 q8.2 q9 ?_
        refine fx_aload_n (n := 62) dd_Y_encode_61 rfl 2 rfl rfl ?_
        refine fx_iload_n (n := 63) dd_Y_encode_62 rfl 3 rfl rfl ?_
        refine fx_iconst (n := 64) (v := 2) dd_Y_encode_63 (by decide) rfl ?_
        refine fx_iadd (n := 65) dd_Y_encode_64 rfl ?_
        refine fx_aload_n (n := 66) dd_Y_encode_65 rfl 1 rfl rfl ?_
        obtain ⟨r11, hr11, h⟩ := h
        refine fx_getP (n := 69) dd_Y_encode_66 fw_Y_9 (by decide) rfl rfl q4.1 q4.2 hr11 ?_
        refine fx_iload (n := 71) dd_Y_encode_69 5 rfl rfl ?_
        obtain ⟨q12, h⟩ := h
        obtain ⟨q13, h⟩ := h
        refine fx_iald (n := 72) dd_Y_encode_71 rfl q12.1 q12.2 q13 ?_
        refine fx_iload (n := 74) dd_Y_encode_72 4 rfl rfl ?_
        refine fx_isub (n := 75) dd_Y_encode_74 rfl ?_
        refine fx_sipush (n := 78) (v := 255) dd_Y_encode_75 (by decide) rfl ?_
        refine fx_iand (n := 79) dd_Y_encode_78 rfl ?_
        obtain ⟨q14, h⟩ := h
        replace h := h _ rfl
        refine fx_iast (n := 80) dd_Y_encode_79 rfl q8.1 q8.2 q14 ?_
        refine fx_aload_n (n := 81) dd_Y_encode_80 rfl 1 rfl rfl ?_
        obtain ⟨r16, hr16, h⟩ := h
        refine fx_getP (n := 84) dd_Y_encode_81 fw_Y_9 (by decide) rfl rfl q4.1 q4.2 hr16 ?_
        refine fx_iload (n := 86) dd_Y_encode_84 5 rfl rfl ?_
        obtain ⟨q17, h⟩ := h
        obtain ⟨q18, h⟩ := h
        refine fx_iald (n := 87) dd_Y_encode_86 rfl q17.1 q17.2 q18 ?_
        refine fx_istore (n := 89) (L' := [(5, _), (4, _), (0, _), (1, _), (3, _), (6, _)]) dd_Y_encode_87 (by decide) rfl rfl ?_
        refine fx_iinc (n := 92) (L' := [(3, _), (5, _), (4, _), (0, _), (1, _), (6, _)]) dd_Y_encode_89 4 rfl rfl (by decide) rfl rfl ?_
        refine fx_sub (L' := [(0, _), (1, _), (3, _), (4, _), (5, _), (6, _)]) [3, 4, 0, 2, 1, 5] rfl ?_
        exact h
      · replace h := h.2 hc
        refine fx_aload_n (n := 47) dd_Y_encode_46 rfl 2 rfl rfl ?_
        refine fx_iload_n (n := 48) dd_Y_encode_47 rfl 3 rfl rfl ?_
        refine fx_iconst (n := 49) (v := 1) dd_Y_encode_48 (by decide) rfl ?_
        obtain ⟨q19, h⟩ := h
        obtain ⟨q20, h⟩ := h
        replace h := h _ rfl
        refine fx_iast (n := 50) dd_Y_encode_49 rfl q19.1 q19.2 q20 ?_
        refine fx_iinc (n := 53) (L' := [(3, _), (4, _), (0, _), (1, _), (5, _), (6, _)]) dd_Y_encode_50 3 rfl rfl (by decide) rfl rfl ?_
        refine fx_goto (n := 92) dd_Y_encode_53 rfl ?_
        refine fx_sub (L' := [(0, _), (1, _), (3, _), (4, _), (5, _), (6, _)]) [2, 3, 0, 1, 4, 5] rfl ?_
        exact h
theorem bk_Y_encode_92 {G : fx_G} {S : fx_S} {Q : fx_R → fx_S → Prop} (v0 : Nat) (v1 : Nat) (v3 : Int32) (v4 : Int32) (v5 : Int32) (v6 : Int32) (h : fx_is S v1 100 ∧ vp_in v4 (fx_ln S v1) ∧ vp_in v4 (fx_ln S v1) ∧ ∀ S4, S4 = fx_setI S v1 (v4.toNatClampNeg) ((fx_I S v1 (v4.toNatClampNeg)) + 1) → fx_Go G (1, 13) mm_Y_encode 12 [(0, fx_r G v0), (1, fx_r G v1), (3, .int v3), (4, .int v4), (5, .int v5), (6, .int (v6 + Int32.ofInt 1))] [] S4 Q) :
    fx_Go G (1, 13) mm_Y_encode 92 [(0, fx_r G v0), (1, fx_r G v1), (3, .int v3), (4, .int v4), (5, .int v5), (6, .int v6)] [] S Q := by
  refine fx_aload_n (n := 93) dd_Y_encode_92 rfl 1 rfl rfl ?_
  refine fx_iload (n := 95) dd_Y_encode_93 3 rfl rfl ?_
  refine fx_dup2 (n := 96) dd_Y_encode_95 rfl rfl rfl ?_
  obtain ⟨q1, h⟩ := h
  obtain ⟨q2, h⟩ := h
  refine fx_iald (n := 97) dd_Y_encode_96 rfl q1.1 q1.2 q2 ?_
  refine fx_iconst (n := 98) (v := 1) dd_Y_encode_97 (by decide) rfl ?_
  refine fx_iadd (n := 99) dd_Y_encode_98 rfl ?_
  obtain ⟨q3, h⟩ := h
  replace h := h _ rfl
  refine fx_iast (n := 100) dd_Y_encode_99 rfl q1.1 q1.2 q3 ?_
  refine fx_iinc (n := 103) (L' := [(6, _), (0, _), (1, _), (3, _), (4, _), (5, _)]) dd_Y_encode_100 5 rfl rfl (by decide) rfl rfl ?_
  refine fx_goto (n := 12) dd_Y_encode_103 rfl ?_
  refine fx_sub (L' := [(0, _), (1, _), (3, _), (4, _), (5, _), (6, _)]) [1, 2, 3, 4, 5, 0] rfl ?_
  exact h
theorem bk_Y_decode_0 {G : fx_G} {S : fx_S} {Q : fx_R → fx_S → Prop} (v0 : Nat) (v1 : Nat) (v2 : Int32) (v3 : Int32) (h : fx_is S v0 1 ∧ ∀ S2, S2 = fx_setI S v0 1 0 → fx_Go G (1, 15) mm_Y_decode 12 [(0, fx_r G v0), (1, fx_r G v1), (3, .int v3), (4, .int v2), (5, .int 48)] [] S2 Q) :
    fx_Go G (1, 15) mm_Y_decode 0 [(0, fx_r G v0), (1, fx_r G v1), (2, .int v2), (3, .int v3)] [] S Q := by
  refine fx_iload_n (n := 1) dd_Y_decode_0 rfl 2 rfl rfl ?_
  refine fx_istore (n := 3) (L' := [(4, _), (0, _), (1, _), (2, _), (3, _)]) dd_Y_decode_1 (by decide) rfl rfl ?_
  refine fx_bipush (n := 5) (v := 48) dd_Y_decode_3 (by decide) rfl ?_
  refine fx_istore (n := 7) (L' := [(5, _), (4, _), (0, _), (1, _), (2, _), (3, _)]) dd_Y_decode_5 (by decide) rfl rfl ?_
  refine fx_aload_n (n := 8) dd_Y_decode_7 rfl 2 rfl rfl ?_
  refine fx_iconst (n := 9) (v := 0) dd_Y_decode_8 (by decide) rfl ?_
  obtain ⟨q1, h⟩ := h
  replace h := h _ rfl
  refine fx_putI (n := 12) dd_Y_decode_9 fw_Y_15 (by decide) rfl rfl rfl rfl q1.1 q1.2 ?_
  refine fx_sub (L' := [(0, _), (1, _), (3, _), (4, _), (5, _)]) [2, 3, 5, 1, 0] rfl ?_
  exact h
theorem bk_Y_decode_12 {G : fx_G} {S : fx_S} {Q : fx_R → fx_S → Prop} (v0 : Nat) (v1 : Nat) (v3 : Int32) (v4 : Int32) (v5 : Int32) (h : (v3 ≤ (v4 + 2) → Q (.inl none) S) ∧ (¬ v3 ≤ (v4 + 2) → fx_is S v1 100 ∧ vp_in v4 (fx_ln S v1) ∧ ((fx_I S v1 (v4.toNatClampNeg)) = 0 → Q (.inl none) S) ∧ (¬ (fx_I S v1 (v4.toNatClampNeg)) = 0 → vp_in v4 (fx_ln S v1) ∧ (¬ (fx_I S v1 (v4.toNatClampNeg)) = 17 → vp_in (v4 + 1) (fx_ln S v1) ∧ fx_is S v0 1 ∧ fx_Go G (0, 0) mm_Y_append 0 [(0, fx_r G v0), (1, .int (-1)), (2, .int (fx_I S v1 ((v4 + 1).toNatClampNeg)))] [] S (fx_qv (fun S5 => fx_Go G (1, 15) mm_Y_decode 12 [(0, fx_r G v0), (1, fx_r G v1), (3, .int v3), (4, .int (v4 + Int32.ofInt 2)), (5, .int v5)] [] S5 Q) Q)) ∧ ((fx_I S v1 (v4.toNatClampNeg)) = 17 → vp_in (v4 + 2) (fx_ln S v1) ∧ vp_in (v4 + 1) (fx_ln S v1) ∧ fx_is S v0 1 ∧ fx_Go G (0, 0) mm_Y_append 0 [(0, fx_r G v0), (1, .int ((v5 + (fx_I S v1 ((v4 + 2).toNatClampNeg))) &&& 255)), (2, .int (fx_I S v1 ((v4 + 1).toNatClampNeg)))] [] S (fx_qv (fun S9 => fx_Go G (1, 15) mm_Y_decode 12 [(0, fx_r G v0), (1, fx_r G v1), (3, .int v3), (4, .int (v4 + Int32.ofInt 3)), (5, .int ((v5 + (fx_I S v1 ((v4 + 2).toNatClampNeg))) &&& 255))] [] S9 Q) Q))))) :
    fx_Go G (1, 15) mm_Y_decode 12 [(0, fx_r G v0), (1, fx_r G v1), (3, .int v3), (4, .int v4), (5, .int v5)] [] S Q := by
  refine fx_iload (n := 14) dd_Y_decode_12 3 rfl rfl ?_
  refine fx_iconst (n := 15) (v := 2) dd_Y_decode_14 (by decide) rfl ?_
  refine fx_iadd (n := 16) dd_Y_decode_15 rfl ?_
  refine fx_iload_n (n := 17) dd_Y_decode_16 rfl 2 rfl rfl ?_
  refine fx_icmp_ge (n := 20) (tg := 86) dd_Y_decode_17 rfl rfl (fun hc => ?_) (fun hc => ?_)
  · replace h := h.1 hc
    exact fx_vret dd_Y_decode_86 rfl h
  · replace h := h.2 hc
    refine fx_aload_n (n := 21) dd_Y_decode_20 rfl 1 rfl rfl ?_
    refine fx_iload (n := 23) dd_Y_decode_21 3 rfl rfl ?_
    obtain ⟨q1, h⟩ := h
    obtain ⟨q2, h⟩ := h
    refine fx_iald (n := 24) dd_Y_decode_23 rfl q1.1 q1.2 q2 ?_
    refine fx_if_eq (n := 27) (tg := 86) dd_Y_decode_24 rfl rfl (fun hc => ?_) (fun hc => ?_)
    · replace h := h.1 hc
      exact fx_vret dd_Y_decode_86 rfl h
    · replace h := h.2 hc
      refine fx_aload_n (n := 28) dd_Y_decode_27 rfl 1 rfl rfl ?_
      refine fx_iload (n := 30) dd_Y_decode_28 3 rfl rfl ?_
      obtain ⟨q3, h⟩ := h
      refine fx_iald (n := 31) dd_Y_decode_30 rfl q1.1 q1.2 q3 ?_
      refine fx_bipush (n := 33) (v := 17) dd_Y_decode_31 (by decide) rfl ?_
      refine fx_icmp_ne (n := 36) (tg := 69) dd_Y_decode_33 rfl rfl (fun hc => ?_) (fun hc => ?_)
      · replace h := h.1 hc
        refine fx_aload_n (n := 70) dd_Y_decode_69 rfl 0 rfl rfl ?_
        refine fx_iconst (n := 71) (v := (-1)) dd_Y_decode_70 (by decide) rfl ?_
        refine fx_aload_n (n := 72) dd_Y_decode_71 rfl 1 rfl rfl ?_
        refine fx_iload (n := 74) dd_Y_decode_72 3 rfl rfl ?_
        refine fx_iconst (n := 75) (v := 1) dd_Y_decode_74 (by decide) rfl ?_
        refine fx_iadd (n := 76) dd_Y_decode_75 rfl ?_
        obtain ⟨q4, h⟩ := h
        refine fx_iald (n := 77) dd_Y_decode_76 rfl q1.1 q1.2 q4 ?_
        obtain ⟨q6, h⟩ := h
        refine fx_callV (n := 80) (vs := [_, _]) dd_Y_decode_77 mw_Y_append ⟨wd_584, wd_483, wd_484⟩ rfl (by decide) q6.1 q6.2 rfl rfl ⟨Nat.le_of_ble_eq_true rfl, Nat.le_of_ble_eq_true rfl, Nat.le_of_ble_eq_true rfl, fx_nx, rfl⟩ rfl h (fx_qv_k fun S5 h => ?_) (fun _ _ h => h)
        refine fx_iinc (n := 83) (L' := [(4, _), (0, _), (1, _), (3, _), (5, _)]) dd_Y_decode_80 3 rfl rfl (by decide) rfl rfl ?_
        refine fx_goto (n := 12) dd_Y_decode_83 rfl ?_
        refine fx_sub (L' := [(0, _), (1, _), (3, _), (4, _), (5, _)]) [1, 2, 3, 0, 4] rfl ?_
        exact h
      · replace h := h.2 hc
        refine fx_iload (n := 38) dd_Y_decode_36 4 rfl rfl ?_
        refine fx_aload_n (n := 39) dd_Y_decode_38 rfl 1 rfl rfl ?_
        refine fx_iload (n := 41) dd_Y_decode_39 3 rfl rfl ?_
        refine fx_iconst (n := 42) (v := 2) dd_Y_decode_41 (by decide) rfl ?_
        refine fx_iadd (n := 43) dd_Y_decode_42 rfl ?_
        obtain ⟨q7, h⟩ := h
        refine fx_iald (n := 44) dd_Y_decode_43 rfl q1.1 q1.2 q7 ?_
        refine fx_iadd (n := 45) dd_Y_decode_44 rfl ?_
        refine fx_sipush (n := 48) (v := 255) dd_Y_decode_45 (by decide) rfl ?_
        refine fx_iand (n := 49) dd_Y_decode_48 rfl ?_
        refine fx_istore (n := 51) (L' := [(5, _), (0, _), (1, _), (3, _), (4, _)]) dd_Y_decode_49 (by decide) rfl rfl ?_
        refine fx_aload_n (n := 52) dd_Y_decode_51 rfl 1 rfl rfl ?_
        refine fx_iload (n := 54) dd_Y_decode_52 0 rfl rfl ?_
        refine fx_aload_n (n := 55) dd_Y_decode_54 rfl 2 rfl rfl ?_
        refine fx_iload (n := 57) dd_Y_decode_55 4 rfl rfl ?_
        refine fx_iconst (n := 58) (v := 1) dd_Y_decode_57 (by decide) rfl ?_
        refine fx_iadd (n := 59) dd_Y_decode_58 rfl ?_
        obtain ⟨q8, h⟩ := h
        refine fx_iald (n := 60) dd_Y_decode_59 rfl q1.1 q1.2 q8 ?_
        obtain ⟨q10, h⟩ := h
        refine fx_callV (n := 63) (vs := [_, _]) dd_Y_decode_60 mw_Y_append ⟨wd_584, wd_483, wd_484⟩ rfl (by decide) q10.1 q10.2 rfl rfl ⟨Nat.le_of_ble_eq_true rfl, Nat.le_of_ble_eq_true rfl, Nat.le_of_ble_eq_true rfl, fx_nx, rfl⟩ rfl h (fx_qv_k fun S9 h => ?_) (fun _ _ h => h)
        refine fx_iinc (n := 66) (L' := [(4, _), (5, _), (0, _), (1, _), (3, _)]) dd_Y_decode_63 4 rfl rfl (by decide) rfl rfl ?_
        refine fx_goto (n := 12) dd_Y_decode_66 rfl ?_
        refine fx_sub (L' := [(0, _), (1, _), (3, _), (4, _), (5, _)]) [2, 3, 4, 0, 1] rfl ?_
        exact h
