theorem bk_H_init_0 {G : fx_G} {S : fx_S} {Q : fx_R → fx_S → Prop} (v0 : Nat) (h : fx_room S 2 ∧ ∀ S1, S1 = fx_new S 2 0 2 → fx_Go G (1, 12) mm_N_init 0 [(0, fx_r G (fx_m S))] [] S1 (fx_qv (fun S3 => fx_is S3 v0 3 ∧ ∀ S5, S5 = fx_setP S3 v0 5 (some (fx_m S)) → fx_room S5 54 ∧ ∀ S6, S6 = fx_new S5 100 54 54 → fx_is S6 v0 3 ∧ ∀ S9, S9 = fx_setP S6 v0 6 (some (fx_m S5)) → fx_room S9 2 ∧ ∀ S10, S10 = fx_new S9 1 0 2 → fx_Go G (1, 12) mm_Y_init 0 [(0, fx_r G (fx_m S9))] [] S10 (fx_qv (fun S12 => fx_is S12 v0 3 ∧ ∀ S14, S14 = fx_setP S12 v0 7 (some (fx_m S9)) → Q (.inl none) S14) Q)) Q)) :
    fx_Go G (2, 26) mm_H_init 0 [(0, fx_r G v0)] [] S Q := by
  refine fx_aload_n (n := 1) dd_H_init_0 rfl 0 rfl rfl ?_
  refine fx_objInit (n := 4) dd_H_init_1 ⟨wd_46, wd_22, wd_23⟩ rfl ⟨by decide, Nat.le_of_ble_eq_true rfl⟩ ?_
  refine fx_aload_n (n := 5) dd_H_init_4 rfl 0 rfl rfl ?_
  obtain ⟨q2, h⟩ := h
  replace h := h _ rfl
  refine fx_newc (n := 8) dd_H_init_5 cw_2 (by decide) ⟨wd_47, wd_48, wd_4⟩ rfl q2.1 q2.2.1 q2.2.2 ?_
  refine fx_dup (n := 9) dd_H_init_8 rfl rfl ?_
  refine fx_callIN (n := 12) (vs := []) dd_H_init_9 mw_N_init ⟨rfl, rfl, rfl⟩ ⟨wd_49, wd_50, wd_51⟩ rfl rfl ⟨Nat.le_of_ble_eq_true rfl, Nat.le_of_ble_eq_true rfl, Nat.le_of_ble_eq_true rfl, fx_nx, rfl⟩ rfl h (fx_qv_k fun S3 h => ?_) (fun _ _ h => h)
  obtain ⟨q4, h⟩ := h
  replace h := h _ rfl
  refine fx_putP (n := 15) dd_H_init_12 fw_H_12 (by decide) rfl rfl rfl (fun _ => rfl) (fun _ => rfl) rfl q4.1 q4.2 ?_
  refine fx_aload_n (n := 16) dd_H_init_15 rfl 0 rfl rfl ?_
  refine fx_bipush (n := 18) (v := 54) dd_H_init_16 (by decide) rfl ?_
  obtain ⟨q7, h⟩ := h
  replace h := h _ rfl
  refine fx_newa (n := 20) (t := 0) (N := 54) dd_H_init_18 wd_39 (Or.inl ⟨rfl, rfl⟩) rfl (by decide) (by decide) q7.1 q7.2.1 q7.2.2 ?_
  obtain ⟨q8, h⟩ := h
  replace h := h _ rfl
  refine fx_putP (n := 23) dd_H_init_20 fw_H_18 (by decide) rfl rfl rfl (fun _ => rfl) (fun _ => rfl) rfl q8.1 q8.2 ?_
  refine fx_aload_n (n := 24) dd_H_init_23 rfl 0 rfl rfl ?_
  obtain ⟨q11, h⟩ := h
  replace h := h _ rfl
  refine fx_newc (n := 27) dd_H_init_24 cw_1 (by decide) ⟨wd_63, wd_64, wd_5⟩ rfl q11.1 q11.2.1 q11.2.2 ?_
  refine fx_dup (n := 28) dd_H_init_27 rfl rfl ?_
  refine fx_callIN (n := 31) (vs := []) dd_H_init_28 mw_Y_init ⟨rfl, rfl, rfl⟩ ⟨wd_65, wd_66, wd_67⟩ rfl rfl ⟨Nat.le_of_ble_eq_true rfl, Nat.le_of_ble_eq_true rfl, Nat.le_of_ble_eq_true rfl, fx_nx, rfl⟩ rfl h (fx_qv_k fun S12 h => ?_) (fun _ _ h => h)
  obtain ⟨q13, h⟩ := h
  replace h := h _ rfl
  refine fx_putP (n := 34) dd_H_init_31 fw_H_25 (by decide) rfl rfl rfl (fun _ => rfl) (fun _ => rfl) rfl q13.1 q13.2 ?_
  exact fx_vret dd_H_init_34 rfl h
theorem bk_H_become_0 {G : fx_G} {S : fx_S} {Q : fx_R → fx_S → Prop} (v0 : Nat) (v1 : Int32) (v2 : Int32) (h : fx_is S v0 3 ∧ ∀ S2, S2 = fx_setI S v0 0 v1 → ∀ S3, S3 = fx_setI S2 v0 1 v2 → (¬ v1 = 1 → (¬ v1 = 2 → fx_Go G (1, 12) mm_H_become 30 [(0, fx_r G v0)] [.int 0, fx_r G v0] S3 Q) ∧ (v1 = 2 → fx_Go G (1, 12) mm_H_become 30 [(0, fx_r G v0)] [.int 4, fx_r G v0] S3 Q)) ∧ (v1 = 1 → fx_Go G (1, 12) mm_H_become 30 [(0, fx_r G v0)] [.int 2, fx_r G v0] S3 Q)) :
    fx_Go G (1, 12) mm_H_become 0 [(0, fx_r G v0), (1, .int v1), (2, .int v2)] [] S Q := by
  refine fx_aload_n (n := 1) dd_H_become_0 rfl 0 rfl rfl ?_
  refine fx_iload_n (n := 2) dd_H_become_1 rfl 1 rfl rfl ?_
  obtain ⟨q1, h⟩ := h
  replace h := h _ rfl
  refine fx_putI (n := 5) dd_H_become_2 fw_H_29 (by decide) rfl rfl rfl rfl q1.1 q1.2 ?_
  refine fx_aload_n (n := 6) dd_H_become_5 rfl 0 rfl rfl ?_
  refine fx_iload_n (n := 7) dd_H_become_6 rfl 2 rfl rfl ?_
  replace h := h _ rfl
  refine fx_putI (n := 10) dd_H_become_7 fw_H_33 (by decide) rfl rfl rfl rfl q1.1 q1.2 ?_
  refine fx_aload_n (n := 11) dd_H_become_10 rfl 0 rfl rfl ?_
  refine fx_iload_n (n := 12) dd_H_become_11 rfl 1 rfl rfl ?_
  refine fx_iconst (n := 13) (v := 1) dd_H_become_12 (by decide) rfl ?_
  refine fx_icmp_ne (n := 16) (tg := 20) dd_H_become_13 rfl rfl (fun hc => ?_) (fun hc => ?_)
  · replace h := h.1 hc
    refine fx_iload_n (n := 21) dd_H_become_20 rfl 1 rfl rfl ?_
    refine fx_iconst (n := 22) (v := 2) dd_H_become_21 (by decide) rfl ?_
    refine fx_icmp_ne (n := 25) (tg := 29) dd_H_become_22 rfl rfl (fun hc => ?_) (fun hc => ?_)
    · replace h := h.1 hc
      refine fx_iconst (n := 30) (v := 0) dd_H_become_29 (by decide) rfl ?_
      refine fx_sub (L' := [(0, _)]) [0] rfl ?_
      exact h
    · replace h := h.2 hc
      refine fx_iconst (n := 26) (v := 4) dd_H_become_25 (by decide) rfl ?_
      refine fx_goto (n := 30) dd_H_become_26 rfl ?_
      refine fx_sub (L' := [(0, _)]) [0] rfl ?_
      exact h
  · replace h := h.2 hc
    refine fx_iconst (n := 17) (v := 2) dd_H_become_16 (by decide) rfl ?_
    refine fx_goto (n := 30) dd_H_become_17 rfl ?_
    refine fx_sub (L' := [(0, _)]) [0] rfl ?_
    exact h
theorem bk_H_become_30 {G : fx_G} {S : fx_S} {Q : fx_R → fx_S → Prop} (v0 : Nat) (z0 : Int32) (z1 : Nat) (h : fx_is S z1 3 ∧ ∀ S2, S2 = fx_setI S z1 3 z0 → fx_is S2 v0 3 ∧ ∀ S4, S4 = fx_setI S2 v0 4 0 → ∃ r5, fx_P S4 v0 5 = some r5 ∧ fx_is S4 r5 2 ∧ fx_Go G (0, 0) mm_N_clear 0 [(0, fx_r G r5)] [] S4 (fx_qv (fun S6 => fx_is S6 v0 3 ∧ ∃ r9, fx_P S6 v0 7 = some r9 ∧ fx_is S6 r9 1 ∧ ∀ S11, S11 = fx_setI S6 r9 1 0 → Q (.inl none) S11) Q)) :
    fx_Go G (1, 12) mm_H_become 30 [(0, fx_r G v0)] [.int z0, fx_r G z1] S Q := by
  obtain ⟨q1, h⟩ := h
  replace h := h _ rfl
  refine fx_putI (n := 33) dd_H_become_30 fw_H_36 (by decide) rfl rfl rfl rfl q1.1 q1.2 ?_
  refine fx_aload_n (n := 34) dd_H_become_33 rfl 0 rfl rfl ?_
  refine fx_iconst (n := 35) (v := 0) dd_H_become_34 (by decide) rfl ?_
  obtain ⟨q3, h⟩ := h
  replace h := h _ rfl
  refine fx_putI (n := 38) dd_H_become_35 fw_H_39 (by decide) rfl rfl rfl rfl q3.1 q3.2 ?_
  refine fx_aload_n (n := 39) dd_H_become_38 rfl 0 rfl rfl ?_
  obtain ⟨r5, hr5, h⟩ := h
  refine fx_getP (n := 42) dd_H_become_39 fw_H_12 (by decide) rfl rfl q3.1 q3.2 hr5 ?_
  obtain ⟨q7, h⟩ := h
  refine fx_callV (n := 45) (vs := []) dd_H_become_42 mw_N_clear ⟨wd_120, wd_121, wd_122⟩ rfl (by decide) q7.1 q7.2 rfl rfl ⟨Nat.le_of_ble_eq_true rfl, Nat.le_of_ble_eq_true rfl, Nat.le_of_ble_eq_true rfl, fx_nx, rfl⟩ rfl h (fx_qv_k fun S6 h => ?_) (fun _ _ h => h)
  refine fx_aload_n (n := 46) dd_H_become_45 rfl 0 rfl rfl ?_
  obtain ⟨q8, h⟩ := h
  obtain ⟨r9, hr9, h⟩ := h
  refine fx_getP (n := 49) dd_H_become_46 fw_H_25 (by decide) rfl rfl q8.1 q8.2 hr9 ?_
  refine fx_iconst (n := 50) (v := 0) dd_H_become_49 (by decide) rfl ?_
  obtain ⟨q10, h⟩ := h
  replace h := h _ rfl
  refine fx_putI (n := 53) dd_H_become_50 fw_H_45 (by decide) rfl rfl rfl rfl q10.1 q10.2 ?_
  exact fx_vret dd_H_become_53 rfl h
theorem bk_H_takeNextNumber_0 {G : fx_G} {S : fx_S} {Q : fx_R → fx_S → Prop} (v0 : Nat) (h : fx_is S v0 3 ∧ ((fx_I S v0 2) < 65535 → ∀ S2, S2 = fx_setI S v0 2 ((fx_I S v0 2) + 1) → Q (.inl none) S2) ∧ (¬ (fx_I S v0 2) < 65535 → ∀ S3, S3 = fx_setI S v0 2 1 → Q (.inl none) S3)) :
    fx_Go G (0, 0) mm_H_takeNextNumber 0 [(0, fx_r G v0)] [] S Q := by
  refine fx_aload_n (n := 1) dd_H_takeNextNumber_0 rfl 0 rfl rfl ?_
  refine fx_aload_n (n := 2) dd_H_takeNextNumber_1 rfl 0 rfl rfl ?_
  obtain ⟨q1, h⟩ := h
  refine fx_getI (n := 5) dd_H_takeNextNumber_2 fw_H_48 (by decide) rfl rfl q1.1 q1.2 ?_
  refine fx_ldc (n := 7) dd_H_takeNextNumber_5 wd_128 rfl ?_
  refine fx_icmp_lt (n := 10) (tg := 14) dd_H_takeNextNumber_7 rfl rfl (fun hc => ?_) (fun hc => ?_)
  · replace h := h.1 hc
    refine fx_aload_n (n := 15) dd_H_takeNextNumber_14 rfl 0 rfl rfl ?_
    refine fx_getI (n := 18) dd_H_takeNextNumber_15 fw_H_48 (by decide) rfl rfl q1.1 q1.2 ?_
    refine fx_iconst (n := 19) (v := 1) dd_H_takeNextNumber_18 (by decide) rfl ?_
    refine fx_iadd (n := 20) dd_H_takeNextNumber_19 rfl ?_
    replace h := h _ rfl
    refine fx_putI (n := 23) dd_H_takeNextNumber_20 fw_H_48 (by decide) rfl rfl rfl rfl q1.1 q1.2 ?_
    exact fx_vret dd_H_takeNextNumber_23 rfl h
  · replace h := h.2 hc
    refine fx_iconst (n := 11) (v := 1) dd_H_takeNextNumber_10 (by decide) rfl ?_
    refine fx_goto (n := 20) dd_H_takeNextNumber_11 rfl ?_
    replace h := h _ rfl
    refine fx_putI (n := 23) dd_H_takeNextNumber_20 fw_H_48 (by decide) rfl rfl rfl rfl q1.1 q1.2 ?_
    exact fx_vret dd_H_takeNextNumber_23 rfl h
theorem bk_H_nameBytes_0 {G : fx_G} {S : fx_S} {Q : fx_R → fx_S → Prop} (v0 : Nat) (h : fx_is S v0 3 ∧ ∃ r2, fx_P S v0 5 = some r2 ∧ fx_is S r2 2 ∧ (¬ (fx_I S r2 1) = 0 → ∃ r4, fx_P S v0 5 = some r4 ∧ fx_is S r4 2 ∧ Q (.inl (some (.int (2 + (fx_I S r4 1))))) S) ∧ ((fx_I S r2 1) = 0 → Q (.inl (some (.int 0))) S)) :
    fx_Go G (0, 0) mm_H_nameBytes 0 [(0, fx_r G v0)] [] S Q := by
  refine fx_aload_n (n := 1) dd_H_nameBytes_0 rfl 0 rfl rfl ?_
  obtain ⟨q1, h⟩ := h
  obtain ⟨r2, hr2, h⟩ := h
  refine fx_getP (n := 4) dd_H_nameBytes_1 fw_H_12 (by decide) rfl rfl q1.1 q1.2 hr2 ?_
  obtain ⟨q3, h⟩ := h
  refine fx_getI (n := 7) dd_H_nameBytes_4 fw_H_52 (by decide) rfl rfl q3.1 q3.2 ?_
  refine fx_if_ne (n := 10) (tg := 14) dd_H_nameBytes_7 rfl rfl (fun hc => ?_) (fun hc => ?_)
  · replace h := h.1 hc
    refine fx_iconst (n := 15) (v := 2) dd_H_nameBytes_14 (by decide) rfl ?_
    refine fx_aload_n (n := 16) dd_H_nameBytes_15 rfl 0 rfl rfl ?_
    obtain ⟨r4, hr4, h⟩ := h
    refine fx_getP (n := 19) dd_H_nameBytes_16 fw_H_12 (by decide) rfl rfl q1.1 q1.2 hr4 ?_
    obtain ⟨q5, h⟩ := h
    refine fx_getI (n := 22) dd_H_nameBytes_19 fw_H_52 (by decide) rfl rfl q5.1 q5.2 ?_
    refine fx_iadd (n := 23) dd_H_nameBytes_22 rfl ?_
    exact fx_iret dd_H_nameBytes_23 rfl h
  · replace h := h.2 hc
    refine fx_iconst (n := 11) (v := 0) dd_H_nameBytes_10 (by decide) rfl ?_
    refine fx_goto (n := 23) dd_H_nameBytes_11 rfl ?_
    exact fx_iret dd_H_nameBytes_23 rfl h
theorem bk_H_dataBytes_0 {G : fx_G} {S : fx_S} {Q : fx_R → fx_S → Prop} (v0 : Nat) (h : fx_is S v0 3 ∧ (¬ (fx_I S v0 3) = 0 → (¬ (fx_I S v0 3) = 3 → Q (.inl (some (.int (2 + (fx_I S v0 4))))) S) ∧ ((fx_I S v0 3) = 3 → ∃ r2, fx_P S v0 7 = some r2 ∧ fx_is S r2 1 ∧ fx_Go G (1, 13) mm_Y_attributeBytes 0 [(0, fx_r G r2)] [] S (fx_qi (fun x5 S3 => Q (.inl (some (.int x5))) S3) Q))) ∧ ((fx_I S v0 3) = 0 → Q (.inl (some (.int 0))) S)) :
    fx_Go G (2, 27) mm_H_dataBytes 0 [(0, fx_r G v0)] [] S Q := by
  refine fx_aload_n (n := 1) dd_H_dataBytes_0 rfl 0 rfl rfl ?_
  obtain ⟨q1, h⟩ := h
  refine fx_getI (n := 4) dd_H_dataBytes_1 fw_H_36 (by decide) rfl rfl q1.1 q1.2 ?_
  refine fx_if_ne (n := 7) (tg := 9) dd_H_dataBytes_4 rfl rfl (fun hc => ?_) (fun hc => ?_)
  · replace h := h.1 hc
    refine fx_aload_n (n := 10) dd_H_dataBytes_9 rfl 0 rfl rfl ?_
    refine fx_getI (n := 13) dd_H_dataBytes_10 fw_H_36 (by decide) rfl rfl q1.1 q1.2 ?_
    refine fx_iconst (n := 14) (v := 3) dd_H_dataBytes_13 (by decide) rfl ?_
    refine fx_icmp_ne (n := 17) (tg := 27) dd_H_dataBytes_14 rfl rfl (fun hc => ?_) (fun hc => ?_)
    · replace h := h.1 hc
      refine fx_iconst (n := 28) (v := 2) dd_H_dataBytes_27 (by decide) rfl ?_
      refine fx_aload_n (n := 29) dd_H_dataBytes_28 rfl 0 rfl rfl ?_
      refine fx_getI (n := 32) dd_H_dataBytes_29 fw_H_39 (by decide) rfl rfl q1.1 q1.2 ?_
      refine fx_iadd (n := 33) dd_H_dataBytes_32 rfl ?_
      exact fx_iret dd_H_dataBytes_33 rfl h
    · replace h := h.2 hc
      refine fx_aload_n (n := 18) dd_H_dataBytes_17 rfl 0 rfl rfl ?_
      obtain ⟨r2, hr2, h⟩ := h
      refine fx_getP (n := 21) dd_H_dataBytes_18 fw_H_25 (by decide) rfl rfl q1.1 q1.2 hr2 ?_
      obtain ⟨q4, h⟩ := h
      refine fx_callV (n := 24) (vs := []) dd_H_dataBytes_21 mw_Y_attributeBytes ⟨wd_255, wd_256, wd_257⟩ rfl (by decide) q4.1 q4.2 rfl rfl ⟨Nat.le_of_ble_eq_true rfl, Nat.le_of_ble_eq_true rfl, Nat.le_of_ble_eq_true rfl, fx_nx, rfl⟩ rfl h (fx_qi_k fun x5 S3 h => ?_) (fun _ _ h => h)
      refine fx_goto (n := 33) dd_H_dataBytes_24 rfl ?_
      exact fx_iret dd_H_dataBytes_33 rfl h
  · replace h := h.2 hc
    refine fx_iconst (n := 8) (v := 0) dd_H_dataBytes_7 (by decide) rfl ?_
    exact fx_iret dd_H_dataBytes_8 rfl h
theorem bk_H_attributeBytes_0 {G : fx_G} {S : fx_S} {Q : fx_R → fx_S → Prop} (v0 : Nat) (h : fx_is S v0 3 ∧ fx_Go G (0, 0) mm_H_nameBytes 0 [(0, fx_r G v0)] [] S (fx_qi (fun x3 S1 => fx_is S1 v0 3 ∧ fx_Go G (2, 27) mm_H_dataBytes 0 [(0, fx_r G v0)] [] S1 (fx_qi (fun x6 S4 => Q (.inl (some (.int (x3 + x6)))) S4) Q)) Q)) :
    fx_Go G (3, 40) mm_H_attributeBytes 0 [(0, fx_r G v0)] [] S Q := by
  refine fx_aload_n (n := 1) dd_H_attributeBytes_0 rfl 0 rfl rfl ?_
  obtain ⟨q2, h⟩ := h
  refine fx_callV (n := 4) (vs := []) dd_H_attributeBytes_1 mw_H_nameBytes ⟨wd_247, wd_248, wd_249⟩ rfl (by decide) q2.1 q2.2 rfl rfl ⟨Nat.le_of_ble_eq_true rfl, Nat.le_of_ble_eq_true rfl, Nat.le_of_ble_eq_true rfl, fx_nx, rfl⟩ rfl h (fx_qi_k fun x3 S1 h => ?_) (fun _ _ h => h)
  refine fx_aload_n (n := 5) dd_H_attributeBytes_4 rfl 0 rfl rfl ?_
  obtain ⟨q5, h⟩ := h
  refine fx_callV (n := 8) (vs := []) dd_H_attributeBytes_5 mw_H_dataBytes ⟨wd_251, wd_252, wd_253⟩ rfl (by decide) q5.1 q5.2 rfl rfl ⟨Nat.le_of_ble_eq_true rfl, Nat.le_of_ble_eq_true rfl, Nat.le_of_ble_eq_true rfl, fx_nx, rfl⟩ rfl h (fx_qi_k fun x6 S4 h => ?_) (fun _ _ h => h)
  refine fx_iadd (n := 9) dd_H_attributeBytes_8 rfl ?_
  exact fx_iret dd_H_attributeBytes_9 rfl h
theorem bk_H_mostInside_0 {G : fx_G} {S : fx_S} {Q : fx_R → fx_S → Prop} (v0 : Nat) (h : fx_is S v0 3 ∧ fx_Go G (0, 0) mm_H_nameBytes 0 [(0, fx_r G v0)] [] S (fx_qi (fun x3 S1 => Q (.inl (some (.int ((54 - x3) - 2)))) S1) Q)) :
    fx_Go G (1, 13) mm_H_mostInside 0 [(0, fx_r G v0)] [] S Q := by
  refine fx_bipush (n := 2) (v := 54) dd_H_mostInside_0 (by decide) rfl ?_
  refine fx_aload_n (n := 3) dd_H_mostInside_2 rfl 0 rfl rfl ?_
  obtain ⟨q2, h⟩ := h
  refine fx_callV (n := 6) (vs := []) dd_H_mostInside_3 mw_H_nameBytes ⟨wd_247, wd_248, wd_249⟩ rfl (by decide) q2.1 q2.2 rfl rfl ⟨Nat.le_of_ble_eq_true rfl, Nat.le_of_ble_eq_true rfl, Nat.le_of_ble_eq_true rfl, fx_nx, rfl⟩ rfl h (fx_qi_k fun x3 S1 h => ?_) (fun _ _ h => h)
  refine fx_isub (n := 7) dd_H_mostInside_6 rfl ?_
  refine fx_iconst (n := 8) (v := 2) dd_H_mostInside_7 (by decide) rfl ?_
  refine fx_isub (n := 9) dd_H_mostInside_8 rfl ?_
  exact fx_iret dd_H_mostInside_9 rfl h
theorem bk_H_putInside_0 {G : fx_G} {S : fx_S} {Q : fx_R → fx_S → Prop} (v0 : Nat) (v1 : Int32) (v2 : Int32) (v3 : Int32) (v4 : Int32) (h : fx_is S v0 3 ∧ fx_Go G (0, 0) mm_H_putInside 6 [(0, fx_r G v0), (1, .int v1), (2, .int v2), (3, .int v3), (4, .int v4), (5, .int (fx_I S v0 4))] [] S Q) :
    fx_Go G (0, 0) mm_H_putInside 0 [(0, fx_r G v0), (1, .int v1), (2, .int v2), (3, .int v3), (4, .int v4)] [] S Q := by
  refine fx_aload_n (n := 1) dd_H_putInside_0 rfl 0 rfl rfl ?_
  obtain ⟨q1, h⟩ := h
  refine fx_getI (n := 4) dd_H_putInside_1 fw_H_39 (by decide) rfl rfl q1.1 q1.2 ?_
  refine fx_istore (n := 6) (L' := [(5, _), (0, _), (1, _), (2, _), (3, _), (4, _)]) dd_H_putInside_4 (by decide) rfl rfl ?_
  refine fx_sub (L' := [(0, _), (1, _), (2, _), (3, _), (4, _), (5, _)]) [1, 2, 3, 4, 5, 0] rfl ?_
  exact h
theorem bk_H_putInside_6 {G : fx_G} {S : fx_S} {Q : fx_R → fx_S → Prop} (v0 : Nat) (v1 : Int32) (v2 : Int32) (v3 : Int32) (v4 : Int32) (v5 : Int32) (h : (v1 ≤ v5 → fx_Go G (0, 0) mm_H_putInside 29 [(0, fx_r G v0), (1, .int v1), (2, .int v2), (3, .int v3), (4, .int v4), (5, .int 0)] [] S Q) ∧ (¬ v1 ≤ v5 → fx_is S v0 3 ∧ ∃ r2, fx_P S v0 6 = some r2 ∧ fx_is S r2 100 ∧ vp_in v5 (fx_ln S r2) ∧ ∀ S5, S5 = fx_setI S r2 (v5.toNatClampNeg) 0 → fx_Go G (0, 0) mm_H_putInside 6 [(0, fx_r G v0), (1, .int v1), (2, .int v2), (3, .int v3), (4, .int v4), (5, .int (v5 + Int32.ofInt 1))] [] S5 Q)) :
    fx_Go G (0, 0) mm_H_putInside 6 [(0, fx_r G v0), (1, .int v1), (2, .int v2), (3, .int v3), (4, .int v4), (5, .int v5)] [] S Q := by
  refine fx_iload (n := 8) dd_H_putInside_6 5 rfl rfl ?_
  refine fx_iload_n (n := 9) dd_H_putInside_8 rfl 1 rfl rfl ?_
  refine fx_icmp_ge (n := 12) (tg := 26) dd_H_putInside_9 rfl rfl (fun hc => ?_) (fun hc => ?_)
  · replace h := h.1 hc
    refine fx_iconst (n := 27) (v := 0) dd_H_putInside_26 (by decide) rfl ?_
    refine fx_istore (n := 29) (L' := [(5, _), (0, _), (1, _), (2, _), (3, _), (4, _)]) dd_H_putInside_27 (by decide) rfl rfl ?_
    refine fx_sub (L' := [(0, _), (1, _), (2, _), (3, _), (4, _), (5, _)]) [1, 2, 3, 4, 5, 0] rfl ?_
    exact h
  · replace h := h.2 hc
    refine fx_aload_n (n := 13) dd_H_putInside_12 rfl 0 rfl rfl ?_
    obtain ⟨q1, h⟩ := h
    obtain ⟨r2, hr2, h⟩ := h
    refine fx_getP (n := 16) dd_H_putInside_13 fw_H_18 (by decide) rfl rfl q1.1 q1.2 hr2 ?_
    refine fx_iload (n := 18) dd_H_putInside_16 5 rfl rfl ?_
    refine fx_iconst (n := 19) (v := 0) dd_H_putInside_18 (by decide) rfl ?_
    obtain ⟨q3, h⟩ := h
    obtain ⟨q4, h⟩ := h
    replace h := h _ rfl
    refine fx_iast (n := 20) dd_H_putInside_19 rfl q3.1 q3.2 q4 ?_
    refine fx_iinc (n := 23) (L' := [(5, _), (0, _), (1, _), (2, _), (3, _), (4, _)]) dd_H_putInside_20 5 rfl rfl (by decide) rfl rfl ?_
    refine fx_goto (n := 6) dd_H_putInside_23 rfl ?_
    refine fx_sub (L' := [(0, _), (1, _), (2, _), (3, _), (4, _), (5, _)]) [1, 2, 3, 4, 5, 0] rfl ?_
    exact h
theorem bk_H_putInside_29 {G : fx_G} {S : fx_S} {Q : fx_R → fx_S → Prop} (v0 : Nat) (v1 : Int32) (v2 : Int32) (v3 : Int32) (v4 : Int32) (v5 : Int32) (h : (v2 ≤ v5 → fx_is S v0 3 ∧ ∀ S2, S2 = fx_setI S v0 4 v4 → Q (.inl none) S2) ∧ (¬ v2 ≤ v5 → fx_is S v0 3 ∧ ∃ r4, fx_P S v0 6 = some r4 ∧ fx_is S r4 100 ∧ vp_in (v1 + v5) (fx_ln S r4) ∧ ∀ S7, S7 = fx_setI S r4 ((v1 + v5).toNatClampNeg) ((v3 + v5) &&& 255) → fx_Go G (0, 0) mm_H_putInside 29 [(0, fx_r G v0), (1, .int v1), (2, .int v2), (3, .int v3), (4, .int v4), (5, .int (v5 + Int32.ofInt 1))] [] S7 Q)) :
    fx_Go G (0, 0) mm_H_putInside 29 [(0, fx_r G v0), (1, .int v1), (2, .int v2), (3, .int v3), (4, .int v4), (5, .int v5)] [] S Q := by
  refine fx_iload (n := 31) dd_H_putInside_29 5 rfl rfl ?_
  refine fx_iload_n (n := 32) dd_H_putInside_31 rfl 2 rfl rfl ?_
  refine fx_icmp_ge (n := 35) (tg := 58) dd_H_putInside_32 rfl rfl (fun hc => ?_) (fun hc => ?_)
  · replace h := h.1 hc
    refine fx_aload_n (n := 59) dd_H_putInside_58 rfl 0 rfl rfl ?_
    refine fx_iload (n := 61) dd_H_putInside_59 4 rfl rfl ?_
    obtain ⟨q1, h⟩ := h
    replace h := h _ rfl
    refine fx_putI (n := 64) dd_H_putInside_61 fw_H_39 (by decide) rfl rfl rfl rfl q1.1 q1.2 ?_
    exact fx_vret dd_H_putInside_64 rfl h
  · replace h := h.2 hc
    refine fx_aload_n (n := 36) dd_H_putInside_35 rfl 0 rfl rfl ?_
    obtain ⟨q3, h⟩ := h
    obtain ⟨r4, hr4, h⟩ := h
    refine fx_getP (n := 39) dd_H_putInside_36 fw_H_18 (by decide) rfl rfl q3.1 q3.2 hr4 ?_
    refine fx_iload_n (n := 40) dd_H_putInside_39 rfl 1 rfl rfl ?_
    refine fx_iload (n := 42) dd_H_putInside_40 5 rfl rfl ?_
    refine fx_iadd (n := 43) dd_H_putInside_42 rfl ?_
    refine fx_iload_n (n := 44) dd_H_putInside_43 rfl 3 rfl rfl ?_
    refine fx_iload (n := 46) dd_H_putInside_44 5 rfl rfl ?_
    refine fx_iadd (n := 47) dd_H_putInside_46 rfl ?_
    refine fx_sipush (n := 50) (v := 255) dd_H_putInside_47 (by decide) rfl ?_
    refine fx_iand (n := 51) dd_H_putInside_50 rfl ?_
    obtain ⟨q5, h⟩ := h
    obtain ⟨q6, h⟩ := h
    replace h := h _ rfl
    refine fx_iast (n := 52) dd_H_putInside_51 rfl q5.1 q5.2 q6 ?_
    refine fx_iinc (n := 55) (L' := [(5, _), (0, _), (1, _), (2, _), (3, _), (4, _)]) dd_H_putInside_52 5 rfl rfl (by decide) rfl rfl ?_
    refine fx_goto (n := 29) dd_H_putInside_55 rfl ?_
    refine fx_sub (L' := [(0, _), (1, _), (2, _), (3, _), (4, _), (5, _)]) [1, 2, 3, 4, 5, 0] rfl ?_
    exact h
theorem bk_H_hasList_0 {G : fx_G} {S : fx_S} {Q : fx_R → fx_S → Prop} (v0 : Nat) (v1 : Nat) (v2 : Int32) (h : fx_is S v0 3 ∧ ((fx_I S v0 4) = v2 → fx_Go G (0, 0) mm_H_hasList 12 [(0, fx_r G v0), (1, fx_r G v1), (2, .int v2), (3, .int 0)] [] S Q) ∧ (¬ (fx_I S v0 4) = v2 → Q (.inl (some (.int 0))) S)) :
    fx_Go G (0, 0) mm_H_hasList 0 [(0, fx_r G v0), (1, fx_r G v1), (2, .int v2)] [] S Q := by
  refine fx_aload_n (n := 1) dd_H_hasList_0 rfl 0 rfl rfl ?_
  obtain ⟨q1, h⟩ := h
  refine fx_getI (n := 4) dd_H_hasList_1 fw_H_39 (by decide) rfl rfl q1.1 q1.2 ?_
  refine fx_iload_n (n := 5) dd_H_hasList_4 rfl 2 rfl rfl ?_
  refine fx_icmp_eq (n := 8) (tg := 10) dd_H_hasList_5 rfl rfl (fun hc => ?_) (fun hc => ?_)
  · replace h := h.1 hc
    refine fx_iconst (n := 11) (v := 0) dd_H_hasList_10 (by decide) rfl ?_
    refine fx_istore_n (n := 12) (L' := [(3, _), (0, _), (1, _), (2, _)]) dd_H_hasList_11 rfl (by decide) rfl rfl ?_
    refine fx_sub (L' := [(0, _), (1, _), (2, _), (3, _)]) [1, 2, 3, 0] rfl ?_
    exact h
  · replace h := h.2 hc
    refine fx_iconst (n := 9) (v := 0) dd_H_hasList_8 (by decide) rfl ?_
    exact fx_zret dd_H_hasList_9 rfl rfl h
theorem bk_H_hasList_12 {G : fx_G} {S : fx_S} {Q : fx_R → fx_S → Prop} (v0 : Nat) (v1 : Nat) (v2 : Int32) (v3 : Int32) (h : (v2 ≤ v3 → Q (.inl (some (.int 1))) S) ∧ (¬ v2 ≤ v3 → fx_is S v0 3 ∧ ∃ r2, fx_P S v0 6 = some r2 ∧ fx_is S r2 100 ∧ vp_in v3 (fx_ln S r2) ∧ fx_is S v1 100 ∧ vp_in v3 (fx_ln S v1) ∧ ((fx_I S r2 (v3.toNatClampNeg)) = (fx_I S v1 (v3.toNatClampNeg)) → fx_Go G (0, 0) mm_H_hasList 12 [(0, fx_r G v0), (1, fx_r G v1), (2, .int v2), (3, .int (v3 + Int32.ofInt 1))] [] S Q) ∧ (¬ (fx_I S r2 (v3.toNatClampNeg)) = (fx_I S v1 (v3.toNatClampNeg)) → Q (.inl (some (.int 0))) S))) :
    fx_Go G (0, 0) mm_H_hasList 12 [(0, fx_r G v0), (1, fx_r G v1), (2, .int v2), (3, .int v3)] [] S Q := by
  refine fx_iload_n (n := 13) dd_H_hasList_12 rfl 3 rfl rfl ?_
  refine fx_iload_n (n := 14) dd_H_hasList_13 rfl 2 rfl rfl ?_
  refine fx_icmp_ge (n := 17) (tg := 37) dd_H_hasList_14 rfl rfl (fun hc => ?_) (fun hc => ?_)
  · replace h := h.1 hc
    refine fx_iconst (n := 38) (v := 1) dd_H_hasList_37 (by decide) rfl ?_
    exact fx_zret dd_H_hasList_38 rfl rfl h
  · replace h := h.2 hc
    refine fx_aload_n (n := 18) dd_H_hasList_17 rfl 0 rfl rfl ?_
    obtain ⟨q1, h⟩ := h
    obtain ⟨r2, hr2, h⟩ := h
    refine fx_getP (n := 21) dd_H_hasList_18 fw_H_18 (by decide) rfl rfl q1.1 q1.2 hr2 ?_
    refine fx_iload_n (n := 22) dd_H_hasList_21 rfl 3 rfl rfl ?_
    obtain ⟨q3, h⟩ := h
    obtain ⟨q4, h⟩ := h
    refine fx_iald (n := 23) dd_H_hasList_22 rfl q3.1 q3.2 q4 ?_
    refine fx_aload_n (n := 24) dd_H_hasList_23 rfl 1 rfl rfl ?_
    refine fx_iload_n (n := 25) dd_H_hasList_24 rfl 3 rfl rfl ?_
    obtain ⟨q5, h⟩ := h
    obtain ⟨q6, h⟩ := h
    refine fx_iald (n := 26) dd_H_hasList_25 rfl q5.1 q5.2 q6 ?_
    refine fx_icmp_eq (n := 29) (tg := 31) dd_H_hasList_26 rfl rfl (fun hc => ?_) (fun hc => ?_)
    · replace h := h.1 hc
      refine fx_iinc (n := 34) (L' := [(3, _), (0, _), (1, _), (2, _)]) dd_H_hasList_31 3 rfl rfl (by decide) rfl rfl ?_
      refine fx_goto (n := 12) dd_H_hasList_34 rfl ?_
      refine fx_sub (L' := [(0, _), (1, _), (2, _), (3, _)]) [1, 2, 3, 0] rfl ?_
      exact h
    · replace h := h.2 hc
      refine fx_iconst (n := 30) (v := 0) dd_H_hasList_29 (by decide) rfl ?_
      exact fx_zret dd_H_hasList_30 rfl rfl h
theorem bk_H_setList_0 {G : fx_G} {S : fx_S} {Q : fx_R → fx_S → Prop} (v0 : Nat) (v1 : Nat) (v2 : Int32) (h : fx_is S v0 3 ∧ ∃ r2, fx_P S v0 6 = some r2 ∧ fx_is S v1 100 ∧ fx_is S r2 100 ∧ fx_cpy S v1 r2 0 0 v2 ∧ ∀ S3, S3 = fx_setR S r2 (va_cpy (fx_I S v1) (fx_I S r2) ((0 : Int32).toNatClampNeg) ((0 : Int32).toNatClampNeg) (v2.toNatClampNeg)) → ∀ S7, S7 = fx_setI S3 v0 4 v2 → Q (.inl none) S7) :
    fx_Go G (1, 18) mm_H_setList 0 [(0, fx_r G v0), (1, fx_r G v1), (2, .int v2)] [] S Q := by
  refine fx_aload_n (n := 1) dd_H_setList_0 rfl 1 rfl rfl ?_
  refine fx_iconst (n := 2) (v := 0) dd_H_setList_1 (by decide) rfl ?_
  refine fx_aload_n (n := 3) dd_H_setList_2 rfl 0 rfl rfl ?_
  obtain ⟨q1, h⟩ := h
  obtain ⟨r2, hr2, h⟩ := h
  refine fx_getP (n := 6) dd_H_setList_3 fw_H_18 (by decide) rfl rfl q1.1 q1.2 hr2 ?_
  refine fx_iconst (n := 7) (v := 0) dd_H_setList_6 (by decide) rfl ?_
  refine fx_iload_n (n := 8) dd_H_setList_7 rfl 2 rfl rfl ?_
  obtain ⟨q4, h⟩ := h
  obtain ⟨q5, h⟩ := h
  obtain ⟨q6, h⟩ := h
  replace h := h _ rfl
  refine fx_copy (n := 11) dd_H_setList_8 ⟨wd_143, wd_145, wd_144, wd_7⟩ rfl ⟨by decide, Nat.le_of_ble_eq_true rfl⟩ q4.1 q4.2 q5.1 q5.2 q6.1 q6.2.1 q6.2.2.1 q6.2.2.2.1 q6.2.2.2.2 ?_
  refine fx_aload_n (n := 12) dd_H_setList_11 rfl 0 rfl rfl ?_
  refine fx_iload_n (n := 13) dd_H_setList_12 rfl 2 rfl rfl ?_
  replace h := h _ rfl
  refine fx_putI (n := 16) dd_H_setList_13 fw_H_39 (by decide) rfl rfl rfl rfl q1.1 q1.2 ?_
  exact fx_vret dd_H_setList_16 rfl h
theorem bk_H_encode_0 {G : fx_G} {S : fx_S} {Q : fx_R → fx_S → Prop} (v0 : Nat) (v1 : Nat) (h : fx_Go G (0, 0) mm_A_fill 0 [(0, fx_r G v1), (1, .int 0)] [] S (fx_qv (fun S1 => fx_is S1 v0 3 ∧ fx_is S1 v1 100 ∧ vp_in 0 (fx_ln S1 v1) ∧ ∀ S5, S5 = fx_setI S1 v1 ((0 : Int32).toNatClampNeg) (fx_I S1 v0 0) → vp_in 1 (fx_ln S5 v1) ∧ ∀ S7, S7 = fx_setI S5 v1 ((1 : Int32).toNatClampNeg) (fx_I S5 v0 1) → fx_Go G (0, 0) mm_V_putWord 0 [(0, fx_r G v1), (1, .int 2), (2, .int (fx_I S7 v0 2))] [] S7 (fx_qv (fun S8 => fx_is S8 v0 3 ∧ fx_Go G (1, 18) mm_H_encodeName 0 [(0, fx_r G v0), (1, fx_r G v1)] [] S8 (fx_qi (fun x11 S9 => fx_is S9 v0 3 ∧ fx_Go G (2, 31) mm_H_encodeData 0 [(0, fx_r G v0), (1, fx_r G v1), (2, .int x11)] [] S9 (fx_qi (fun x14 S12 => fx_is S12 v1 100 ∧ vp_in 8 (fx_ln S12 v1) ∧ ∀ S17, S17 = fx_setI S12 v1 ((8 : Int32).toNatClampNeg) (x14 - 10) → fx_is S17 v0 3 ∧ fx_Go G (1, 15) mm_H_setAside 0 [(0, fx_r G v0), (1, fx_r G v1), (2, .int 4), (3, .int 30)] [] S17 (fx_qv (fun S18 => fx_is S18 v0 3 ∧ fx_Go G (1, 15) mm_H_setAside 0 [(0, fx_r G v0), (1, fx_r G v1), (2, .int 6), (3, .int 62)] [] S18 (fx_qv (fun S20 => Q (.inl none) S20) Q)) Q)) Q)) Q)) Q)) Q)) :
    fx_Go G (3, 46) mm_H_encode 0 [(0, fx_r G v0), (1, fx_r G v1)] [] S Q := by
  refine fx_aload_n (n := 1) dd_H_encode_0 rfl 1 rfl rfl ?_
  refine fx_iconst (n := 2) (v := 0) dd_H_encode_1 (by decide) rfl ?_
  refine fx_callS (n := 5) (vs := [_, _]) dd_H_encode_2 mw_A_fill ⟨wd_133, wd_134, wd_6⟩ rfl rfl ⟨Nat.le_of_ble_eq_true rfl, Nat.le_of_ble_eq_true rfl, Nat.le_of_ble_eq_true rfl, fx_nx, rfl⟩ rfl h (fx_qv_k fun S1 h => ?_) (fun _ _ h => h)
  refine fx_aload_n (n := 6) dd_H_encode_5 rfl 1 rfl rfl ?_
  refine fx_iconst (n := 7) (v := 0) dd_H_encode_6 (by decide) rfl ?_
  refine fx_aload_n (n := 8) dd_H_encode_7 rfl 0 rfl rfl ?_
  obtain ⟨q2, h⟩ := h
  refine fx_getI (n := 11) dd_H_encode_8 fw_H_29 (by decide) rfl rfl q2.1 q2.2 ?_
  obtain ⟨q3, h⟩ := h
  obtain ⟨q4, h⟩ := h
  replace h := h _ rfl
  refine fx_iast (n := 12) dd_H_encode_11 rfl q3.1 q3.2 q4 ?_
  refine fx_aload_n (n := 13) dd_H_encode_12 rfl 1 rfl rfl ?_
  refine fx_iconst (n := 14) (v := 1) dd_H_encode_13 (by decide) rfl ?_
  refine fx_aload_n (n := 15) dd_H_encode_14 rfl 0 rfl rfl ?_
  refine fx_getI (n := 18) dd_H_encode_15 fw_H_33 (by decide) rfl rfl q2.1 q2.2 ?_
  obtain ⟨q6, h⟩ := h
  replace h := h _ rfl
  refine fx_iast (n := 19) dd_H_encode_18 rfl q3.1 q3.2 q6 ?_
  refine fx_aload_n (n := 20) dd_H_encode_19 rfl 1 rfl rfl ?_
  refine fx_iconst (n := 21) (v := 2) dd_H_encode_20 (by decide) rfl ?_
  refine fx_aload_n (n := 22) dd_H_encode_21 rfl 0 rfl rfl ?_
  refine fx_getI (n := 25) dd_H_encode_22 fw_H_48 (by decide) rfl rfl q2.1 q2.2 ?_
  refine fx_callSN (n := 28) (vs := [_, _, _]) dd_H_encode_25 mw_V_putWord ⟨wd_136, wd_137, wd_1⟩ rfl rfl ⟨Nat.le_of_ble_eq_true rfl, Nat.le_of_ble_eq_true rfl, Nat.le_of_ble_eq_true rfl, fx_nx, rfl⟩ rfl h (fx_qv_k fun S8 h => ?_) (fun _ _ h => h)
  refine fx_aload_n (n := 29) dd_H_encode_28 rfl 0 rfl rfl ?_
  refine fx_aload_n (n := 30) dd_H_encode_29 rfl 1 rfl rfl ?_
  refine fx_aload_n (n := 31) dd_H_encode_30 rfl 0 rfl rfl ?_
  refine fx_aload_n (n := 32) dd_H_encode_31 rfl 1 rfl rfl ?_
  obtain ⟨q10, h⟩ := h
  refine fx_callV (n := 35) (vs := [_]) dd_H_encode_32 mw_H_encodeName ⟨wd_139, wd_141, wp_0⟩ rfl (by decide) q10.1 q10.2 rfl rfl ⟨Nat.le_of_ble_eq_true rfl, Nat.le_of_ble_eq_true rfl, Nat.le_of_ble_eq_true rfl, fx_nx, rfl⟩ rfl h (fx_qi_k fun x11 S9 h => ?_) (fun _ _ h => h)
  obtain ⟨q13, h⟩ := h
  refine fx_callV (n := 38) (vs := [_, _]) dd_H_encode_35 mw_H_encodeData ⟨wd_146, wd_148, wp_1⟩ rfl (by decide) q13.1 q13.2 rfl rfl ⟨Nat.le_of_ble_eq_true rfl, Nat.le_of_ble_eq_true rfl, Nat.le_of_ble_eq_true rfl, fx_nx, rfl⟩ rfl h (fx_qi_k fun x14 S12 h => ?_) (fun _ _ h => h)
  refine fx_istore_n (n := 39) (L' := [(2, _), (0, _), (1, _)]) dd_H_encode_38 rfl (by decide) rfl rfl ?_
  refine fx_aload_n (n := 40) dd_H_encode_39 rfl 2 rfl rfl ?_
  refine fx_bipush (n := 42) (v := 8) dd_H_encode_40 (by decide) rfl ?_
  refine fx_iload_n (n := 43) dd_H_encode_42 rfl 0 rfl rfl ?_
  refine fx_bipush (n := 45) (v := 10) dd_H_encode_43 (by decide) rfl ?_
  refine fx_isub (n := 46) dd_H_encode_45 rfl ?_
  obtain ⟨q15, h⟩ := h
  obtain ⟨q16, h⟩ := h
  replace h := h _ rfl
  refine fx_iast (n := 47) dd_H_encode_46 rfl q15.1 q15.2 q16 ?_
  refine fx_aload_n (n := 48) dd_H_encode_47 rfl 1 rfl rfl ?_
  refine fx_aload_n (n := 49) dd_H_encode_48 rfl 2 rfl rfl ?_
  refine fx_iconst (n := 50) (v := 4) dd_H_encode_49 (by decide) rfl ?_
  refine fx_bipush (n := 52) (v := 30) dd_H_encode_50 (by decide) rfl ?_
  obtain ⟨q19, h⟩ := h
  refine fx_callV (n := 55) (vs := [_, _, _]) dd_H_encode_52 mw_H_setAside ⟨wd_158, wd_160, wp_2⟩ rfl (by decide) q19.1 q19.2 rfl rfl ⟨Nat.le_of_ble_eq_true rfl, Nat.le_of_ble_eq_true rfl, Nat.le_of_ble_eq_true rfl, fx_nx, rfl⟩ rfl h (fx_qv_k fun S18 h => ?_) (fun _ _ h => h)
  refine fx_aload_n (n := 56) dd_H_encode_55 rfl 1 rfl rfl ?_
  refine fx_aload_n (n := 57) dd_H_encode_56 rfl 2 rfl rfl ?_
  refine fx_bipush (n := 59) (v := 6) dd_H_encode_57 (by decide) rfl ?_
  refine fx_bipush (n := 61) (v := 62) dd_H_encode_59 (by decide) rfl ?_
  obtain ⟨q21, h⟩ := h
  refine fx_callV (n := 64) (vs := [_, _, _]) dd_H_encode_61 mw_H_setAside ⟨wd_158, wd_160, wp_2⟩ rfl (by decide) q21.1 q21.2 rfl rfl ⟨Nat.le_of_ble_eq_true rfl, Nat.le_of_ble_eq_true rfl, Nat.le_of_ble_eq_true rfl, fx_nx, rfl⟩ rfl h (fx_qv_k fun S20 h => ?_) (fun _ _ h => h)
  exact fx_vret dd_H_encode_64 rfl h
theorem bk_H_encodeName_0 {G : fx_G} {S : fx_S} {Q : fx_R → fx_S → Prop} (v0 : Nat) (v1 : Nat) (h : fx_is S v0 3 ∧ ∃ r2, fx_P S v0 5 = some r2 ∧ fx_is S r2 2 ∧ (¬ (fx_I S r2 1) = 0 → fx_is S v1 100 ∧ vp_in 10 (fx_ln S v1) ∧ ∀ S6, S6 = fx_setI S v1 ((10 : Int32).toNatClampNeg) 1 → ∃ r7, fx_P S6 v0 5 = some r7 ∧ fx_is S6 r7 2 ∧ vp_in 11 (fx_ln S6 v1) ∧ ∀ S10, S10 = fx_setI S6 v1 ((11 : Int32).toNatClampNeg) (2 + (fx_I S6 r7 1)) → ∃ r11, fx_P S10 v0 5 = some r11 ∧ fx_is S10 r11 2 ∧ ∃ r13, fx_P S10 r11 0 = some r13 ∧ ∃ r14, fx_P S10 v0 5 = some r14 ∧ fx_is S10 r14 2 ∧ fx_is S10 r13 100 ∧ fx_cpy S10 r13 v1 0 12 (fx_I S10 r14 1) ∧ ∀ S16, S16 = fx_setR S10 v1 (va_cpy (fx_I S10 r13) (fx_I S10 v1) ((0 : Int32).toNatClampNeg) ((12 : Int32).toNatClampNeg) ((fx_I S10 r14 1).toNatClampNeg)) → ∃ r19, fx_P S16 v0 5 = some r19 ∧ fx_is S16 r19 2 ∧ Q (.inl (some (.int (12 + (fx_I S16 r19 1))))) S16) ∧ ((fx_I S r2 1) = 0 → Q (.inl (some (.int 10))) S)) :
    fx_Go G (1, 18) mm_H_encodeName 0 [(0, fx_r G v0), (1, fx_r G v1)] [] S Q := by
  refine fx_aload_n (n := 1) dd_H_encodeName_0 rfl 0 rfl rfl ?_
  obtain ⟨q1, h⟩ := h
  obtain ⟨r2, hr2, h⟩ := h
  refine fx_getP (n := 4) dd_H_encodeName_1 fw_H_12 (by decide) rfl rfl q1.1 q1.2 hr2 ?_
  obtain ⟨q3, h⟩ := h
  refine fx_getI (n := 7) dd_H_encodeName_4 fw_H_52 (by decide) rfl rfl q3.1 q3.2 ?_
  refine fx_if_ne (n := 10) (tg := 13) dd_H_encodeName_7 rfl rfl (fun hc => ?_) (fun hc => ?_)
  · replace h := h.1 hc
    refine fx_aload_n (n := 14) dd_H_encodeName_13 rfl 1 rfl rfl ?_
    refine fx_bipush (n := 16) (v := 10) dd_H_encodeName_14 (by decide) rfl ?_
    refine fx_iconst (n := 17) (v := 1) dd_H_encodeName_16 (by decide) rfl ?_
    obtain ⟨q4, h⟩ := h
    obtain ⟨q5, h⟩ := h
    replace h := h _ rfl
    refine fx_iast (n := 18) dd_H_encodeName_17 rfl q4.1 q4.2 q5 ?_
    refine fx_aload_n (n := 19) dd_H_encodeName_18 rfl 1 rfl rfl ?_
    refine fx_bipush (n := 21) (v := 11) dd_H_encodeName_19 (by decide) rfl ?_
    refine fx_iconst (n := 22) (v := 2) dd_H_encodeName_21 (by decide) rfl ?_
    refine fx_aload_n (n := 23) dd_H_encodeName_22 rfl 0 rfl rfl ?_
    obtain ⟨r7, hr7, h⟩ := h
    refine fx_getP (n := 26) dd_H_encodeName_23 fw_H_12 (by decide) rfl rfl q1.1 q1.2 hr7 ?_
    obtain ⟨q8, h⟩ := h
    refine fx_getI (n := 29) dd_H_encodeName_26 fw_H_52 (by decide) rfl rfl q8.1 q8.2 ?_
    refine fx_iadd (n := 30) dd_H_encodeName_29 rfl ?_
    obtain ⟨q9, h⟩ := h
    replace h := h _ rfl
    refine fx_iast (n := 31) dd_H_encodeName_30 rfl q4.1 q4.2 q9 ?_
    refine fx_aload_n (n := 32) dd_H_encodeName_31 rfl 0 rfl rfl ?_
    obtain ⟨r11, hr11, h⟩ := h
    refine fx_getP (n := 35) dd_H_encodeName_32 fw_H_12 (by decide) rfl rfl q1.1 q1.2 hr11 ?_
    obtain ⟨q12, h⟩ := h
    obtain ⟨r13, hr13, h⟩ := h
    refine fx_getP (n := 38) dd_H_encodeName_35 fw_H_92 (by decide) rfl rfl q12.1 q12.2 hr13 ?_
    refine fx_iconst (n := 39) (v := 0) dd_H_encodeName_38 (by decide) rfl ?_
    refine fx_aload_n (n := 40) dd_H_encodeName_39 rfl 1 rfl rfl ?_
    refine fx_bipush (n := 42) (v := 12) dd_H_encodeName_40 (by decide) rfl ?_
    refine fx_aload_n (n := 43) dd_H_encodeName_42 rfl 0 rfl rfl ?_
    obtain ⟨r14, hr14, h⟩ := h
    refine fx_getP (n := 46) dd_H_encodeName_43 fw_H_12 (by decide) rfl rfl q1.1 q1.2 hr14 ?_
    obtain ⟨q15, h⟩ := h
    refine fx_getI (n := 49) dd_H_encodeName_46 fw_H_52 (by decide) rfl rfl q15.1 q15.2 ?_
    obtain ⟨q17, h⟩ := h
    obtain ⟨q18, h⟩ := h
    replace h := h _ rfl
    refine fx_copy (n := 52) dd_H_encodeName_49 ⟨wd_143, wd_145, wd_144, wd_7⟩ rfl ⟨by decide, Nat.le_of_ble_eq_true rfl⟩ q17.1 q17.2 q4.1 q4.2 q18.1 q18.2.1 q18.2.2.1 q18.2.2.2.1 q18.2.2.2.2 ?_
    refine fx_bipush (n := 54) (v := 12) dd_H_encodeName_52 (by decide) rfl ?_
    refine fx_aload_n (n := 55) dd_H_encodeName_54 rfl 0 rfl rfl ?_
    obtain ⟨r19, hr19, h⟩ := h
    refine fx_getP (n := 58) dd_H_encodeName_55 fw_H_12 (by decide) rfl rfl q1.1 q1.2 hr19 ?_
    obtain ⟨q20, h⟩ := h
    refine fx_getI (n := 61) dd_H_encodeName_58 fw_H_52 (by decide) rfl rfl q20.1 q20.2 ?_
    refine fx_iadd (n := 62) dd_H_encodeName_61 rfl ?_
    exact fx_iret dd_H_encodeName_62 rfl h
  · replace h := h.2 hc
    refine fx_bipush (n := 12) (v := 10) dd_H_encodeName_10 (by decide) rfl ?_
    exact fx_iret dd_H_encodeName_12 rfl h
theorem bk_H_encodeData_0 {G : fx_G} {S : fx_S} {Q : fx_R → fx_S → Prop} (v0 : Nat) (v1 : Nat) (v2 : Int32) (h : fx_is S v0 3 ∧ (¬ (fx_I S v0 3) = 0 → (¬ (fx_I S v0 3) = 3 → ∃ r2, fx_P S v0 6 = some r2 ∧ fx_is S r2 100 ∧ fx_is S v1 100 ∧ fx_cpy S r2 v1 0 (v2 + 2) (fx_I S v0 4) ∧ ∀ S3, S3 = fx_setR S v1 (va_cpy (fx_I S r2) (fx_I S v1) ((0 : Int32).toNatClampNeg) ((v2 + 2).toNatClampNeg) ((fx_I S v0 4).toNatClampNeg)) → fx_Go G (2, 31) mm_H_encodeData 68 [(0, fx_r G v0), (1, fx_r G v1), (2, .int v2), (3, .int ((v2 + 2) + (fx_I S3 v0 4)))] [] S3 Q) ∧ ((fx_I S v0 3) = 3 → fx_Go G (0, 0) mm_V_putWord 0 [(0, fx_r G v1), (1, .int (v2 + 2)), (2, .int (fx_I S v0 4))] [] S (fx_qv (fun S7 => fx_is S7 v0 3 ∧ ∃ r9, fx_P S7 v0 7 = some r9 ∧ fx_is S7 r9 1 ∧ fx_Go G (1, 13) mm_Y_encode 0 [(0, fx_r G r9), (1, fx_r G v1), (2, .int ((v2 + 2) + 2))] [] S7 (fx_qi (fun x12 S10 => fx_Go G (2, 31) mm_H_encodeData 68 [(0, fx_r G v0), (1, fx_r G v1), (2, .int v2), (3, .int (x12 + 1))] [] S10 Q) Q)) Q))) ∧ ((fx_I S v0 3) = 0 → Q (.inl (some (.int v2))) S)) :
    fx_Go G (2, 31) mm_H_encodeData 0 [(0, fx_r G v0), (1, fx_r G v1), (2, .int v2)] [] S Q := by
  refine fx_aload_n (n := 1) dd_H_encodeData_0 rfl 0 rfl rfl ?_
  obtain ⟨q1, h⟩ := h
  refine fx_getI (n := 4) dd_H_encodeData_1 fw_H_36 (by decide) rfl rfl q1.1 q1.2 ?_
  refine fx_if_ne (n := 7) (tg := 9) dd_H_encodeData_4 rfl rfl (fun hc => ?_) (fun hc => ?_)
  · replace h := h.1 hc
    refine fx_iload_n (n := 10) dd_H_encodeData_9 rfl 2 rfl rfl ?_
    refine fx_iconst (n := 11) (v := 2) dd_H_encodeData_10 (by decide) rfl ?_
    refine fx_iadd (n := 12) dd_H_encodeData_11 rfl ?_
    refine fx_istore_n (n := 13) (L' := [(3, _), (0, _), (1, _), (2, _)]) dd_H_encodeData_12 rfl (by decide) rfl rfl ?_
    refine fx_aload_n (n := 14) dd_H_encodeData_13 rfl 1 rfl rfl ?_
    refine fx_getI (n := 17) dd_H_encodeData_14 fw_H_36 (by decide) rfl rfl q1.1 q1.2 ?_
    refine fx_iconst (n := 18) (v := 3) dd_H_encodeData_17 (by decide) rfl ?_
    refine fx_icmp_ne (n := 21) (tg := 47) dd_H_encodeData_18 rfl rfl (fun hc => ?_) (fun hc => ?_)
    · replace h := h.1 hc
      refine fx_aload_n (n := 48) dd_H_encodeData_47 rfl 1 rfl rfl ?_
      obtain ⟨r2, hr2, h⟩ := h
      refine fx_getP (n := 51) dd_H_encodeData_48 fw_H_18 (by decide) rfl rfl q1.1 q1.2 hr2 ?_
      refine fx_iconst (n := 52) (v := 0) dd_H_encodeData_51 (by decide) rfl ?_
      refine fx_aload_n (n := 53) dd_H_encodeData_52 rfl 2 rfl rfl ?_
      refine fx_iload_n (n := 54) dd_H_encodeData_53 rfl 0 rfl rfl ?_
      refine fx_aload_n (n := 55) dd_H_encodeData_54 rfl 1 rfl rfl ?_
      refine fx_getI (n := 58) dd_H_encodeData_55 fw_H_39 (by decide) rfl rfl q1.1 q1.2 ?_
      obtain ⟨q4, h⟩ := h
      obtain ⟨q5, h⟩ := h
      obtain ⟨q6, h⟩ := h
      replace h := h _ rfl
      refine fx_copy (n := 61) dd_H_encodeData_58 ⟨wd_143, wd_145, wd_144, wd_7⟩ rfl ⟨by decide, Nat.le_of_ble_eq_true rfl⟩ q4.1 q4.2 q5.1 q5.2 q6.1 q6.2.1 q6.2.2.1 q6.2.2.2.1 q6.2.2.2.2 ?_
      refine fx_iload_n (n := 62) dd_H_encodeData_61 rfl 0 rfl rfl ?_
      refine fx_aload_n (n := 63) dd_H_encodeData_62 rfl 1 rfl rfl ?_
      refine fx_getI (n := 66) dd_H_encodeData_63 fw_H_39 (by decide) rfl rfl q1.1 q1.2 ?_
      refine fx_iadd (n := 67) dd_H_encodeData_66 rfl ?_
      refine fx_istore_n (n := 68) (L' := [(3, _), (0, _), (1, _), (2, _)]) dd_H_encodeData_67 rfl (by decide) rfl rfl ?_
      refine fx_sub (L' := [(0, _), (1, _), (2, _), (3, _)]) [1, 2, 3, 0] rfl ?_
      exact h
    · replace h := h.2 hc
      refine fx_aload_n (n := 22) dd_H_encodeData_21 rfl 2 rfl rfl ?_
      refine fx_iload_n (n := 23) dd_H_encodeData_22 rfl 0 rfl rfl ?_
      refine fx_aload_n (n := 24) dd_H_encodeData_23 rfl 1 rfl rfl ?_
      refine fx_getI (n := 27) dd_H_encodeData_24 fw_H_39 (by decide) rfl rfl q1.1 q1.2 ?_
      refine fx_callSN (n := 30) (vs := [_, _, _]) dd_H_encodeData_27 mw_V_putWord ⟨wd_136, wd_137, wd_1⟩ rfl rfl ⟨Nat.le_of_ble_eq_true rfl, Nat.le_of_ble_eq_true rfl, Nat.le_of_ble_eq_true rfl, fx_nx, rfl⟩ rfl h (fx_qv_k fun S7 h => ?_) (fun _ _ h => h)
      refine fx_aload_n (n := 31) dd_H_encodeData_30 rfl 1 rfl rfl ?_
      obtain ⟨q8, h⟩ := h
      obtain ⟨r9, hr9, h⟩ := h
      refine fx_getP (n := 34) dd_H_encodeData_31 fw_H_25 (by decide) rfl rfl q8.1 q8.2 hr9 ?_
      refine fx_aload_n (n := 35) dd_H_encodeData_34 rfl 2 rfl rfl ?_
      refine fx_iload_n (n := 36) dd_H_encodeData_35 rfl 0 rfl rfl ?_
      refine fx_iconst (n := 37) (v := 2) dd_H_encodeData_36 (by decide) rfl ?_
      refine fx_iadd (n := 38) dd_H_encodeData_37 rfl ?_
      obtain ⟨q11, h⟩ := h
      refine fx_callV (n := 41) (vs := [_, _]) dd_H_encodeData_38 mw_Y_encode ⟨wd_150, wd_151, wd_152⟩ rfl (by decide) q11.1 q11.2 rfl rfl ⟨Nat.le_of_ble_eq_true rfl, Nat.le_of_ble_eq_true rfl, Nat.le_of_ble_eq_true rfl, fx_nx, rfl⟩ rfl h (fx_qi_k fun x12 S10 h => ?_) (fun _ _ h => h)
      refine fx_iconst (n := 42) (v := 1) dd_H_encodeData_41 (by decide) rfl ?_
      refine fx_iadd (n := 43) dd_H_encodeData_42 rfl ?_
      refine fx_istore_n (n := 44) (L' := [(3, _), (0, _), (1, _), (2, _)]) dd_H_encodeData_43 rfl (by decide) rfl rfl ?_
      refine fx_goto (n := 68) dd_H_encodeData_44 rfl ?_
      refine fx_sub (L' := [(0, _), (1, _), (2, _), (3, _)]) [1, 2, 3, 0] rfl ?_
      exact h
  · replace h := h.2 hc
    refine fx_iload_n (n := 8) dd_H_encodeData_7 rfl 2 rfl rfl ?_
    exact fx_iret dd_H_encodeData_8 rfl h
theorem bk_H_encodeData_68 {G : fx_G} {S : fx_S} {Q : fx_R → fx_S → Prop} (v0 : Nat) (v1 : Nat) (v2 : Int32) (v3 : Int32) (h : fx_is S v0 3 ∧ fx_is S v1 100 ∧ vp_in v2 (fx_ln S v1) ∧ ∀ S4, S4 = fx_setI S v1 (v2.toNatClampNeg) (fx_I S v0 3) → vp_in (v2 + 1) (fx_ln S4 v1) ∧ ∀ S6, S6 = fx_setI S4 v1 ((v2 + 1).toNatClampNeg) (v3 - v2) → Q (.inl (some (.int v3))) S6) :
    fx_Go G (2, 31) mm_H_encodeData 68 [(0, fx_r G v0), (1, fx_r G v1), (2, .int v2), (3, .int v3)] [] S Q := by
  refine fx_aload_n (n := 69) dd_H_encodeData_68 rfl 1 rfl rfl ?_
  refine fx_iload_n (n := 70) dd_H_encodeData_69 rfl 2 rfl rfl ?_
  refine fx_aload_n (n := 71) dd_H_encodeData_70 rfl 0 rfl rfl ?_
  obtain ⟨q1, h⟩ := h
  refine fx_getI (n := 74) dd_H_encodeData_71 fw_H_36 (by decide) rfl rfl q1.1 q1.2 ?_
  obtain ⟨q2, h⟩ := h
  obtain ⟨q3, h⟩ := h
  replace h := h _ rfl
  refine fx_iast (n := 75) dd_H_encodeData_74 rfl q2.1 q2.2 q3 ?_
  refine fx_aload_n (n := 76) dd_H_encodeData_75 rfl 1 rfl rfl ?_
  refine fx_iload_n (n := 77) dd_H_encodeData_76 rfl 2 rfl rfl ?_
  refine fx_iconst (n := 78) (v := 1) dd_H_encodeData_77 (by decide) rfl ?_
  refine fx_iadd (n := 79) dd_H_encodeData_78 rfl ?_
  refine fx_iload_n (n := 80) dd_H_encodeData_79 rfl 3 rfl rfl ?_
  refine fx_iload_n (n := 81) dd_H_encodeData_80 rfl 2 rfl rfl ?_
  refine fx_isub (n := 82) dd_H_encodeData_81 rfl ?_
  obtain ⟨q5, h⟩ := h
  replace h := h _ rfl
  refine fx_iast (n := 83) dd_H_encodeData_82 rfl q2.1 q2.2 q5 ?_
  refine fx_iload_n (n := 84) dd_H_encodeData_83 rfl 3 rfl rfl ?_
  exact fx_iret dd_H_encodeData_84 rfl h
theorem bk_H_setAside_0 {G : fx_G} {S : fx_S} {Q : fx_R → fx_S → Prop} (v0 : Nat) (v1 : Nat) (v2 : Int32) (v3 : Int32) (h : fx_Go G (0, 0) mm_V_wordAt 0 [(0, fx_r G v1), (1, .int v3)] [] S (fx_qi (fun x2 S1 => fx_Go G (0, 0) mm_V_putWord 0 [(0, fx_r G v1), (1, .int v2), (2, .int x2)] [] S1 (fx_qv (fun S3 => fx_is S3 v0 3 ∧ fx_Go G (0, 0) mm_V_putWord 0 [(0, fx_r G v1), (1, .int v3), (2, .int (fx_I S3 v0 2))] [] S3 (fx_qv (fun S5 => Q (.inl none) S5) Q)) Q)) Q)) :
    fx_Go G (1, 15) mm_H_setAside 0 [(0, fx_r G v0), (1, fx_r G v1), (2, .int v2), (3, .int v3)] [] S Q := by
  refine fx_aload_n (n := 1) dd_H_setAside_0 rfl 1 rfl rfl ?_
  refine fx_iload_n (n := 2) dd_H_setAside_1 rfl 2 rfl rfl ?_
  refine fx_aload_n (n := 3) dd_H_setAside_2 rfl 1 rfl rfl ?_
  refine fx_iload_n (n := 4) dd_H_setAside_3 rfl 3 rfl rfl ?_
  refine fx_callSN (n := 7) (vs := [_, _]) dd_H_setAside_4 mw_V_wordAt ⟨wd_162, wd_163, wd_1⟩ rfl rfl ⟨Nat.le_of_ble_eq_true rfl, Nat.le_of_ble_eq_true rfl, Nat.le_of_ble_eq_true rfl, fx_nx, rfl⟩ rfl h (fx_qi_k fun x2 S1 h => ?_) (fun _ _ h => h)
  refine fx_callSN (n := 10) (vs := [_, _, _]) dd_H_setAside_7 mw_V_putWord ⟨wd_136, wd_137, wd_1⟩ rfl rfl ⟨Nat.le_of_ble_eq_true rfl, Nat.le_of_ble_eq_true rfl, Nat.le_of_ble_eq_true rfl, fx_nx, rfl⟩ rfl h (fx_qv_k fun S3 h => ?_) (fun _ _ h => h)
  refine fx_aload_n (n := 11) dd_H_setAside_10 rfl 1 rfl rfl ?_
  refine fx_iload_n (n := 12) dd_H_setAside_11 rfl 3 rfl rfl ?_
  refine fx_aload_n (n := 13) dd_H_setAside_12 rfl 0 rfl rfl ?_
  obtain ⟨q4, h⟩ := h
  refine fx_getI (n := 16) dd_H_setAside_13 fw_H_48 (by decide) rfl rfl q4.1 q4.2 ?_
  refine fx_callSN (n := 19) (vs := [_, _, _]) dd_H_setAside_16 mw_V_putWord ⟨wd_136, wd_137, wd_1⟩ rfl rfl ⟨Nat.le_of_ble_eq_true rfl, Nat.le_of_ble_eq_true rfl, Nat.le_of_ble_eq_true rfl, fx_nx, rfl⟩ rfl h (fx_qv_k fun S5 h => ?_) (fun _ _ h => h)
  exact fx_vret dd_H_setAside_19 rfl h
theorem bk_H_decode_0 {G : fx_G} {S : fx_S} {Q : fx_R → fx_S → Prop} (v0 : Nat) (v1 : Nat) (h : fx_is S v1 100 ∧ vp_in 0 (fx_ln S v1) ∧ fx_Go G (0, 0) mm_V_wordAt 0 [(0, fx_r G v1), (1, .int 2)] [] S (fx_qi (fun x4 S3 => fx_is S3 v0 3 ∧ ∀ S6, S6 = fx_setI S3 v0 2 x4 → fx_Go G (1, 13) mm_H_isTorn 0 [(0, fx_r G v0), (1, fx_r G v1)] [] S6 (fx_qi (fun x8 S7 => (¬ x8 = 0 → fx_is S7 v0 3 ∧ fx_Go G (1, 12) mm_H_become 0 [(0, fx_r G v0), (1, .int 0), (2, .int 0)] [] S7 (fx_qv (fun S9 => Q (.inl none) S9) Q)) ∧ (x8 = 0 → ((fx_I S v1 ((0 : Int32).toNatClampNeg)) = 1 → fx_Go G (4, 65) mm_H_decode 38 [(0, fx_r G v0), (1, fx_r G v1), (2, .int (fx_I S v1 ((0 : Int32).toNatClampNeg)))] [] S7 Q) ∧ (¬ (fx_I S v1 ((0 : Int32).toNatClampNeg)) = 1 → ((fx_I S v1 ((0 : Int32).toNatClampNeg)) = 2 → fx_Go G (4, 65) mm_H_decode 38 [(0, fx_r G v0), (1, fx_r G v1), (2, .int (fx_I S v1 ((0 : Int32).toNatClampNeg)))] [] S7 Q) ∧ (¬ (fx_I S v1 ((0 : Int32).toNatClampNeg)) = 2 → fx_is S7 v0 3 ∧ fx_Go G (1, 12) mm_H_become 0 [(0, fx_r G v0), (1, .int 0), (2, .int 0)] [] S7 (fx_qv (fun S11 => Q (.inl none) S11) Q))))) Q)) Q)) :
    fx_Go G (4, 65) mm_H_decode 0 [(0, fx_r G v0), (1, fx_r G v1)] [] S Q := by
  refine fx_aload_n (n := 1) dd_H_decode_0 rfl 1 rfl rfl ?_
  refine fx_iconst (n := 2) (v := 0) dd_H_decode_1 (by decide) rfl ?_
  obtain ⟨q1, h⟩ := h
  obtain ⟨q2, h⟩ := h
  refine fx_iald (n := 3) dd_H_decode_2 rfl q1.1 q1.2 q2 ?_
  refine fx_istore_n (n := 4) (L' := [(2, _), (0, _), (1, _)]) dd_H_decode_3 rfl (by decide) rfl rfl ?_
  refine fx_aload_n (n := 5) dd_H_decode_4 rfl 1 rfl rfl ?_
  refine fx_aload_n (n := 6) dd_H_decode_5 rfl 2 rfl rfl ?_
  refine fx_iconst (n := 7) (v := 2) dd_H_decode_6 (by decide) rfl ?_
  refine fx_callSN (n := 10) (vs := [_, _]) dd_H_decode_7 mw_V_wordAt ⟨wd_162, wd_163, wd_1⟩ rfl rfl ⟨Nat.le_of_ble_eq_true rfl, Nat.le_of_ble_eq_true rfl, Nat.le_of_ble_eq_true rfl, fx_nx, rfl⟩ rfl h (fx_qi_k fun x4 S3 h => ?_) (fun _ _ h => h)
  obtain ⟨q5, h⟩ := h
  replace h := h _ rfl
  refine fx_putI (n := 13) dd_H_decode_10 fw_H_48 (by decide) rfl rfl rfl rfl q5.1 q5.2 ?_
  refine fx_aload_n (n := 14) dd_H_decode_13 rfl 1 rfl rfl ?_
  refine fx_aload_n (n := 15) dd_H_decode_14 rfl 2 rfl rfl ?_
  refine fx_callV (n := 18) (vs := [_]) dd_H_decode_15 mw_H_isTorn ⟨wd_564, wd_566, wp_21⟩ rfl (by decide) q5.1 q5.2 rfl rfl ⟨Nat.le_of_ble_eq_true rfl, Nat.le_of_ble_eq_true rfl, Nat.le_of_ble_eq_true rfl, fx_nx, rfl⟩ rfl h (fx_qi_k fun x8 S7 h => ?_) (fun _ _ h => h)
  refine fx_if_ne (n := 21) (tg := 31) dd_H_decode_18 rfl rfl (fun hc => ?_) (fun hc => ?_)
  · replace h := h.1 hc
    refine fx_aload_n (n := 32) dd_H_decode_31 rfl 1 rfl rfl ?_
    refine fx_iconst (n := 33) (v := 0) dd_H_decode_32 (by decide) rfl ?_
    refine fx_iconst (n := 34) (v := 0) dd_H_decode_33 (by decide) rfl ?_
    obtain ⟨q10, h⟩ := h
    refine fx_callV (n := 37) (vs := [_, _]) dd_H_decode_34 mw_H_become ⟨wd_568, wd_117, wd_118⟩ rfl (by decide) q10.1 q10.2 rfl rfl ⟨Nat.le_of_ble_eq_true rfl, Nat.le_of_ble_eq_true rfl, Nat.le_of_ble_eq_true rfl, fx_nx, rfl⟩ rfl h (fx_qv_k fun S9 h => ?_) (fun _ _ h => h)
    exact fx_vret dd_H_decode_37 rfl h
  · replace h := h.2 hc
    refine fx_iload_n (n := 22) dd_H_decode_21 rfl 0 rfl rfl ?_
    refine fx_iconst (n := 23) (v := 1) dd_H_decode_22 (by decide) rfl ?_
    refine fx_icmp_eq (n := 26) (tg := 38) dd_H_decode_23 rfl rfl (fun hc => ?_) (fun hc => ?_)
    · replace h := h.1 hc
      refine fx_sub (L' := [(0, _), (1, _), (2, _)]) [1, 2, 0] rfl ?_
      exact h
    · replace h := h.2 hc
      refine fx_iload_n (n := 27) dd_H_decode_26 rfl 0 rfl rfl ?_
      refine fx_iconst (n := 28) (v := 2) dd_H_decode_27 (by decide) rfl ?_
      refine fx_icmp_eq (n := 31) (tg := 38) dd_H_decode_28 rfl rfl (fun hc => ?_) (fun hc => ?_)
      · replace h := h.1 hc
        refine fx_sub (L' := [(0, _), (1, _), (2, _)]) [1, 2, 0] rfl ?_
        exact h
      · replace h := h.2 hc
        refine fx_aload_n (n := 32) dd_H_decode_31 rfl 1 rfl rfl ?_
        refine fx_iconst (n := 33) (v := 0) dd_H_decode_32 (by decide) rfl ?_
        refine fx_iconst (n := 34) (v := 0) dd_H_decode_33 (by decide) rfl ?_
        obtain ⟨q12, h⟩ := h
        refine fx_callV (n := 37) (vs := [_, _]) dd_H_decode_34 mw_H_become ⟨wd_568, wd_117, wd_118⟩ rfl (by decide) q12.1 q12.2 rfl rfl ⟨Nat.le_of_ble_eq_true rfl, Nat.le_of_ble_eq_true rfl, Nat.le_of_ble_eq_true rfl, fx_nx, rfl⟩ rfl h (fx_qv_k fun S11 h => ?_) (fun _ _ h => h)
        exact fx_vret dd_H_decode_37 rfl h
theorem bk_H_decode_38 {G : fx_G} {S : fx_S} {Q : fx_R → fx_S → Prop} (v0 : Nat) (v1 : Nat) (v2 : Int32) (h : fx_Go G (0, 0) mm_V_wordAt 0 [(0, fx_r G v1), (1, .int 4)] [] S (fx_qi (fun x2 S1 => fx_Go G (0, 0) mm_V_putWord 0 [(0, fx_r G v1), (1, .int 30), (2, .int x2)] [] S1 (fx_qv (fun S3 => fx_Go G (0, 0) mm_V_wordAt 0 [(0, fx_r G v1), (1, .int 6)] [] S3 (fx_qi (fun x5 S4 => fx_Go G (0, 0) mm_V_putWord 0 [(0, fx_r G v1), (1, .int 62), (2, .int x5)] [] S4 (fx_qv (fun S6 => fx_is S6 v1 100 ∧ vp_in 1 (fx_ln S6 v1) ∧ fx_is S6 v0 3 ∧ fx_Go G (1, 12) mm_H_become 0 [(0, fx_r G v0), (1, .int v2), (2, .int (fx_I S6 v1 ((1 : Int32).toNatClampNeg)))] [] S6 (fx_qv (fun S9 => fx_is S9 v0 3 ∧ fx_Go G (3, 49) mm_H_decodeAttributes 0 [(0, fx_r G v0), (1, fx_r G v1)] [] S9 (fx_qv (fun S11 => Q (.inl none) S11) Q)) Q)) Q)) Q)) Q)) Q)) :
    fx_Go G (4, 65) mm_H_decode 38 [(0, fx_r G v0), (1, fx_r G v1), (2, .int v2)] [] S Q := by
  refine fx_aload_n (n := 39) dd_H_decode_38 rfl 1 rfl rfl ?_
  refine fx_bipush (n := 41) (v := 30) dd_H_decode_39 (by decide) rfl ?_
  refine fx_aload_n (n := 42) dd_H_decode_41 rfl 1 rfl rfl ?_
  refine fx_iconst (n := 43) (v := 4) dd_H_decode_42 (by decide) rfl ?_
  refine fx_callSN (n := 46) (vs := [_, _]) dd_H_decode_43 mw_V_wordAt ⟨wd_162, wd_163, wd_1⟩ rfl rfl ⟨Nat.le_of_ble_eq_true rfl, Nat.le_of_ble_eq_true rfl, Nat.le_of_ble_eq_true rfl, fx_nx, rfl⟩ rfl h (fx_qi_k fun x2 S1 h => ?_) (fun _ _ h => h)
  refine fx_callSN (n := 49) (vs := [_, _, _]) dd_H_decode_46 mw_V_putWord ⟨wd_136, wd_137, wd_1⟩ rfl rfl ⟨Nat.le_of_ble_eq_true rfl, Nat.le_of_ble_eq_true rfl, Nat.le_of_ble_eq_true rfl, fx_nx, rfl⟩ rfl h (fx_qv_k fun S3 h => ?_) (fun _ _ h => h)
  refine fx_aload_n (n := 50) dd_H_decode_49 rfl 1 rfl rfl ?_
  refine fx_bipush (n := 52) (v := 62) dd_H_decode_50 (by decide) rfl ?_
  refine fx_aload_n (n := 53) dd_H_decode_52 rfl 1 rfl rfl ?_
  refine fx_bipush (n := 55) (v := 6) dd_H_decode_53 (by decide) rfl ?_
  refine fx_callSN (n := 58) (vs := [_, _]) dd_H_decode_55 mw_V_wordAt ⟨wd_162, wd_163, wd_1⟩ rfl rfl ⟨Nat.le_of_ble_eq_true rfl, Nat.le_of_ble_eq_true rfl, Nat.le_of_ble_eq_true rfl, fx_nx, rfl⟩ rfl h (fx_qi_k fun x5 S4 h => ?_) (fun _ _ h => h)
  refine fx_callSN (n := 61) (vs := [_, _, _]) dd_H_decode_58 mw_V_putWord ⟨wd_136, wd_137, wd_1⟩ rfl rfl ⟨Nat.le_of_ble_eq_true rfl, Nat.le_of_ble_eq_true rfl, Nat.le_of_ble_eq_true rfl, fx_nx, rfl⟩ rfl h (fx_qv_k fun S6 h => ?_) (fun _ _ h => h)
  refine fx_aload_n (n := 62) dd_H_decode_61 rfl 0 rfl rfl ?_
  refine fx_iload_n (n := 63) dd_H_decode_62 rfl 2 rfl rfl ?_
  refine fx_aload_n (n := 64) dd_H_decode_63 rfl 1 rfl rfl ?_
  refine fx_iconst (n := 65) (v := 1) dd_H_decode_64 (by decide) rfl ?_
  obtain ⟨q7, h⟩ := h
  obtain ⟨q8, h⟩ := h
  refine fx_iald (n := 66) dd_H_decode_65 rfl q7.1 q7.2 q8 ?_
  obtain ⟨q10, h⟩ := h
  refine fx_callV (n := 69) (vs := [_, _]) dd_H_decode_66 mw_H_become ⟨wd_568, wd_117, wd_118⟩ rfl (by decide) q10.1 q10.2 rfl rfl ⟨Nat.le_of_ble_eq_true rfl, Nat.le_of_ble_eq_true rfl, Nat.le_of_ble_eq_true rfl, fx_nx, rfl⟩ rfl h (fx_qv_k fun S9 h => ?_) (fun _ _ h => h)
  refine fx_aload_n (n := 70) dd_H_decode_69 rfl 0 rfl rfl ?_
  refine fx_aload_n (n := 71) dd_H_decode_70 rfl 1 rfl rfl ?_
  obtain ⟨q12, h⟩ := h
  refine fx_callV (n := 74) (vs := [_]) dd_H_decode_71 mw_H_decodeAttributes ⟨wd_569, wd_571, wp_22⟩ rfl (by decide) q12.1 q12.2 rfl rfl ⟨Nat.le_of_ble_eq_true rfl, Nat.le_of_ble_eq_true rfl, Nat.le_of_ble_eq_true rfl, fx_nx, rfl⟩ rfl h (fx_qv_k fun S11 h => ?_) (fun _ _ h => h)
  exact fx_vret dd_H_decode_74 rfl h
theorem bk_H_isTorn_0 {G : fx_G} {S : fx_S} {Q : fx_R → fx_S → Prop} (v0 : Nat) (v1 : Nat) (h : fx_Go G (0, 0) mm_V_wordAt 0 [(0, fx_r G v1), (1, .int 30)] [] S (fx_qi (fun x2 S1 => fx_is S1 v0 3 ∧ (¬ x2 = (fx_I S1 v0 2) → Q (.inl (some (.int 1))) S1) ∧ (x2 = (fx_I S1 v0 2) → fx_Go G (0, 0) mm_V_wordAt 0 [(0, fx_r G v1), (1, .int 62)] [] S1 (fx_qi (fun x5 S4 => fx_is S4 v0 3 ∧ (x5 = (fx_I S4 v0 2) → Q (.inl (some (.int 0))) S4) ∧ (¬ x5 = (fx_I S4 v0 2) → Q (.inl (some (.int 1))) S4)) Q))) Q)) :
    fx_Go G (1, 13) mm_H_isTorn 0 [(0, fx_r G v0), (1, fx_r G v1)] [] S Q := by
  refine fx_aload_n (n := 1) dd_H_isTorn_0 rfl 1 rfl rfl ?_
  refine fx_bipush (n := 3) (v := 30) dd_H_isTorn_1 (by decide) rfl ?_
  refine fx_callSN (n := 6) (vs := [_, _]) dd_H_isTorn_3 mw_V_wordAt ⟨wd_162, wd_163, wd_1⟩ rfl rfl ⟨Nat.le_of_ble_eq_true rfl, Nat.le_of_ble_eq_true rfl, Nat.le_of_ble_eq_true rfl, fx_nx, rfl⟩ rfl h (fx_qi_k fun x2 S1 h => ?_) (fun _ _ h => h)
  refine fx_aload_n (n := 7) dd_H_isTorn_6 rfl 0 rfl rfl ?_
  obtain ⟨q3, h⟩ := h
  refine fx_getI (n := 10) dd_H_isTorn_7 fw_H_48 (by decide) rfl rfl q3.1 q3.2 ?_
  refine fx_icmp_ne (n := 13) (tg := 26) dd_H_isTorn_10 rfl rfl (fun hc => ?_) (fun hc => ?_)
  · replace h := h.1 hc
    refine fx_iconst (n := 27) (v := 1) dd_H_isTorn_26 (by decide) rfl ?_
    refine fx_goto (n := 31) dd_H_isTorn_27 rfl ?_
    exact fx_zret dd_H_isTorn_31 rfl rfl h
  · replace h := h.2 hc
    refine fx_aload_n (n := 14) dd_H_isTorn_13 rfl 1 rfl rfl ?_
    refine fx_bipush (n := 16) (v := 62) dd_H_isTorn_14 (by decide) rfl ?_
    refine fx_callSN (n := 19) (vs := [_, _]) dd_H_isTorn_16 mw_V_wordAt ⟨wd_162, wd_163, wd_1⟩ rfl rfl ⟨Nat.le_of_ble_eq_true rfl, Nat.le_of_ble_eq_true rfl, Nat.le_of_ble_eq_true rfl, fx_nx, rfl⟩ rfl h (fx_qi_k fun x5 S4 h => ?_) (fun _ _ h => h)
    refine fx_aload_n (n := 20) dd_H_isTorn_19 rfl 0 rfl rfl ?_
    obtain ⟨q6, h⟩ := h
    refine fx_getI (n := 23) dd_H_isTorn_20 fw_H_48 (by decide) rfl rfl q6.1 q6.2 ?_
    refine fx_icmp_eq (n := 26) (tg := 30) dd_H_isTorn_23 rfl rfl (fun hc => ?_) (fun hc => ?_)
    · replace h := h.1 hc
      refine fx_iconst (n := 31) (v := 0) dd_H_isTorn_30 (by decide) rfl ?_
      exact fx_zret dd_H_isTorn_31 rfl rfl h
    · replace h := h.2 hc
      refine fx_iconst (n := 27) (v := 1) dd_H_isTorn_26 (by decide) rfl ?_
      refine fx_goto (n := 31) dd_H_isTorn_27 rfl ?_
      exact fx_zret dd_H_isTorn_31 rfl rfl h
theorem bk_H_decodeAttributes_0 {G : fx_G} {S : fx_S} {Q : fx_R → fx_S → Prop} (v0 : Nat) (v1 : Nat) (h : fx_is S v1 100 ∧ vp_in 8 (fx_ln S v1) ∧ fx_Go G (3, 49) mm_H_decodeAttributes 16 [(0, fx_r G v0), (1, fx_r G v1), (2, .int (if 64 < (10 + (fx_I S v1 ((8 : Int32).toNatClampNeg))) then 64 else (10 + (fx_I S v1 ((8 : Int32).toNatClampNeg))))), (3, .int 10)] [] S Q) :
    fx_Go G (3, 49) mm_H_decodeAttributes 0 [(0, fx_r G v0), (1, fx_r G v1)] [] S Q := by
  refine fx_bipush (n := 2) (v := 10) dd_H_decodeAttributes_0 (by decide) rfl ?_
  refine fx_aload_n (n := 3) dd_H_decodeAttributes_2 rfl 1 rfl rfl ?_
  refine fx_bipush (n := 5) (v := 8) dd_H_decodeAttributes_3 (by decide) rfl ?_
  obtain ⟨q1, h⟩ := h
  obtain ⟨q2, h⟩ := h
  refine fx_iald (n := 6) dd_H_decodeAttributes_5 rfl q1.1 q1.2 q2 ?_
  refine fx_iadd (n := 7) dd_H_decodeAttributes_6 rfl ?_
  refine fx_bipush (n := 9) (v := 64) dd_H_decodeAttributes_7 (by decide) rfl ?_
  refine fx_mmin (n := 12) dd_H_decodeAttributes_9 ⟨wd_573, wd_236, wd_13, wd_237⟩ rfl ⟨by decide, Nat.le_of_ble_eq_true rfl⟩ ?_
  refine fx_istore_n (n := 13) (L' := [(2, _), (0, _), (1, _)]) dd_H_decodeAttributes_12 rfl (by decide) rfl rfl ?_
  refine fx_bipush (n := 15) (v := 10) dd_H_decodeAttributes_13 (by decide) rfl ?_
  refine fx_istore_n (n := 16) (L' := [(3, _), (2, _), (0, _), (1, _)]) dd_H_decodeAttributes_15 rfl (by decide) rfl rfl ?_
  refine fx_sub (L' := [(0, _), (1, _), (2, _), (3, _)]) [2, 3, 1, 0] rfl ?_
  exact h
theorem bk_H_decodeAttributes_16 {G : fx_G} {S : fx_S} {Q : fx_R → fx_S → Prop} (v0 : Nat) (v1 : Nat) (v2 : Int32) (v3 : Int32) (h : (v2 < (v3 + 2) → Q (.inl none) S) ∧ (¬ v2 < (v3 + 2) → fx_is S v1 100 ∧ vp_in (v3 + 1) (fx_ln S v1) ∧ fx_is S v0 3 ∧ fx_Go G (2, 32) mm_H_decodeAttribute 0 [(0, fx_r G v0), (1, fx_r G v1), (2, .int v3), (3, .int (if v2 < (v3 + (if (fx_I S v1 ((v3 + 1).toNatClampNeg)) < 2 then 2 else (fx_I S v1 ((v3 + 1).toNatClampNeg)))) then v2 else (v3 + (if (fx_I S v1 ((v3 + 1).toNatClampNeg)) < 2 then 2 else (fx_I S v1 ((v3 + 1).toNatClampNeg))))))] [] S (fx_qv (fun S3 => fx_Go G (3, 49) mm_H_decodeAttributes 16 [(0, fx_r G v0), (1, fx_r G v1), (2, .int v2), (3, .int (v3 + (if (fx_I S v1 ((v3 + 1).toNatClampNeg)) < 2 then 2 else (fx_I S v1 ((v3 + 1).toNatClampNeg)))))] [] S3 Q) Q))) :
    fx_Go G (3, 49) mm_H_decodeAttributes 16 [(0, fx_r G v0), (1, fx_r G v1), (2, .int v2), (3, .int v3)] [] S Q := by
  refine fx_iload_n (n := 17) dd_H_decodeAttributes_16 rfl 3 rfl rfl ?_
  refine fx_iconst (n := 18) (v := 2) dd_H_decodeAttributes_17 (by decide) rfl ?_
  refine fx_iadd (n := 19) dd_H_decodeAttributes_18 rfl ?_
  refine fx_iload_n (n := 20) dd_H_decodeAttributes_19 rfl 2 rfl rfl ?_
  refine fx_icmp_gt (n := 23) (tg := 54) dd_H_decodeAttributes_20 rfl rfl (fun hc => ?_) (fun hc => ?_)
  · replace h := h.1 hc
    exact fx_vret dd_H_decodeAttributes_54 rfl h
  · replace h := h.2 hc
    refine fx_iload_n (n := 24) dd_H_decodeAttributes_23 rfl 3 rfl rfl ?_
    refine fx_aload_n (n := 25) dd_H_decodeAttributes_24 rfl 1 rfl rfl ?_
    refine fx_iload_n (n := 26) dd_H_decodeAttributes_25 rfl 3 rfl rfl ?_
    refine fx_iconst (n := 27) (v := 1) dd_H_decodeAttributes_26 (by decide) rfl ?_
    refine fx_iadd (n := 28) dd_H_decodeAttributes_27 rfl ?_
    obtain ⟨q1, h⟩ := h
    obtain ⟨q2, h⟩ := h
    refine fx_iald (n := 29) dd_H_decodeAttributes_28 rfl q1.1 q1.2 q2 ?_
    refine fx_iconst (n := 30) (v := 2) dd_H_decodeAttributes_29 (by decide) rfl ?_
    refine fx_mmax (n := 33) dd_H_decodeAttributes_30 ⟨wd_574, wd_458, wd_13, wd_459⟩ rfl ⟨by decide, Nat.le_of_ble_eq_true rfl⟩ ?_
    refine fx_iadd (n := 34) dd_H_decodeAttributes_33 rfl ?_
    refine fx_istore (n := 36) (L' := [(4, _), (0, _), (1, _), (2, _), (3, _)]) dd_H_decodeAttributes_34 (by decide) rfl rfl ?_
    refine fx_aload_n (n := 37) dd_H_decodeAttributes_36 rfl 1 rfl rfl ?_
    refine fx_aload_n (n := 38) dd_H_decodeAttributes_37 rfl 2 rfl rfl ?_
    refine fx_iload_n (n := 39) dd_H_decodeAttributes_38 rfl 4 rfl rfl ?_
    refine fx_iload (n := 41) dd_H_decodeAttributes_39 0 rfl rfl ?_
    refine fx_iload_n (n := 42) dd_H_decodeAttributes_41 rfl 3 rfl rfl ?_
    refine fx_mmin (n := 45) dd_H_decodeAttributes_42 ⟨wd_573, wd_236, wd_13, wd_237⟩ rfl ⟨by decide, Nat.le_of_ble_eq_true rfl⟩ ?_
    obtain ⟨q4, h⟩ := h
    refine fx_callV (n := 48) (vs := [_, _, _]) dd_H_decodeAttributes_45 mw_H_decodeAttribute ⟨wd_575, wd_577, wp_23⟩ rfl (by decide) q4.1 q4.2 rfl rfl ⟨Nat.le_of_ble_eq_true rfl, Nat.le_of_ble_eq_true rfl, Nat.le_of_ble_eq_true rfl, fx_nx, rfl⟩ rfl h (fx_qv_k fun S3 h => ?_) (fun _ _ h => h)
    refine fx_iload (n := 50) dd_H_decodeAttributes_48 0 rfl rfl ?_
    refine fx_istore_n (n := 51) (L' := [(3, _), (4, _), (0, _), (1, _), (2, _)]) dd_H_decodeAttributes_50 rfl (by decide) rfl rfl ?_
    refine fx_goto (n := 16) dd_H_decodeAttributes_51 rfl ?_
    refine fx_sub (L' := [(0, _), (1, _), (2, _), (3, _)]) [2, 3, 4, 0] rfl ?_
    exact h
theorem bk_H_decodeAttribute_0 {G : fx_G} {S : fx_S} {Q : fx_R → fx_S → Prop} (v0 : Nat) (v1 : Nat) (v2 : Int32) (v3 : Int32) (h : fx_is S v1 100 ∧ vp_in v2 (fx_ln S v1) ∧ (¬ (fx_I S v1 (v2.toNatClampNeg)) = 1 → vp_in v2 (fx_ln S v1) ∧ ((fx_I S v1 (v2.toNatClampNeg)) = 3 → (v3 < ((v2 + 2) + 2) → Q (.inl none) S) ∧ (¬ v3 < ((v2 + 2) + 2) → fx_is S v0 3 ∧ ∀ S5, S5 = fx_setI S v0 3 3 → fx_Go G (0, 0) mm_V_wordAt 0 [(0, fx_r G v1), (1, .int (v2 + 2))] [] S5 (fx_qi (fun x7 S6 => fx_is S6 v0 3 ∧ ∀ S9, S9 = fx_setI S6 v0 4 x7 → ∃ r10, fx_P S9 v0 7 = some r10 ∧ fx_is S9 r10 1 ∧ fx_Go G (1, 15) mm_Y_decode 0 [(0, fx_r G r10), (1, fx_r G v1), (2, .int ((v2 + 2) + 2)), (3, .int v3)] [] S9 (fx_qv (fun S11 => Q (.inl none) S11) Q)) Q))) ∧ (¬ (fx_I S v1 (v2.toNatClampNeg)) = 3 → vp_in v2 (fx_ln S v1) ∧ fx_is S v0 3 ∧ ∀ S15, S15 = fx_setI S v0 3 (fx_I S v1 (v2.toNatClampNeg)) → ∀ S16, S16 = fx_setI S15 v0 4 (v3 - (v2 + 2)) → ∃ r17, fx_P S16 v0 6 = some r17 ∧ fx_is S16 r17 100 ∧ fx_cpy S16 v1 r17 (v2 + 2) 0 (fx_I S16 v0 4) ∧ ∀ S18, S18 = fx_setR S16 r17 (va_cpy (fx_I S16 v1) (fx_I S16 r17) ((v2 + 2).toNatClampNeg) ((0 : Int32).toNatClampNeg) ((fx_I S16 v0 4).toNatClampNeg)) → Q (.inl none) S18)) ∧ ((fx_I S v1 (v2.toNatClampNeg)) = 1 → fx_Go G (2, 32) mm_H_decodeAttribute 16 [(0, fx_r G v0), (1, fx_r G v1), (3, .int v3), (5, .int (v2 + 2))] [] S Q)) :
    fx_Go G (2, 32) mm_H_decodeAttribute 0 [(0, fx_r G v0), (1, fx_r G v1), (2, .int v2), (3, .int v3)] [] S Q := by
  refine fx_iload_n (n := 1) dd_H_decodeAttribute_0 rfl 2 rfl rfl ?_
  refine fx_iconst (n := 2) (v := 2) dd_H_decodeAttribute_1 (by decide) rfl ?_
  refine fx_iadd (n := 3) dd_H_decodeAttribute_2 rfl ?_
  refine fx_istore (n := 5) (L' := [(4, _), (0, _), (1, _), (2, _), (3, _)]) dd_H_decodeAttribute_3 (by decide) rfl rfl ?_
  refine fx_aload_n (n := 6) dd_H_decodeAttribute_5 rfl 2 rfl rfl ?_
  refine fx_iload_n (n := 7) dd_H_decodeAttribute_6 rfl 3 rfl rfl ?_
  obtain ⟨q1, h⟩ := h
  obtain ⟨q2, h⟩ := h
  refine fx_iald (n := 8) dd_H_decodeAttribute_7 rfl q1.1 q1.2 q2 ?_
  refine fx_iconst (n := 9) (v := 1) dd_H_decodeAttribute_8 (by decide) rfl ?_
  refine fx_icmp_ne (n := 12) (tg := 43) dd_H_decodeAttribute_9 rfl rfl (fun hc => ?_) (fun hc => ?_)
  · replace h := h.1 hc
    refine fx_aload_n (n := 44) dd_H_decodeAttribute_43 rfl 2 rfl rfl ?_
    refine fx_iload_n (n := 45) dd_H_decodeAttribute_44 rfl 3 rfl rfl ?_
    obtain ⟨q3, h⟩ := h
    refine fx_iald (n := 46) dd_H_decodeAttribute_45 rfl q1.1 q1.2 q3 ?_
    refine fx_iconst (n := 47) (v := 3) dd_H_decodeAttribute_46 (by decide) rfl ?_
    refine fx_icmp_eq (n := 50) (tg := 83) dd_H_decodeAttribute_47 rfl rfl (fun hc => ?_) (fun hc => ?_)
    · replace h := h.1 hc
      refine fx_iload (n := 85) dd_H_decodeAttribute_83 0 rfl rfl ?_
      refine fx_iconst (n := 86) (v := 2) dd_H_decodeAttribute_85 (by decide) rfl ?_
      refine fx_iadd (n := 87) dd_H_decodeAttribute_86 rfl ?_
      refine fx_iload_n (n := 88) dd_H_decodeAttribute_87 rfl 4 rfl rfl ?_
      refine fx_icmp_gt (n := 91) (tg := 119) dd_H_decodeAttribute_88 rfl rfl (fun hc => ?_) (fun hc => ?_)
      · replace h := h.1 hc
        exact fx_vret dd_H_decodeAttribute_119 rfl h
      · replace h := h.2 hc
        refine fx_aload_n (n := 92) dd_H_decodeAttribute_91 rfl 1 rfl rfl ?_
        refine fx_iconst (n := 93) (v := 3) dd_H_decodeAttribute_92 (by decide) rfl ?_
        obtain ⟨q4, h⟩ := h
        replace h := h _ rfl
        refine fx_putI (n := 96) dd_H_decodeAttribute_93 fw_H_36 (by decide) rfl rfl rfl rfl q4.1 q4.2 ?_
        refine fx_aload_n (n := 97) dd_H_decodeAttribute_96 rfl 1 rfl rfl ?_
        refine fx_aload_n (n := 98) dd_H_decodeAttribute_97 rfl 2 rfl rfl ?_
        refine fx_iload (n := 100) dd_H_decodeAttribute_98 0 rfl rfl ?_
        refine fx_callSN (n := 103) (vs := [_, _]) dd_H_decodeAttribute_100 mw_V_wordAt ⟨wd_162, wd_163, wd_1⟩ rfl rfl ⟨Nat.le_of_ble_eq_true rfl, Nat.le_of_ble_eq_true rfl, Nat.le_of_ble_eq_true rfl, fx_nx, rfl⟩ rfl h (fx_qi_k fun x7 S6 h => ?_) (fun _ _ h => h)
        obtain ⟨q8, h⟩ := h
        replace h := h _ rfl
        refine fx_putI (n := 106) dd_H_decodeAttribute_103 fw_H_39 (by decide) rfl rfl rfl rfl q8.1 q8.2 ?_
        refine fx_aload_n (n := 107) dd_H_decodeAttribute_106 rfl 1 rfl rfl ?_
        obtain ⟨r10, hr10, h⟩ := h
        refine fx_getP (n := 110) dd_H_decodeAttribute_107 fw_H_25 (by decide) rfl rfl q8.1 q8.2 hr10 ?_
        refine fx_aload_n (n := 111) dd_H_decodeAttribute_110 rfl 2 rfl rfl ?_
        refine fx_iload (n := 113) dd_H_decodeAttribute_111 0 rfl rfl ?_
        refine fx_iconst (n := 114) (v := 2) dd_H_decodeAttribute_113 (by decide) rfl ?_
        refine fx_iadd (n := 115) dd_H_decodeAttribute_114 rfl ?_
        refine fx_iload_n (n := 116) dd_H_decodeAttribute_115 rfl 4 rfl rfl ?_
        obtain ⟨q12, h⟩ := h
        refine fx_callV (n := 119) (vs := [_, _, _]) dd_H_decodeAttribute_116 mw_Y_decode ⟨wd_580, wd_581, wd_582⟩ rfl (by decide) q12.1 q12.2 rfl rfl ⟨Nat.le_of_ble_eq_true rfl, Nat.le_of_ble_eq_true rfl, Nat.le_of_ble_eq_true rfl, fx_nx, rfl⟩ rfl h (fx_qv_k fun S11 h => ?_) (fun _ _ h => h)
        exact fx_vret dd_H_decodeAttribute_119 rfl h
    · replace h := h.2 hc
      refine fx_aload_n (n := 51) dd_H_decodeAttribute_50 rfl 1 rfl rfl ?_
      refine fx_aload_n (n := 52) dd_H_decodeAttribute_51 rfl 2 rfl rfl ?_
      refine fx_iload_n (n := 53) dd_H_decodeAttribute_52 rfl 3 rfl rfl ?_
      obtain ⟨q13, h⟩ := h
      refine fx_iald (n := 54) dd_H_decodeAttribute_53 rfl q1.1 q1.2 q13 ?_
      obtain ⟨q14, h⟩ := h
      replace h := h _ rfl
      refine fx_putI (n := 57) dd_H_decodeAttribute_54 fw_H_36 (by decide) rfl rfl rfl rfl q14.1 q14.2 ?_
      refine fx_aload_n (n := 58) dd_H_decodeAttribute_57 rfl 1 rfl rfl ?_
      refine fx_iload_n (n := 59) dd_H_decodeAttribute_58 rfl 4 rfl rfl ?_
      refine fx_iload (n := 61) dd_H_decodeAttribute_59 0 rfl rfl ?_
      refine fx_isub (n := 62) dd_H_decodeAttribute_61 rfl ?_
      replace h := h _ rfl
      refine fx_putI (n := 65) dd_H_decodeAttribute_62 fw_H_39 (by decide) rfl rfl rfl rfl q14.1 q14.2 ?_
      refine fx_aload_n (n := 66) dd_H_decodeAttribute_65 rfl 2 rfl rfl ?_
      refine fx_iload (n := 68) dd_H_decodeAttribute_66 0 rfl rfl ?_
      refine fx_aload_n (n := 69) dd_H_decodeAttribute_68 rfl 1 rfl rfl ?_
      obtain ⟨r17, hr17, h⟩ := h
      refine fx_getP (n := 72) dd_H_decodeAttribute_69 fw_H_18 (by decide) rfl rfl q14.1 q14.2 hr17 ?_
      refine fx_iconst (n := 73) (v := 0) dd_H_decodeAttribute_72 (by decide) rfl ?_
      refine fx_aload_n (n := 74) dd_H_decodeAttribute_73 rfl 1 rfl rfl ?_
      refine fx_getI (n := 77) dd_H_decodeAttribute_74 fw_H_39 (by decide) rfl rfl q14.1 q14.2 ?_
      obtain ⟨q19, h⟩ := h
      obtain ⟨q20, h⟩ := h
      replace h := h _ rfl
      refine fx_copy (n := 80) dd_H_decodeAttribute_77 ⟨wd_143, wd_145, wd_144, wd_7⟩ rfl ⟨by decide, Nat.le_of_ble_eq_true rfl⟩ q1.1 q1.2 q19.1 q19.2 q20.1 q20.2.1 q20.2.2.1 q20.2.2.2.1 q20.2.2.2.2 ?_
      refine fx_goto (n := 119) dd_H_decodeAttribute_80 rfl ?_
      exact fx_vret dd_H_decodeAttribute_119 rfl h
  · replace h := h.2 hc
    refine fx_iload (n := 14) dd_H_decodeAttribute_12 0 rfl rfl ?_
    refine fx_istore (n := 16) (L' := [(5, _), (4, _), (0, _), (1, _), (2, _), (3, _)]) dd_H_decodeAttribute_14 (by decide) rfl rfl ?_
    refine fx_sub (L' := [(0, _), (1, _), (3, _), (5, _)]) [2, 3, 5, 0] rfl ?_
    exact h
theorem bk_H_decodeAttribute_16 {G : fx_G} {S : fx_S} {Q : fx_R → fx_S → Prop} (v0 : Nat) (v1 : Nat) (v3 : Int32) (v5 : Int32) (h : (v3 ≤ v5 → Q (.inl none) S) ∧ (¬ v3 ≤ v5 → fx_is S v0 3 ∧ ∃ r2, fx_P S v0 5 = some r2 ∧ fx_is S v1 100 ∧ vp_in v5 (fx_ln S v1) ∧ fx_is S r2 2 ∧ fx_Go G (0, 0) mm_N_append 0 [(0, fx_r G r2), (1, .int (fx_I S v1 (v5.toNatClampNeg)))] [] S (fx_qi (fun x7 S5 => fx_Go G (2, 32) mm_H_decodeAttribute 16 [(0, fx_r G v0), (1, fx_r G v1), (3, .int v3), (5, .int (v5 + Int32.ofInt 1))] [] S5 Q) Q))) :
    fx_Go G (2, 32) mm_H_decodeAttribute 16 [(0, fx_r G v0), (1, fx_r G v1), (3, .int v3), (5, .int v5)] [] S Q := by
  refine fx_iload (n := 18) dd_H_decodeAttribute_16 3 rfl rfl ?_
  refine fx_iload_n (n := 19) dd_H_decodeAttribute_18 rfl 2 rfl rfl ?_
  refine fx_icmp_ge (n := 22) (tg := 40) dd_H_decodeAttribute_19 rfl rfl (fun hc => ?_) (fun hc => ?_)
  · replace h := h.1 hc
    refine fx_goto (n := 119) dd_H_decodeAttribute_40 rfl ?_
    exact fx_vret dd_H_decodeAttribute_119 rfl h
  · replace h := h.2 hc
    refine fx_aload_n (n := 23) dd_H_decodeAttribute_22 rfl 0 rfl rfl ?_
    obtain ⟨q1, h⟩ := h
    obtain ⟨r2, hr2, h⟩ := h
    refine fx_getP (n := 26) dd_H_decodeAttribute_23 fw_H_12 (by decide) rfl rfl q1.1 q1.2 hr2 ?_
    refine fx_aload_n (n := 27) dd_H_decodeAttribute_26 rfl 1 rfl rfl ?_
    refine fx_iload (n := 29) dd_H_decodeAttribute_27 3 rfl rfl ?_
    obtain ⟨q3, h⟩ := h
    obtain ⟨q4, h⟩ := h
    refine fx_iald (n := 30) dd_H_decodeAttribute_29 rfl q3.1 q3.2 q4 ?_
    obtain ⟨q6, h⟩ := h
    refine fx_callV (n := 33) (vs := [_]) dd_H_decodeAttribute_30 mw_N_append ⟨wd_579, wd_204, wd_205⟩ rfl (by decide) q6.1 q6.2 rfl rfl ⟨Nat.le_of_ble_eq_true rfl, Nat.le_of_ble_eq_true rfl, Nat.le_of_ble_eq_true rfl, fx_nx, rfl⟩ rfl h (fx_qi_k fun x7 S5 h => ?_) (fun _ _ h => h)
    refine fx_pop (n := 34) dd_H_decodeAttribute_33 rfl rfl ?_
    refine fx_iinc (n := 37) (L' := [(5, _), (0, _), (1, _), (3, _)]) dd_H_decodeAttribute_34 3 rfl rfl (by decide) rfl rfl ?_
    refine fx_goto (n := 16) dd_H_decodeAttribute_37 rfl ?_
    refine fx_sub (L' := [(0, _), (1, _), (3, _), (5, _)]) [1, 2, 3, 0] rfl ?_
    exact h
