theorem bk_D_init_0 {G : fx_G} {S : fx_S} {Q : fx_R → fx_S → Prop} (v0 : Nat) (h : fx_room S 2048 ∧ ∀ S1, S1 = fx_new S 100 2048 2048 → fx_is S1 v0 0 ∧ ∀ S4, S4 = fx_setP S1 v0 0 (some (fx_m S)) → Q (.inl none) S4) :
    fx_Go G (1, 12) mm_D_init 0 [(0, fx_r G v0)] [] S Q := by
  refine fx_aload_n (n := 1) dd_D_init_0 rfl 0 rfl rfl ?_
  refine fx_objInit (n := 4) dd_D_init_1 ⟨wd_29, wd_22, wd_23⟩ rfl ⟨by decide, Nat.le_of_ble_eq_true rfl⟩ ?_
  refine fx_aload_n (n := 5) dd_D_init_4 rfl 0 rfl rfl ?_
  refine fx_sipush (n := 8) (v := 2048) dd_D_init_5 (by decide) rfl ?_
  obtain ⟨q2, h⟩ := h
  replace h := h _ rfl
  refine fx_newa (n := 10) (t := 0) (N := 2048) dd_D_init_8 wd_39 (Or.inl ⟨rfl, rfl⟩) rfl (by decide) (by decide) q2.1 q2.2.1 q2.2.2 ?_
  obtain ⟨q3, h⟩ := h
  replace h := h _ rfl
  refine fx_putP (n := 13) dd_D_init_10 fw_D_9 (by decide) rfl rfl rfl (fun _ => rfl) (fun _ => rfl) rfl q3.1 q3.2 ?_
  exact fx_vret dd_D_init_13 rfl h
theorem bk_D_isCutNow_0 {G : fx_G} {S : fx_S} {Q : fx_R → fx_S → Prop} (v0 : Nat) (h : fx_is S v0 0 ∧ (¬ (fx_I S v0 1) = 0 → ∀ S2, S2 = fx_setI S v0 1 ((fx_I S v0 1) - 1) → (¬ (fx_I S2 v0 1) = 0 → Q (.inl (some (.int 0))) S2) ∧ ((fx_I S2 v0 1) = 0 → Q (.inl (some (.int 1))) S2)) ∧ ((fx_I S v0 1) = 0 → Q (.inl (some (.int 0))) S)) :
    fx_Go G (0, 0) mm_D_isCutNow 0 [(0, fx_r G v0)] [] S Q := by
  refine fx_aload_n (n := 1) dd_D_isCutNow_0 rfl 0 rfl rfl ?_
  obtain ⟨q1, h⟩ := h
  refine fx_getI (n := 4) dd_D_isCutNow_1 fw_D_15 (by decide) rfl rfl q1.1 q1.2 ?_
  refine fx_if_ne (n := 7) (tg := 9) dd_D_isCutNow_4 rfl rfl (fun hc => ?_) (fun hc => ?_)
  · replace h := h.1 hc
    refine fx_aload_n (n := 10) dd_D_isCutNow_9 rfl 0 rfl rfl ?_
    refine fx_dup (n := 11) dd_D_isCutNow_10 rfl rfl ?_
    refine fx_getI (n := 14) dd_D_isCutNow_11 fw_D_15 (by decide) rfl rfl q1.1 q1.2 ?_
    refine fx_iconst (n := 15) (v := 1) dd_D_isCutNow_14 (by decide) rfl ?_
    refine fx_isub (n := 16) dd_D_isCutNow_15 rfl ?_
    replace h := h _ rfl
    refine fx_putI (n := 19) dd_D_isCutNow_16 fw_D_15 (by decide) rfl rfl rfl rfl q1.1 q1.2 ?_
    refine fx_aload_n (n := 20) dd_D_isCutNow_19 rfl 0 rfl rfl ?_
    refine fx_getI (n := 23) dd_D_isCutNow_20 fw_D_15 (by decide) rfl rfl q1.1 q1.2 ?_
    refine fx_if_ne (n := 26) (tg := 30) dd_D_isCutNow_23 rfl rfl (fun hc => ?_) (fun hc => ?_)
    · replace h := h.1 hc
      refine fx_iconst (n := 31) (v := 0) dd_D_isCutNow_30 (by decide) rfl ?_
      exact fx_zret dd_D_isCutNow_31 rfl rfl h
    · replace h := h.2 hc
      refine fx_iconst (n := 27) (v := 1) dd_D_isCutNow_26 (by decide) rfl ?_
      refine fx_goto (n := 31) dd_D_isCutNow_27 rfl ?_
      exact fx_zret dd_D_isCutNow_31 rfl rfl h
  · replace h := h.2 hc
    refine fx_iconst (n := 8) (v := 0) dd_D_isCutNow_7 (by decide) rfl ?_
    exact fx_zret dd_D_isCutNow_8 rfl rfl h
theorem bk_D_laySector_0 {G : fx_G} {S : fx_S} {Q : fx_R → fx_S → Prop} (v0 : Nat) (v1 : Int32) (v2 : Int32) (v3 : Nat) (h : fx_is S v0 0 ∧ ∃ r2, fx_P S v0 0 = some r2 ∧ fx_is S v3 100 ∧ fx_is S r2 100 ∧ fx_cpy S v3 r2 (v2 * 32) ((v1 * 64) + (v2 * 32)) 32 ∧ ∀ S3, S3 = fx_setR S r2 (va_cpy (fx_I S v3) (fx_I S r2) ((v2 * 32).toNatClampNeg) (((v1 * 64) + (v2 * 32)).toNatClampNeg) ((32 : Int32).toNatClampNeg)) → Q (.inl none) S3) :
    fx_Go G (1, 18) mm_D_laySector 0 [(0, fx_r G v0), (1, .int v1), (2, .int v2), (3, fx_r G v3)] [] S Q := by
  refine fx_iload_n (n := 1) dd_D_laySector_0 rfl 2 rfl rfl ?_
  refine fx_bipush (n := 3) (v := 32) dd_D_laySector_1 (by decide) rfl ?_
  refine fx_imul (n := 4) dd_D_laySector_3 rfl ?_
  refine fx_istore (n := 6) (L' := [(4, _), (0, _), (1, _), (2, _), (3, _)]) dd_D_laySector_4 (by decide) rfl rfl ?_
  refine fx_aload_n (n := 7) dd_D_laySector_6 rfl 4 rfl rfl ?_
  refine fx_iload (n := 9) dd_D_laySector_7 0 rfl rfl ?_
  refine fx_aload_n (n := 10) dd_D_laySector_9 rfl 1 rfl rfl ?_
  obtain ⟨q1, h⟩ := h
  obtain ⟨r2, hr2, h⟩ := h
  refine fx_getP (n := 13) dd_D_laySector_10 fw_D_9 (by decide) rfl rfl q1.1 q1.2 hr2 ?_
  refine fx_iload_n (n := 14) dd_D_laySector_13 rfl 2 rfl rfl ?_
  refine fx_bipush (n := 16) (v := 64) dd_D_laySector_14 (by decide) rfl ?_
  refine fx_imul (n := 17) dd_D_laySector_16 rfl ?_
  refine fx_iload (n := 19) dd_D_laySector_17 0 rfl rfl ?_
  refine fx_iadd (n := 20) dd_D_laySector_19 rfl ?_
  refine fx_bipush (n := 22) (v := 32) dd_D_laySector_20 (by decide) rfl ?_
  obtain ⟨q4, h⟩ := h
  obtain ⟨q5, h⟩ := h
  obtain ⟨q6, h⟩ := h
  replace h := h _ rfl
  refine fx_copy (n := 25) dd_D_laySector_22 ⟨wd_169, wd_145, wd_144, wd_7⟩ rfl ⟨by decide, Nat.le_of_ble_eq_true rfl⟩ q4.1 q4.2 q5.1 q5.2 q6.1 q6.2.1 q6.2.2.1 q6.2.2.2.1 q6.2.2.2.2 ?_
  exact fx_vret dd_D_laySector_25 rfl h
theorem bk_D_liftRecord_0 {G : fx_G} {S : fx_S} {Q : fx_R → fx_S → Prop} (v0 : Nat) (v1 : Int32) (v2 : Nat) (h : fx_is S v0 0 ∧ ∃ r2, fx_P S v0 0 = some r2 ∧ fx_is S r2 100 ∧ fx_is S v2 100 ∧ fx_cpy S r2 v2 (v1 * 64) 0 64 ∧ ∀ S3, S3 = fx_setR S v2 (va_cpy (fx_I S r2) (fx_I S v2) ((v1 * 64).toNatClampNeg) ((0 : Int32).toNatClampNeg) ((64 : Int32).toNatClampNeg)) → Q (.inl none) S3) :
    fx_Go G (1, 18) mm_D_liftRecord 0 [(0, fx_r G v0), (1, .int v1), (2, fx_r G v2)] [] S Q := by
  refine fx_aload_n (n := 1) dd_D_liftRecord_0 rfl 0 rfl rfl ?_
  obtain ⟨q1, h⟩ := h
  obtain ⟨r2, hr2, h⟩ := h
  refine fx_getP (n := 4) dd_D_liftRecord_1 fw_D_9 (by decide) rfl rfl q1.1 q1.2 hr2 ?_
  refine fx_iload_n (n := 5) dd_D_liftRecord_4 rfl 1 rfl rfl ?_
  refine fx_bipush (n := 7) (v := 64) dd_D_liftRecord_5 (by decide) rfl ?_
  refine fx_imul (n := 8) dd_D_liftRecord_7 rfl ?_
  refine fx_aload_n (n := 9) dd_D_liftRecord_8 rfl 2 rfl rfl ?_
  refine fx_iconst (n := 10) (v := 0) dd_D_liftRecord_9 (by decide) rfl ?_
  refine fx_bipush (n := 12) (v := 64) dd_D_liftRecord_10 (by decide) rfl ?_
  obtain ⟨q4, h⟩ := h
  obtain ⟨q5, h⟩ := h
  obtain ⟨q6, h⟩ := h
  replace h := h _ rfl
  refine fx_copy (n := 15) dd_D_liftRecord_12 ⟨wd_169, wd_145, wd_144, wd_7⟩ rfl ⟨by decide, Nat.le_of_ble_eq_true rfl⟩ q4.1 q4.2 q5.1 q5.2 q6.1 q6.2.1 q6.2.2.1 q6.2.2.2.1 q6.2.2.2.2 ?_
  exact fx_vret dd_D_liftRecord_15 rfl h
theorem bk_D_fileByte_0 {G : fx_G} {S : fx_S} {Q : fx_R → fx_S → Prop} (v0 : Nat) (v1 : Nat) (v2 : Int32) (h : fx_is S v1 1 ∧ fx_Go G (0, 0) mm_Y_placeOf 0 [(0, fx_r G v1), (1, .int (v2 / 16))] [] S (fx_qi (fun x3 S1 => fx_Go G (0, 0) mm_V_isDataCluster 0 [(0, .int x3)] [] S1 (fx_qi (fun x5 S4 => (x5 = 0 → Q (.inl (some (.int 0))) S4) ∧ (¬ x5 = 0 → fx_is S4 v0 0 ∧ ∃ r7, fx_P S4 v0 0 = some r7 ∧ fx_is S4 r7 100 ∧ vp_in ((x3 * 16) + (v2 - v2 / 16 * 16)) (fx_ln S4 r7) ∧ Q (.inl (some (.int (fx_I S4 r7 (((x3 * 16) + (v2 - v2 / 16 * 16)).toNatClampNeg))))) S4)) Q)) Q)) :
    fx_Go G (1, 13) mm_D_fileByte 0 [(0, fx_r G v0), (1, fx_r G v1), (2, .int v2)] [] S Q := by
  refine fx_aload_n (n := 1) dd_D_fileByte_0 rfl 1 rfl rfl ?_
  refine fx_iload_n (n := 2) dd_D_fileByte_1 rfl 2 rfl rfl ?_
  refine fx_bipush (n := 4) (v := 16) dd_D_fileByte_2 (by decide) rfl ?_
  refine fx_idiv (n := 5) dd_D_fileByte_4 (by decide) rfl ?_
  obtain ⟨q2, h⟩ := h
  refine fx_callV (n := 8) (vs := [_]) dd_D_fileByte_5 mw_Y_placeOf ⟨wd_271, wd_272, wd_273⟩ rfl (by decide) q2.1 q2.2 rfl rfl ⟨Nat.le_of_ble_eq_true rfl, Nat.le_of_ble_eq_true rfl, Nat.le_of_ble_eq_true rfl, fx_nx, rfl⟩ rfl h (fx_qi_k fun x3 S1 h => ?_) (fun _ _ h => h)
  refine fx_istore_n (n := 9) (L' := [(3, _), (0, _), (1, _), (2, _)]) dd_D_fileByte_8 rfl (by decide) rfl rfl ?_
  refine fx_iload_n (n := 10) dd_D_fileByte_9 rfl 0 rfl rfl ?_
  refine fx_callSN (n := 13) (vs := [_]) dd_D_fileByte_10 mw_V_isDataCluster ⟨wd_275, wd_276, wd_1⟩ rfl rfl ⟨Nat.le_of_ble_eq_true rfl, Nat.le_of_ble_eq_true rfl, Nat.le_of_ble_eq_true rfl, fx_nx, rfl⟩ rfl h (fx_qi_k fun x5 S4 h => ?_) (fun _ _ h => h)
  refine fx_if_eq (n := 16) (tg := 33) dd_D_fileByte_13 rfl rfl (fun hc => ?_) (fun hc => ?_)
  · replace h := h.1 hc
    refine fx_iconst (n := 34) (v := 0) dd_D_fileByte_33 (by decide) rfl ?_
    exact fx_iret dd_D_fileByte_34 rfl h
  · replace h := h.2 hc
    refine fx_aload_n (n := 17) dd_D_fileByte_16 rfl 1 rfl rfl ?_
    obtain ⟨q6, h⟩ := h
    obtain ⟨r7, hr7, h⟩ := h
    refine fx_getP (n := 20) dd_D_fileByte_17 fw_D_9 (by decide) rfl rfl q6.1 q6.2 hr7 ?_
    refine fx_iload_n (n := 21) dd_D_fileByte_20 rfl 0 rfl rfl ?_
    refine fx_bipush (n := 23) (v := 16) dd_D_fileByte_21 (by decide) rfl ?_
    refine fx_imul (n := 24) dd_D_fileByte_23 rfl ?_
    refine fx_iload_n (n := 25) dd_D_fileByte_24 rfl 3 rfl rfl ?_
    refine fx_bipush (n := 27) (v := 16) dd_D_fileByte_25 (by decide) rfl ?_
    refine fx_irem (n := 28) dd_D_fileByte_27 (by decide) rfl ?_
    refine fx_iadd (n := 29) dd_D_fileByte_28 rfl ?_
    obtain ⟨q8, h⟩ := h
    obtain ⟨q9, h⟩ := h
    refine fx_iald (n := 30) dd_D_fileByte_29 rfl q8.1 q8.2 q9 ?_
    refine fx_goto (n := 34) dd_D_fileByte_30 rfl ?_
    exact fx_iret dd_D_fileByte_34 rfl h
theorem bk_D_putFileByte_0 {G : fx_G} {S : fx_S} {Q : fx_R → fx_S → Prop} (v0 : Nat) (v1 : Nat) (v2 : Int32) (v3 : Int32) (h : fx_is S v1 1 ∧ fx_Go G (0, 0) mm_Y_placeOf 0 [(0, fx_r G v1), (1, .int (v2 / 16))] [] S (fx_qi (fun x3 S1 => fx_Go G (0, 0) mm_V_isDataCluster 0 [(0, .int x3)] [] S1 (fx_qi (fun x5 S4 => (x5 = 0 → Q (.inl none) S4) ∧ (¬ x5 = 0 → fx_is S4 v0 0 ∧ ∃ r7, fx_P S4 v0 0 = some r7 ∧ fx_is S4 r7 100 ∧ vp_in ((x3 * 16) + (v2 - v2 / 16 * 16)) (fx_ln S4 r7) ∧ ∀ S10, S10 = fx_setI S4 r7 (((x3 * 16) + (v2 - v2 / 16 * 16)).toNatClampNeg) v3 → Q (.inl none) S10)) Q)) Q)) :
    fx_Go G (1, 13) mm_D_putFileByte 0 [(0, fx_r G v0), (1, fx_r G v1), (2, .int v2), (3, .int v3)] [] S Q := by
  refine fx_aload_n (n := 1) dd_D_putFileByte_0 rfl 1 rfl rfl ?_
  refine fx_iload_n (n := 2) dd_D_putFileByte_1 rfl 2 rfl rfl ?_
  refine fx_bipush (n := 4) (v := 16) dd_D_putFileByte_2 (by decide) rfl ?_
  refine fx_idiv (n := 5) dd_D_putFileByte_4 (by decide) rfl ?_
  obtain ⟨q2, h⟩ := h
  refine fx_callV (n := 8) (vs := [_]) dd_D_putFileByte_5 mw_Y_placeOf ⟨wd_271, wd_272, wd_273⟩ rfl (by decide) q2.1 q2.2 rfl rfl ⟨Nat.le_of_ble_eq_true rfl, Nat.le_of_ble_eq_true rfl, Nat.le_of_ble_eq_true rfl, fx_nx, rfl⟩ rfl h (fx_qi_k fun x3 S1 h => ?_) (fun _ _ h => h)
  refine fx_istore (n := 10) (L' := [(4, _), (0, _), (1, _), (2, _), (3, _)]) dd_D_putFileByte_8 (by decide) rfl rfl ?_
  refine fx_iload (n := 12) dd_D_putFileByte_10 0 rfl rfl ?_
  refine fx_callSN (n := 15) (vs := [_]) dd_D_putFileByte_12 mw_V_isDataCluster ⟨wd_275, wd_276, wd_1⟩ rfl rfl ⟨Nat.le_of_ble_eq_true rfl, Nat.le_of_ble_eq_true rfl, Nat.le_of_ble_eq_true rfl, fx_nx, rfl⟩ rfl h (fx_qi_k fun x5 S4 h => ?_) (fun _ _ h => h)
  refine fx_if_eq (n := 18) (tg := 34) dd_D_putFileByte_15 rfl rfl (fun hc => ?_) (fun hc => ?_)
  · replace h := h.1 hc
    exact fx_vret dd_D_putFileByte_34 rfl h
  · replace h := h.2 hc
    refine fx_aload_n (n := 19) dd_D_putFileByte_18 rfl 1 rfl rfl ?_
    obtain ⟨q6, h⟩ := h
    obtain ⟨r7, hr7, h⟩ := h
    refine fx_getP (n := 22) dd_D_putFileByte_19 fw_D_9 (by decide) rfl rfl q6.1 q6.2 hr7 ?_
    refine fx_iload (n := 24) dd_D_putFileByte_22 0 rfl rfl ?_
    refine fx_bipush (n := 26) (v := 16) dd_D_putFileByte_24 (by decide) rfl ?_
    refine fx_imul (n := 27) dd_D_putFileByte_26 rfl ?_
    refine fx_iload_n (n := 28) dd_D_putFileByte_27 rfl 3 rfl rfl ?_
    refine fx_bipush (n := 30) (v := 16) dd_D_putFileByte_28 (by decide) rfl ?_
    refine fx_irem (n := 31) dd_D_putFileByte_30 (by decide) rfl ?_
    refine fx_iadd (n := 32) dd_D_putFileByte_31 rfl ?_
    refine fx_iload_n (n := 33) dd_D_putFileByte_32 rfl 4 rfl rfl ?_
    obtain ⟨q8, h⟩ := h
    obtain ⟨q9, h⟩ := h
    replace h := h _ rfl
    refine fx_iast (n := 34) dd_D_putFileByte_33 rfl q8.1 q8.2 q9 ?_
    exact fx_vret dd_D_putFileByte_34 rfl h
theorem bk_D_clearFile_0 {G : fx_G} {S : fx_S} {Q : fx_R → fx_S → Prop} (v0 : Nat) (v1 : Nat) (v2 : Int32) (v3 : Int32) (h : fx_Go G (2, 29) mm_D_clearFile 3 [(0, fx_r G v0), (1, fx_r G v1), (3, .int v3), (4, .int v2)] [] S Q) :
    fx_Go G (2, 29) mm_D_clearFile 0 [(0, fx_r G v0), (1, fx_r G v1), (2, .int v2), (3, .int v3)] [] S Q := by
  refine fx_iload_n (n := 1) dd_D_clearFile_0 rfl 2 rfl rfl ?_
  refine fx_istore (n := 3) (L' := [(4, _), (0, _), (1, _), (2, _), (3, _)]) dd_D_clearFile_1 (by decide) rfl rfl ?_
  refine fx_sub (L' := [(0, _), (1, _), (3, _), (4, _)]) [1, 2, 4, 0] rfl ?_
  exact h
theorem bk_D_clearFile_3 {G : fx_G} {S : fx_S} {Q : fx_R → fx_S → Prop} (v0 : Nat) (v1 : Nat) (v3 : Int32) (v4 : Int32) (h : (v3 ≤ v4 → Q (.inl none) S) ∧ (¬ v3 ≤ v4 → fx_is S v0 0 ∧ fx_Go G (1, 13) mm_D_putFileByte 0 [(0, fx_r G v0), (1, fx_r G v1), (2, .int v4), (3, .int 0)] [] S (fx_qv (fun S1 => fx_Go G (2, 29) mm_D_clearFile 3 [(0, fx_r G v0), (1, fx_r G v1), (3, .int v3), (4, .int (v4 + Int32.ofInt 1))] [] S1 Q) Q))) :
    fx_Go G (2, 29) mm_D_clearFile 3 [(0, fx_r G v0), (1, fx_r G v1), (3, .int v3), (4, .int v4)] [] S Q := by
  refine fx_iload (n := 5) dd_D_clearFile_3 3 rfl rfl ?_
  refine fx_iload_n (n := 6) dd_D_clearFile_5 rfl 2 rfl rfl ?_
  refine fx_icmp_ge (n := 9) (tg := 23) dd_D_clearFile_6 rfl rfl (fun hc => ?_) (fun hc => ?_)
  · replace h := h.1 hc
    exact fx_vret dd_D_clearFile_23 rfl h
  · replace h := h.2 hc
    refine fx_aload_n (n := 10) dd_D_clearFile_9 rfl 0 rfl rfl ?_
    refine fx_aload_n (n := 11) dd_D_clearFile_10 rfl 1 rfl rfl ?_
    refine fx_iload (n := 13) dd_D_clearFile_11 3 rfl rfl ?_
    refine fx_iconst (n := 14) (v := 0) dd_D_clearFile_13 (by decide) rfl ?_
    obtain ⟨q2, h⟩ := h
    refine fx_callV (n := 17) (vs := [_, _, _]) dd_D_clearFile_14 mw_D_putFileByte ⟨wd_502, wd_503, wd_504⟩ rfl (by decide) q2.1 q2.2 rfl rfl ⟨Nat.le_of_ble_eq_true rfl, Nat.le_of_ble_eq_true rfl, Nat.le_of_ble_eq_true rfl, fx_nx, rfl⟩ rfl h (fx_qv_k fun S1 h => ?_) (fun _ _ h => h)
    refine fx_iinc (n := 20) (L' := [(4, _), (0, _), (1, _), (3, _)]) dd_D_clearFile_17 3 rfl rfl (by decide) rfl rfl ?_
    refine fx_goto (n := 3) dd_D_clearFile_20 rfl ?_
    refine fx_sub (L' := [(0, _), (1, _), (3, _), (4, _)]) [1, 2, 3, 0] rfl ?_
    exact h
theorem bk_N_init_0 {G : fx_G} {S : fx_S} {Q : fx_R → fx_S → Prop} (v0 : Nat) (h : fx_room S 8 ∧ ∀ S1, S1 = fx_new S 100 8 8 → fx_is S1 v0 2 ∧ ∀ S4, S4 = fx_setP S1 v0 0 (some (fx_m S)) → Q (.inl none) S4) :
    fx_Go G (1, 12) mm_N_init 0 [(0, fx_r G v0)] [] S Q := by
  refine fx_aload_n (n := 1) dd_N_init_0 rfl 0 rfl rfl ?_
  refine fx_objInit (n := 4) dd_N_init_1 ⟨wd_52, wd_22, wd_23⟩ rfl ⟨by decide, Nat.le_of_ble_eq_true rfl⟩ ?_
  refine fx_aload_n (n := 5) dd_N_init_4 rfl 0 rfl rfl ?_
  refine fx_bipush (n := 7) (v := 8) dd_N_init_5 (by decide) rfl ?_
  obtain ⟨q2, h⟩ := h
  replace h := h _ rfl
  refine fx_newa (n := 9) (t := 0) (N := 8) dd_N_init_7 wd_39 (Or.inl ⟨rfl, rfl⟩) rfl (by decide) (by decide) q2.1 q2.2.1 q2.2.2 ?_
  obtain ⟨q3, h⟩ := h
  replace h := h _ rfl
  refine fx_putP (n := 12) dd_N_init_9 fw_N_9 (by decide) rfl rfl rfl (fun _ => rfl) (fun _ => rfl) rfl q3.1 q3.2 ?_
  exact fx_vret dd_N_init_12 rfl h
theorem bk_N_append_0 {G : fx_G} {S : fx_S} {Q : fx_R → fx_S → Prop} (v0 : Nat) (v1 : Int32) (h : (v1 < 97 → (v1 < 48 → fx_Go G (0, 0) mm_N_append 29 [(0, fx_r G v0), (1, .int v1)] [.int 0] S Q) ∧ (¬ v1 < 48 → (57 < v1 → fx_Go G (0, 0) mm_N_append 29 [(0, fx_r G v0), (1, .int v1)] [.int 0] S Q) ∧ (¬ 57 < v1 → fx_Go G (0, 0) mm_N_append 29 [(0, fx_r G v0), (1, .int v1)] [.int 1] S Q))) ∧ (¬ v1 < 97 → (v1 ≤ 122 → fx_Go G (0, 0) mm_N_append 29 [(0, fx_r G v0), (1, .int v1)] [.int 1] S Q) ∧ (¬ v1 ≤ 122 → (v1 < 48 → fx_Go G (0, 0) mm_N_append 29 [(0, fx_r G v0), (1, .int v1)] [.int 0] S Q) ∧ (¬ v1 < 48 → (57 < v1 → fx_Go G (0, 0) mm_N_append 29 [(0, fx_r G v0), (1, .int v1)] [.int 0] S Q) ∧ (¬ 57 < v1 → fx_Go G (0, 0) mm_N_append 29 [(0, fx_r G v0), (1, .int v1)] [.int 1] S Q))))) :
    fx_Go G (0, 0) mm_N_append 0 [(0, fx_r G v0), (1, .int v1)] [] S Q := by
  refine fx_iload_n (n := 1) dd_N_append_0 rfl 1 rfl rfl ?_
  refine fx_bipush (n := 3) (v := 97) dd_N_append_1 (by decide) rfl ?_
  refine fx_icmp_lt (n := 6) (tg := 12) dd_N_append_3 rfl rfl (fun hc => ?_) (fun hc => ?_)
  · replace h := h.1 hc
    refine fx_iload_n (n := 13) dd_N_append_12 rfl 1 rfl rfl ?_
    refine fx_bipush (n := 15) (v := 48) dd_N_append_13 (by decide) rfl ?_
    refine fx_icmp_lt (n := 18) (tg := 28) dd_N_append_15 rfl rfl (fun hc => ?_) (fun hc => ?_)
    · replace h := h.1 hc
      refine fx_iconst (n := 29) (v := 0) dd_N_append_28 (by decide) rfl ?_
      exact h
    · replace h := h.2 hc
      refine fx_iload_n (n := 19) dd_N_append_18 rfl 1 rfl rfl ?_
      refine fx_bipush (n := 21) (v := 57) dd_N_append_19 (by decide) rfl ?_
      refine fx_icmp_gt (n := 24) (tg := 28) dd_N_append_21 rfl rfl (fun hc => ?_) (fun hc => ?_)
      · replace h := h.1 hc
        refine fx_iconst (n := 29) (v := 0) dd_N_append_28 (by decide) rfl ?_
        exact h
      · replace h := h.2 hc
        refine fx_iconst (n := 25) (v := 1) dd_N_append_24 (by decide) rfl ?_
        refine fx_goto (n := 29) dd_N_append_25 rfl ?_
        exact h
  · replace h := h.2 hc
    refine fx_iload_n (n := 7) dd_N_append_6 rfl 1 rfl rfl ?_
    refine fx_bipush (n := 9) (v := 122) dd_N_append_7 (by decide) rfl ?_
    refine fx_icmp_le (n := 12) (tg := 24) dd_N_append_9 rfl rfl (fun hc => ?_) (fun hc => ?_)
    · replace h := h.1 hc
      refine fx_iconst (n := 25) (v := 1) dd_N_append_24 (by decide) rfl ?_
      refine fx_goto (n := 29) dd_N_append_25 rfl ?_
      exact h
    · replace h := h.2 hc
      refine fx_iload_n (n := 13) dd_N_append_12 rfl 1 rfl rfl ?_
      refine fx_bipush (n := 15) (v := 48) dd_N_append_13 (by decide) rfl ?_
      refine fx_icmp_lt (n := 18) (tg := 28) dd_N_append_15 rfl rfl (fun hc => ?_) (fun hc => ?_)
      · replace h := h.1 hc
        refine fx_iconst (n := 29) (v := 0) dd_N_append_28 (by decide) rfl ?_
        exact h
      · replace h := h.2 hc
        refine fx_iload_n (n := 19) dd_N_append_18 rfl 1 rfl rfl ?_
        refine fx_bipush (n := 21) (v := 57) dd_N_append_19 (by decide) rfl ?_
        refine fx_icmp_gt (n := 24) (tg := 28) dd_N_append_21 rfl rfl (fun hc => ?_) (fun hc => ?_)
        · replace h := h.1 hc
          refine fx_iconst (n := 29) (v := 0) dd_N_append_28 (by decide) rfl ?_
          exact h
        · replace h := h.2 hc
          refine fx_iconst (n := 25) (v := 1) dd_N_append_24 (by decide) rfl ?_
          refine fx_goto (n := 29) dd_N_append_25 rfl ?_
          exact h
theorem bk_N_append_29 {G : fx_G} {S : fx_S} {Q : fx_R → fx_S → Prop} (v0 : Nat) (v1 : Int32) (z0 : Int32) (h : (z0 = 0 → Q (.inl (some (.int 0))) S) ∧ (¬ z0 = 0 → fx_is S v0 2 ∧ ((fx_I S v0 1) < 8 → ∃ r2, fx_P S v0 0 = some r2 ∧ fx_is S r2 100 ∧ vp_in (fx_I S v0 1) (fx_ln S r2) ∧ ∀ S5, S5 = fx_setI S r2 ((fx_I S v0 1).toNatClampNeg) v1 → ∀ S6, S6 = fx_setI S5 v0 1 ((fx_I S5 v0 1) + 1) → Q (.inl (some (.int 1))) S6) ∧ (¬ (fx_I S v0 1) < 8 → Q (.inl (some (.int 0))) S))) :
    fx_Go G (0, 0) mm_N_append 29 [(0, fx_r G v0), (1, .int v1)] [.int z0] S Q := by
  refine fx_istore_n (n := 30) (L' := [(2, _), (0, _), (1, _)]) dd_N_append_29 rfl (by decide) rfl rfl ?_
  refine fx_iload_n (n := 31) dd_N_append_30 rfl 0 rfl rfl ?_
  refine fx_if_eq (n := 34) (tg := 43) dd_N_append_31 rfl rfl (fun hc => ?_) (fun hc => ?_)
  · replace h := h.1 hc
    refine fx_iconst (n := 44) (v := 0) dd_N_append_43 (by decide) rfl ?_
    exact fx_zret dd_N_append_44 rfl rfl h
  · replace h := h.2 hc
    refine fx_aload_n (n := 35) dd_N_append_34 rfl 1 rfl rfl ?_
    obtain ⟨q1, h⟩ := h
    refine fx_getI (n := 38) dd_N_append_35 fw_N_15 (by decide) rfl rfl q1.1 q1.2 ?_
    refine fx_bipush (n := 40) (v := 8) dd_N_append_38 (by decide) rfl ?_
    refine fx_icmp_lt (n := 43) (tg := 45) dd_N_append_40 rfl rfl (fun hc => ?_) (fun hc => ?_)
    · replace h := h.1 hc
      refine fx_aload_n (n := 46) dd_N_append_45 rfl 1 rfl rfl ?_
      obtain ⟨r2, hr2, h⟩ := h
      refine fx_getP (n := 49) dd_N_append_46 fw_N_9 (by decide) rfl rfl q1.1 q1.2 hr2 ?_
      refine fx_aload_n (n := 50) dd_N_append_49 rfl 1 rfl rfl ?_
      refine fx_getI (n := 53) dd_N_append_50 fw_N_15 (by decide) rfl rfl q1.1 q1.2 ?_
      refine fx_iload_n (n := 54) dd_N_append_53 rfl 2 rfl rfl ?_
      obtain ⟨q3, h⟩ := h
      obtain ⟨q4, h⟩ := h
      replace h := h _ rfl
      refine fx_iast (n := 55) dd_N_append_54 rfl q3.1 q3.2 q4 ?_
      refine fx_aload_n (n := 56) dd_N_append_55 rfl 1 rfl rfl ?_
      refine fx_dup (n := 57) dd_N_append_56 rfl rfl ?_
      refine fx_getI (n := 60) dd_N_append_57 fw_N_15 (by decide) rfl rfl q1.1 q1.2 ?_
      refine fx_iconst (n := 61) (v := 1) dd_N_append_60 (by decide) rfl ?_
      refine fx_iadd (n := 62) dd_N_append_61 rfl ?_
      replace h := h _ rfl
      refine fx_putI (n := 65) dd_N_append_62 fw_N_15 (by decide) rfl rfl rfl rfl q1.1 q1.2 ?_
      refine fx_iconst (n := 66) (v := 1) dd_N_append_65 (by decide) rfl ?_
      exact fx_zret dd_N_append_66 rfl rfl h
    · replace h := h.2 hc
      refine fx_iconst (n := 44) (v := 0) dd_N_append_43 (by decide) rfl ?_
      exact fx_zret dd_N_append_44 rfl rfl h
theorem bk_N_clear_0 {G : fx_G} {S : fx_S} {Q : fx_R → fx_S → Prop} (v0 : Nat) (h : fx_is S v0 2 ∧ ∀ S2, S2 = fx_setI S v0 1 0 → Q (.inl none) S2) :
    fx_Go G (0, 0) mm_N_clear 0 [(0, fx_r G v0)] [] S Q := by
  refine fx_aload_n (n := 1) dd_N_clear_0 rfl 0 rfl rfl ?_
  refine fx_iconst (n := 2) (v := 0) dd_N_clear_1 (by decide) rfl ?_
  obtain ⟨q1, h⟩ := h
  replace h := h _ rfl
  refine fx_putI (n := 5) dd_N_clear_2 fw_N_15 (by decide) rfl rfl rfl rfl q1.1 q1.2 ?_
  exact fx_vret dd_N_clear_5 rfl h
theorem bk_N_copyFrom_0 {G : fx_G} {S : fx_S} {Q : fx_R → fx_S → Prop} (v0 : Nat) (v1 : Nat) (h : fx_is S v1 2 ∧ ∃ r2, fx_P S v1 0 = some r2 ∧ fx_is S v0 2 ∧ ∃ r4, fx_P S v0 0 = some r4 ∧ fx_is S r2 100 ∧ fx_is S r4 100 ∧ fx_cpy S r2 r4 0 0 8 ∧ ∀ S5, S5 = fx_setR S r4 (va_cpy (fx_I S r2) (fx_I S r4) ((0 : Int32).toNatClampNeg) ((0 : Int32).toNatClampNeg) ((8 : Int32).toNatClampNeg)) → ∀ S9, S9 = fx_setI S5 v0 1 (fx_I S5 v1 1) → Q (.inl none) S9) :
    fx_Go G (1, 18) mm_N_copyFrom 0 [(0, fx_r G v0), (1, fx_r G v1)] [] S Q := by
  refine fx_aload_n (n := 1) dd_N_copyFrom_0 rfl 1 rfl rfl ?_
  obtain ⟨q1, h⟩ := h
  obtain ⟨r2, hr2, h⟩ := h
  refine fx_getP (n := 4) dd_N_copyFrom_1 fw_N_9 (by decide) rfl rfl q1.1 q1.2 hr2 ?_
  refine fx_iconst (n := 5) (v := 0) dd_N_copyFrom_4 (by decide) rfl ?_
  refine fx_aload_n (n := 6) dd_N_copyFrom_5 rfl 0 rfl rfl ?_
  obtain ⟨q3, h⟩ := h
  obtain ⟨r4, hr4, h⟩ := h
  refine fx_getP (n := 9) dd_N_copyFrom_6 fw_N_9 (by decide) rfl rfl q3.1 q3.2 hr4 ?_
  refine fx_iconst (n := 10) (v := 0) dd_N_copyFrom_9 (by decide) rfl ?_
  refine fx_bipush (n := 12) (v := 8) dd_N_copyFrom_10 (by decide) rfl ?_
  obtain ⟨q6, h⟩ := h
  obtain ⟨q7, h⟩ := h
  obtain ⟨q8, h⟩ := h
  replace h := h _ rfl
  refine fx_copy (n := 15) dd_N_copyFrom_12 ⟨wd_317, wd_145, wd_144, wd_7⟩ rfl ⟨by decide, Nat.le_of_ble_eq_true rfl⟩ q6.1 q6.2 q7.1 q7.2 q8.1 q8.2.1 q8.2.2.1 q8.2.2.2.1 q8.2.2.2.2 ?_
  refine fx_aload_n (n := 16) dd_N_copyFrom_15 rfl 0 rfl rfl ?_
  refine fx_aload_n (n := 17) dd_N_copyFrom_16 rfl 1 rfl rfl ?_
  refine fx_getI (n := 20) dd_N_copyFrom_17 fw_N_15 (by decide) rfl rfl q1.1 q1.2 ?_
  replace h := h _ rfl
  refine fx_putI (n := 23) dd_N_copyFrom_20 fw_N_15 (by decide) rfl rfl rfl rfl q3.1 q3.2 ?_
  exact fx_vret dd_N_copyFrom_23 rfl h
theorem bk_N_compare_0 {G : fx_G} {S : fx_S} {Q : fx_R → fx_S → Prop} (v0 : Nat) (v1 : Nat) (h : fx_is S v0 2 ∧ fx_is S v1 2 ∧ fx_Go G (1, 13) mm_N_compare 14 [(0, fx_r G v0), (1, fx_r G v1), (2, .int (if (fx_I S v1 1) < (fx_I S v0 1) then (fx_I S v1 1) else (fx_I S v0 1))), (3, .int 0)] [] S Q) :
    fx_Go G (1, 13) mm_N_compare 0 [(0, fx_r G v0), (1, fx_r G v1)] [] S Q := by
  refine fx_aload_n (n := 1) dd_N_compare_0 rfl 0 rfl rfl ?_
  obtain ⟨q1, h⟩ := h
  refine fx_getI (n := 4) dd_N_compare_1 fw_N_15 (by decide) rfl rfl q1.1 q1.2 ?_
  refine fx_aload_n (n := 5) dd_N_compare_4 rfl 1 rfl rfl ?_
  obtain ⟨q2, h⟩ := h
  refine fx_getI (n := 8) dd_N_compare_5 fw_N_15 (by decide) rfl rfl q2.1 q2.2 ?_
  refine fx_mmin (n := 11) dd_N_compare_8 ⟨wd_235, wd_236, wd_13, wd_237⟩ rfl ⟨by decide, Nat.le_of_ble_eq_true rfl⟩ ?_
  refine fx_istore_n (n := 12) (L' := [(2, _), (0, _), (1, _)]) dd_N_compare_11 rfl (by decide) rfl rfl ?_
  refine fx_iconst (n := 13) (v := 0) dd_N_compare_12 (by decide) rfl ?_
  refine fx_istore_n (n := 14) (L' := [(3, _), (2, _), (0, _), (1, _)]) dd_N_compare_13 rfl (by decide) rfl rfl ?_
  refine fx_sub (L' := [(0, _), (1, _), (2, _), (3, _)]) [2, 3, 1, 0] rfl ?_
  exact h
theorem bk_N_compare_14 {G : fx_G} {S : fx_S} {Q : fx_R → fx_S → Prop} (v0 : Nat) (v1 : Nat) (v2 : Int32) (v3 : Int32) (h : (v2 ≤ v3 → fx_is S v0 2 ∧ fx_is S v1 2 ∧ Q (.inl (some (.int ((fx_I S v0 1) - (fx_I S v1 1))))) S) ∧ (¬ v2 ≤ v3 → fx_is S v0 2 ∧ ∃ r4, fx_P S v0 0 = some r4 ∧ fx_is S r4 100 ∧ vp_in v3 (fx_ln S r4) ∧ fx_is S v1 2 ∧ ∃ r8, fx_P S v1 0 = some r8 ∧ fx_is S r8 100 ∧ vp_in v3 (fx_ln S r8) ∧ ((fx_I S r4 (v3.toNatClampNeg)) = (fx_I S r8 (v3.toNatClampNeg)) → fx_Go G (1, 13) mm_N_compare 14 [(0, fx_r G v0), (1, fx_r G v1), (2, .int v2), (3, .int (v3 + Int32.ofInt 1))] [] S Q) ∧ (¬ (fx_I S r4 (v3.toNatClampNeg)) = (fx_I S r8 (v3.toNatClampNeg)) → ∃ r11, fx_P S v0 0 = some r11 ∧ fx_is S r11 100 ∧ vp_in v3 (fx_ln S r11) ∧ ∃ r14, fx_P S v1 0 = some r14 ∧ fx_is S r14 100 ∧ vp_in v3 (fx_ln S r14) ∧ Q (.inl (some (.int ((fx_I S r11 (v3.toNatClampNeg)) - (fx_I S r14 (v3.toNatClampNeg)))))) S))) :
    fx_Go G (1, 13) mm_N_compare 14 [(0, fx_r G v0), (1, fx_r G v1), (2, .int v2), (3, .int v3)] [] S Q := by
  refine fx_iload_n (n := 15) dd_N_compare_14 rfl 3 rfl rfl ?_
  refine fx_iload_n (n := 16) dd_N_compare_15 rfl 2 rfl rfl ?_
  refine fx_icmp_ge (n := 19) (tg := 54) dd_N_compare_16 rfl rfl (fun hc => ?_) (fun hc => ?_)
  · replace h := h.1 hc
    refine fx_aload_n (n := 55) dd_N_compare_54 rfl 0 rfl rfl ?_
    obtain ⟨q1, h⟩ := h
    refine fx_getI (n := 58) dd_N_compare_55 fw_N_15 (by decide) rfl rfl q1.1 q1.2 ?_
    refine fx_aload_n (n := 59) dd_N_compare_58 rfl 1 rfl rfl ?_
    obtain ⟨q2, h⟩ := h
    refine fx_getI (n := 62) dd_N_compare_59 fw_N_15 (by decide) rfl rfl q2.1 q2.2 ?_
    refine fx_isub (n := 63) dd_N_compare_62 rfl ?_
    exact fx_iret dd_N_compare_63 rfl h
  · replace h := h.2 hc
    refine fx_aload_n (n := 20) dd_N_compare_19 rfl 0 rfl rfl ?_
    obtain ⟨q3, h⟩ := h
    obtain ⟨r4, hr4, h⟩ := h
    refine fx_getP (n := 23) dd_N_compare_20 fw_N_9 (by decide) rfl rfl q3.1 q3.2 hr4 ?_
    refine fx_iload_n (n := 24) dd_N_compare_23 rfl 3 rfl rfl ?_
    obtain ⟨q5, h⟩ := h
    obtain ⟨q6, h⟩ := h
    refine fx_iald (n := 25) dd_N_compare_24 rfl q5.1 q5.2 q6 ?_
    refine fx_aload_n (n := 26) dd_N_compare_25 rfl 1 rfl rfl ?_
    obtain ⟨q7, h⟩ := h
    obtain ⟨r8, hr8, h⟩ := h
    refine fx_getP (n := 29) dd_N_compare_26 fw_N_9 (by decide) rfl rfl q7.1 q7.2 hr8 ?_
    refine fx_iload_n (n := 30) dd_N_compare_29 rfl 3 rfl rfl ?_
    obtain ⟨q9, h⟩ := h
    obtain ⟨q10, h⟩ := h
    refine fx_iald (n := 31) dd_N_compare_30 rfl q9.1 q9.2 q10 ?_
    refine fx_icmp_eq (n := 34) (tg := 48) dd_N_compare_31 rfl rfl (fun hc => ?_) (fun hc => ?_)
    · replace h := h.1 hc
      refine fx_iinc (n := 51) (L' := [(3, _), (0, _), (1, _), (2, _)]) dd_N_compare_48 3 rfl rfl (by decide) rfl rfl ?_
      refine fx_goto (n := 14) dd_N_compare_51 rfl ?_
      refine fx_sub (L' := [(0, _), (1, _), (2, _), (3, _)]) [1, 2, 3, 0] rfl ?_
      exact h
    · replace h := h.2 hc
      refine fx_aload_n (n := 35) dd_N_compare_34 rfl 0 rfl rfl ?_
      obtain ⟨r11, hr11, h⟩ := h
      refine fx_getP (n := 38) dd_N_compare_35 fw_N_9 (by decide) rfl rfl q3.1 q3.2 hr11 ?_
      refine fx_iload_n (n := 39) dd_N_compare_38 rfl 3 rfl rfl ?_
      obtain ⟨q12, h⟩ := h
      obtain ⟨q13, h⟩ := h
      refine fx_iald (n := 40) dd_N_compare_39 rfl q12.1 q12.2 q13 ?_
      refine fx_aload_n (n := 41) dd_N_compare_40 rfl 1 rfl rfl ?_
      obtain ⟨r14, hr14, h⟩ := h
      refine fx_getP (n := 44) dd_N_compare_41 fw_N_9 (by decide) rfl rfl q7.1 q7.2 hr14 ?_
      refine fx_iload_n (n := 45) dd_N_compare_44 rfl 3 rfl rfl ?_
      obtain ⟨q15, h⟩ := h
      obtain ⟨q16, h⟩ := h
      refine fx_iald (n := 46) dd_N_compare_45 rfl q15.1 q15.2 q16 ?_
      refine fx_isub (n := 47) dd_N_compare_46 rfl ?_
      exact fx_iret dd_N_compare_47 rfl h
