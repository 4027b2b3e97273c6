theorem bk_A_fill_0 {G : fx_G} {S : fx_S} {Q : fx_R → fx_S → Prop} (v0 : Nat) (v1 : Int32) (h : fx_is S v0 100 ∧ fx_Go G (0, 0) mm_A_fill 5 [(0, fx_r G v0), (1, .int v1), (2, .int 0), (3, .int (Int32.ofNat (fx_ln S v0)))] [] S Q) :
    fx_Go G (0, 0) mm_A_fill 0 [(0, fx_r G v0), (1, .int v1)] [] S Q := by
  refine fx_iconst (n := 1) (v := 0) dd_A_fill_0 (by decide) rfl ?_
  refine fx_istore_n (n := 2) (L' := [(2, _), (0, _), (1, _)]) dd_A_fill_1 rfl (by decide) rfl rfl ?_
  refine fx_aload_n (n := 3) dd_A_fill_2 rfl 1 rfl rfl ?_
  obtain ⟨q1, h⟩ := h
  refine fx_alen (n := 4) dd_A_fill_3 rfl q1.1 q1.2 ?_
  refine fx_istore_n (n := 5) (L' := [(3, _), (2, _), (0, _), (1, _)]) dd_A_fill_4 rfl (by decide) rfl rfl ?_
  refine fx_sub (L' := [(0, _), (1, _), (2, _), (3, _)]) [2, 3, 1, 0] rfl ?_
  exact h
theorem bk_A_fill_5 {G : fx_G} {S : fx_S} {Q : fx_R → fx_S → Prop} (v0 : Nat) (v1 : Int32) (v2 : Int32) (v3 : Int32) (h : (v3 ≤ v2 → Q (.inl none) S) ∧ (¬ v3 ≤ v2 → fx_is S v0 100 ∧ vp_in v2 (fx_ln S v0) ∧ ∀ S3, S3 = fx_setI S v0 (v2.toNatClampNeg) v1 → fx_Go G (0, 0) mm_A_fill 5 [(0, fx_r G v0), (1, .int v1), (2, .int (v2 + Int32.ofInt 1)), (3, .int v3)] [] S3 Q)) :
    fx_Go G (0, 0) mm_A_fill 5 [(0, fx_r G v0), (1, .int v1), (2, .int v2), (3, .int v3)] [] S Q := by
  refine fx_iload_n (n := 6) dd_A_fill_5 rfl 2 rfl rfl ?_
  refine fx_iload_n (n := 7) dd_A_fill_6 rfl 3 rfl rfl ?_
  refine fx_icmp_ge (n := 10) (tg := 20) dd_A_fill_7 rfl rfl (fun hc => ?_) (fun hc => ?_)
  · replace h := h.1 hc
    exact fx_vret dd_A_fill_20 rfl h
  · replace h := h.2 hc
    refine fx_aload_n (n := 11) dd_A_fill_10 rfl 0 rfl rfl ?_
    refine fx_iload_n (n := 12) dd_A_fill_11 rfl 2 rfl rfl ?_
    refine fx_iload_n (n := 13) dd_A_fill_12 rfl 1 rfl rfl ?_
    obtain ⟨q1, h⟩ := h
    obtain ⟨q2, h⟩ := h
    replace h := h _ rfl
    refine fx_iast (n := 14) dd_A_fill_13 rfl q1.1 q1.2 q2 ?_
    refine fx_iinc (n := 17) (L' := [(2, _), (0, _), (1, _), (3, _)]) dd_A_fill_14 2 rfl rfl (by decide) rfl rfl ?_
    refine fx_goto (n := 5) dd_A_fill_17 rfl ?_
    refine fx_sub (L' := [(0, _), (1, _), (2, _), (3, _)]) [1, 2, 0, 3] rfl ?_
    exact h
theorem bk_L_create_0 {G : fx_G} {S : fx_S} {Q : fx_R → fx_S → Prop} (v0 : Nat) (v1 : Int32) (v2 : Int32) (v3 : Nat) (h : fx_is S v0 4 ∧ fx_Go G (8, 109) mm_V_create 0 [(0, fx_r G v0), (1, .int v1), (2, .int v2)] [] S (fx_qh (fun x3 S1 => fx_is S1 v3 103 ∧ vp_in 0 (fx_ln S1 v3) ∧ ∀ S6, S6 = fx_setJ S1 v3 ((0 : Int32).toNatClampNeg) x3.toInt64 → Q (.inl (some (.int 0))) S6) (fun k S1 => (k = 1 ∧ Q (.inl (some (.int 1))) S1) ∨ (k = 2 ∧ Q (.inl (some (.int 2))) S1) ∨ (k = 3 ∧ Q (.inl (some (.int 3))) S1)))) :
    fx_Go G (9, 126) mm_L_create 0 [(0, fx_r G v0), (1, .int v1), (2, .int v2), (3, fx_r G v3)] [] S Q := by
  refine fx_aload_n (n := 1) dd_L_create_0 rfl 3 rfl rfl ?_
  refine fx_iconst (n := 2) (v := 0) dd_L_create_1 (by decide) rfl ?_
  refine fx_aload_n (n := 3) dd_L_create_2 rfl 0 rfl rfl ?_
  refine fx_iload_n (n := 4) dd_L_create_3 rfl 1 rfl rfl ?_
  refine fx_iload_n (n := 5) dd_L_create_4 rfl 2 rfl rfl ?_
  obtain ⟨q2, h⟩ := h
  refine fx_callVH (n := 8) (vs := [_, _]) dd_L_create_5 mw_V_create ⟨wd_309, wd_310, wd_311⟩ rfl (by decide) q2.1 q2.2 rfl rfl ⟨Nat.le_of_ble_eq_true rfl, Nat.le_of_ble_eq_true rfl, Nat.le_of_ble_eq_true rfl, rfl⟩ rfl h (fx_qh_k fun x3 S1 h => ?_) (fun k S1 h => ?_)
  · skip
    refine fx_i2l (n := 9) dd_L_create_8 rfl ?_
    obtain ⟨q4, h⟩ := h
    obtain ⟨q5, h⟩ := h
    replace h := h _ rfl
    refine fx_last (n := 10) dd_L_create_9 rfl q4.1 q4.2 q5 ?_
    refine fx_goto (n := 25) dd_L_create_10 rfl ?_
    refine fx_iconst (n := 26) (v := 0) dd_L_create_25 (by decide) rfl ?_
    exact fx_iret dd_L_create_26 rfl h
  · rcases h with ⟨rfl, h⟩ | ⟨rfl, h⟩ | ⟨rfl, h⟩
    · refine ⟨13, hd_L_create_1, fun xa => ?_⟩
      refine fx_astore (n := 15) (L' := [(4, _), (0, _), (1, _), (2, _), (3, _)]) dd_L_create_13 (by decide) rfl rfl ?_
      refine fx_iconst (n := 16) (v := 1) dd_L_create_15 (by decide) rfl ?_
      exact fx_iret dd_L_create_16 rfl h
    · refine ⟨17, hd_L_create_2, fun xa => ?_⟩
      refine fx_astore (n := 19) (L' := [(4, _), (0, _), (1, _), (2, _), (3, _)]) dd_L_create_17 (by decide) rfl rfl ?_
      refine fx_iconst (n := 20) (v := 2) dd_L_create_19 (by decide) rfl ?_
      exact fx_iret dd_L_create_20 rfl h
    · refine ⟨21, hd_L_create_3, fun xa => ?_⟩
      refine fx_astore (n := 23) (L' := [(4, _), (0, _), (1, _), (2, _), (3, _)]) dd_L_create_21 (by decide) rfl rfl ?_
      refine fx_iconst (n := 24) (v := 3) dd_L_create_23 (by decide) rfl ?_
      exact fx_iret dd_L_create_24 rfl h
theorem bk_L_write_0 {G : fx_G} {S : fx_S} {Q : fx_R → fx_S → Prop} (v0 : Nat) (v1 : Int32) (v2 : Int32) (v3 : Int32) (v4 : Int32) (v5 : Nat) (h : fx_is S v0 4 ∧ fx_Go G (8, 109) mm_V_write 0 [(0, fx_r G v0), (1, .int v1), (2, .int v2), (3, .int v3), (4, .int v4)] [] S (fx_qh (fun x3 S1 => fx_is S1 v5 103 ∧ vp_in 0 (fx_ln S1 v5) ∧ ∀ S6, S6 = fx_setJ S1 v5 ((0 : Int32).toNatClampNeg) x3.toInt64 → Q (.inl (some (.int 0))) S6) (fun k S1 => (k = 1 ∧ Q (.inl (some (.int 1))) S1) ∨ (k = 2 ∧ Q (.inl (some (.int 2))) S1) ∨ (k = 3 ∧ Q (.inl (some (.int 3))) S1)))) :
    fx_Go G (9, 129) mm_L_write 0 [(0, fx_r G v0), (1, .int v1), (2, .int v2), (3, .int v3), (4, .int v4), (5, fx_r G v5)] [] S Q := by
  refine fx_aload (n := 2) dd_L_write_0 5 rfl rfl ?_
  refine fx_iconst (n := 3) (v := 0) dd_L_write_2 (by decide) rfl ?_
  refine fx_aload_n (n := 4) dd_L_write_3 rfl 0 rfl rfl ?_
  refine fx_iload_n (n := 5) dd_L_write_4 rfl 1 rfl rfl ?_
  refine fx_iload_n (n := 6) dd_L_write_5 rfl 2 rfl rfl ?_
  refine fx_iload_n (n := 7) dd_L_write_6 rfl 3 rfl rfl ?_
  refine fx_iload (n := 9) dd_L_write_7 4 rfl rfl ?_
  obtain ⟨q2, h⟩ := h
  refine fx_callVH (n := 12) (vs := [_, _, _, _]) dd_L_write_9 mw_V_write ⟨wd_453, wd_454, wd_455⟩ rfl (by decide) q2.1 q2.2 rfl rfl ⟨Nat.le_of_ble_eq_true rfl, Nat.le_of_ble_eq_true rfl, Nat.le_of_ble_eq_true rfl, rfl⟩ rfl h (fx_qh_k fun x3 S1 h => ?_) (fun k S1 h => ?_)
  · skip
    refine fx_i2l (n := 13) dd_L_write_12 rfl ?_
    obtain ⟨q4, h⟩ := h
    obtain ⟨q5, h⟩ := h
    replace h := h _ rfl
    refine fx_last (n := 14) dd_L_write_13 rfl q4.1 q4.2 q5 ?_
    refine fx_goto (n := 29) dd_L_write_14 rfl ?_
    refine fx_iconst (n := 30) (v := 0) dd_L_write_29 (by decide) rfl ?_
    exact fx_iret dd_L_write_30 rfl h
  · rcases h with ⟨rfl, h⟩ | ⟨rfl, h⟩ | ⟨rfl, h⟩
    · refine ⟨17, hd_L_write_1, fun xa => ?_⟩
      refine fx_astore (n := 19) (L' := [(6, _), (0, _), (1, _), (2, _), (3, _), (4, _), (5, _)]) dd_L_write_17 (by decide) rfl rfl ?_
      refine fx_iconst (n := 20) (v := 1) dd_L_write_19 (by decide) rfl ?_
      exact fx_iret dd_L_write_20 rfl h
    · refine ⟨21, hd_L_write_2, fun xa => ?_⟩
      refine fx_astore (n := 23) (L' := [(6, _), (0, _), (1, _), (2, _), (3, _), (4, _), (5, _)]) dd_L_write_21 (by decide) rfl rfl ?_
      refine fx_iconst (n := 24) (v := 2) dd_L_write_23 (by decide) rfl ?_
      exact fx_iret dd_L_write_24 rfl h
    · refine ⟨25, hd_L_write_3, fun xa => ?_⟩
      refine fx_astore (n := 27) (L' := [(6, _), (0, _), (1, _), (2, _), (3, _), (4, _), (5, _)]) dd_L_write_25 (by decide) rfl rfl ?_
      refine fx_iconst (n := 28) (v := 3) dd_L_write_27 (by decide) rfl ?_
      exact fx_iret dd_L_write_28 rfl h
theorem bk_L_cut_0 {G : fx_G} {S : fx_S} {Q : fx_R → fx_S → Prop} (v0 : Nat) (v1 : Int32) (v2 : Int32) (v3 : Nat) (h : fx_is S v0 4 ∧ fx_Go G (8, 109) mm_V_cut 0 [(0, fx_r G v0), (1, .int v1), (2, .int v2)] [] S (fx_qh (fun x3 S1 => fx_is S1 v3 103 ∧ vp_in 0 (fx_ln S1 v3) ∧ ∀ S6, S6 = fx_setJ S1 v3 ((0 : Int32).toNatClampNeg) x3.toInt64 → Q (.inl (some (.int 0))) S6) (fun k S1 => (k = 1 ∧ Q (.inl (some (.int 1))) S1) ∨ (k = 2 ∧ Q (.inl (some (.int 2))) S1)))) :
    fx_Go G (9, 127) mm_L_cut 0 [(0, fx_r G v0), (1, .int v1), (2, .int v2), (3, fx_r G v3)] [] S Q := by
  refine fx_aload_n (n := 1) dd_L_cut_0 rfl 3 rfl rfl ?_
  refine fx_iconst (n := 2) (v := 0) dd_L_cut_1 (by decide) rfl ?_
  refine fx_aload_n (n := 3) dd_L_cut_2 rfl 0 rfl rfl ?_
  refine fx_iload_n (n := 4) dd_L_cut_3 rfl 1 rfl rfl ?_
  refine fx_iload_n (n := 5) dd_L_cut_4 rfl 2 rfl rfl ?_
  obtain ⟨q2, h⟩ := h
  refine fx_callVH (n := 8) (vs := [_, _]) dd_L_cut_5 mw_V_cut ⟨wd_518, wd_519, wd_520⟩ rfl (by decide) q2.1 q2.2 rfl rfl ⟨Nat.le_of_ble_eq_true rfl, Nat.le_of_ble_eq_true rfl, Nat.le_of_ble_eq_true rfl, rfl⟩ rfl h (fx_qh_k fun x3 S1 h => ?_) (fun k S1 h => ?_)
  · skip
    refine fx_i2l (n := 9) dd_L_cut_8 rfl ?_
    obtain ⟨q4, h⟩ := h
    obtain ⟨q5, h⟩ := h
    replace h := h _ rfl
    refine fx_last (n := 10) dd_L_cut_9 rfl q4.1 q4.2 q5 ?_
    refine fx_goto (n := 21) dd_L_cut_10 rfl ?_
    refine fx_iconst (n := 22) (v := 0) dd_L_cut_21 (by decide) rfl ?_
    exact fx_iret dd_L_cut_22 rfl h
  · rcases h with ⟨rfl, h⟩ | ⟨rfl, h⟩
    · refine ⟨13, hd_L_cut_1, fun xa => ?_⟩
      refine fx_astore (n := 15) (L' := [(4, _), (0, _), (1, _), (2, _), (3, _)]) dd_L_cut_13 (by decide) rfl rfl ?_
      refine fx_iconst (n := 16) (v := 1) dd_L_cut_15 (by decide) rfl ?_
      exact fx_iret dd_L_cut_16 rfl h
    · refine ⟨17, hd_L_cut_2, fun xa => ?_⟩
      refine fx_astore (n := 19) (L' := [(4, _), (0, _), (1, _), (2, _), (3, _)]) dd_L_cut_17 (by decide) rfl rfl ?_
      refine fx_iconst (n := 20) (v := 2) dd_L_cut_19 (by decide) rfl ?_
      exact fx_iret dd_L_cut_20 rfl h
theorem bk_L_remove_0 {G : fx_G} {S : fx_S} {Q : fx_R → fx_S → Prop} (v0 : Nat) (v1 : Int32) (v2 : Nat) (h : fx_is S v0 4 ∧ fx_Go G (8, 109) mm_V_remove 0 [(0, fx_r G v0), (1, .int v1)] [] S (fx_qh (fun x3 S1 => fx_is S1 v2 103 ∧ vp_in 0 (fx_ln S1 v2) ∧ ∀ S6, S6 = fx_setJ S1 v2 ((0 : Int32).toNatClampNeg) x3.toInt64 → Q (.inl (some (.int 0))) S6) (fun k S1 => (k = 1 ∧ Q (.inl (some (.int 1))) S1) ∨ (k = 2 ∧ Q (.inl (some (.int 2))) S1)))) :
    fx_Go G (9, 127) mm_L_remove 0 [(0, fx_r G v0), (1, .int v1), (2, fx_r G v2)] [] S Q := by
  refine fx_aload_n (n := 1) dd_L_remove_0 rfl 2 rfl rfl ?_
  refine fx_iconst (n := 2) (v := 0) dd_L_remove_1 (by decide) rfl ?_
  refine fx_aload_n (n := 3) dd_L_remove_2 rfl 0 rfl rfl ?_
  refine fx_iload_n (n := 4) dd_L_remove_3 rfl 1 rfl rfl ?_
  obtain ⟨q2, h⟩ := h
  refine fx_callVH (n := 7) (vs := [_]) dd_L_remove_4 mw_V_remove ⟨wd_530, wd_531, wd_532⟩ rfl (by decide) q2.1 q2.2 rfl rfl ⟨Nat.le_of_ble_eq_true rfl, Nat.le_of_ble_eq_true rfl, Nat.le_of_ble_eq_true rfl, rfl⟩ rfl h (fx_qh_k fun x3 S1 h => ?_) (fun k S1 h => ?_)
  · skip
    refine fx_i2l (n := 8) dd_L_remove_7 rfl ?_
    obtain ⟨q4, h⟩ := h
    obtain ⟨q5, h⟩ := h
    replace h := h _ rfl
    refine fx_last (n := 9) dd_L_remove_8 rfl q4.1 q4.2 q5 ?_
    refine fx_goto (n := 18) dd_L_remove_9 rfl ?_
    refine fx_iconst (n := 19) (v := 0) dd_L_remove_18 (by decide) rfl ?_
    exact fx_iret dd_L_remove_19 rfl h
  · rcases h with ⟨rfl, h⟩ | ⟨rfl, h⟩
    · refine ⟨12, hd_L_remove_1, fun xa => ?_⟩
      refine fx_astore_n (n := 13) (L' := [(3, _), (0, _), (1, _), (2, _)]) dd_L_remove_12 rfl (by decide) rfl rfl ?_
      refine fx_iconst (n := 14) (v := 1) dd_L_remove_13 (by decide) rfl ?_
      exact fx_iret dd_L_remove_14 rfl h
    · refine ⟨15, hd_L_remove_2, fun xa => ?_⟩
      refine fx_astore_n (n := 16) (L' := [(3, _), (0, _), (1, _), (2, _)]) dd_L_remove_15 rfl (by decide) rfl rfl ?_
      refine fx_iconst (n := 17) (v := 2) dd_L_remove_16 (by decide) rfl ?_
      exact fx_iret dd_L_remove_17 rfl h
theorem bk_L_move_0 {G : fx_G} {S : fx_S} {Q : fx_R → fx_S → Prop} (v0 : Nat) (v1 : Int32) (v2 : Int32) (h : fx_is S v0 4 ∧ fx_Go G (8, 109) mm_V_move 0 [(0, fx_r G v0), (1, .int v1), (2, .int v2)] [] S (fx_qhv (fun S1 => Q (.inl (some (.int 0))) S1) (fun k S1 => (k = 1 ∧ Q (.inl (some (.int 1))) S1) ∨ (k = 2 ∧ Q (.inl (some (.int 2))) S1)))) :
    fx_Go G (9, 124) mm_L_move 0 [(0, fx_r G v0), (1, .int v1), (2, .int v2)] [] S Q := by
  refine fx_aload_n (n := 1) dd_L_move_0 rfl 0 rfl rfl ?_
  refine fx_iload_n (n := 2) dd_L_move_1 rfl 1 rfl rfl ?_
  refine fx_iload_n (n := 3) dd_L_move_2 rfl 2 rfl rfl ?_
  obtain ⟨q2, h⟩ := h
  refine fx_callVH (n := 6) (vs := [_, _]) dd_L_move_3 mw_V_move ⟨wd_541, wd_542, wd_543⟩ rfl (by decide) q2.1 q2.2 rfl rfl ⟨Nat.le_of_ble_eq_true rfl, Nat.le_of_ble_eq_true rfl, Nat.le_of_ble_eq_true rfl, rfl⟩ rfl h (fx_qhv_k fun S1 h => ?_) (fun k S1 h => ?_)
  · skip
    refine fx_goto (n := 15) dd_L_move_6 rfl ?_
    refine fx_iconst (n := 16) (v := 0) dd_L_move_15 (by decide) rfl ?_
    exact fx_iret dd_L_move_16 rfl h
  · rcases h with ⟨rfl, h⟩ | ⟨rfl, h⟩
    · refine ⟨9, hd_L_move_1, fun xa => ?_⟩
      refine fx_astore_n (n := 10) (L' := [(3, _), (0, _), (1, _), (2, _)]) dd_L_move_9 rfl (by decide) rfl rfl ?_
      refine fx_iconst (n := 11) (v := 1) dd_L_move_10 (by decide) rfl ?_
      exact fx_iret dd_L_move_11 rfl h
    · refine ⟨12, hd_L_move_2, fun xa => ?_⟩
      refine fx_astore_n (n := 13) (L' := [(3, _), (0, _), (1, _), (2, _)]) dd_L_move_12 rfl (by decide) rfl rfl ?_
      refine fx_iconst (n := 14) (v := 2) dd_L_move_13 (by decide) rfl ?_
      exact fx_iret dd_L_move_14 rfl h
theorem bk_L_mount_0 {G : fx_G} {S : fx_S} {Q : fx_R → fx_S → Prop} (v0 : Nat) (v1 : Nat) (h : fx_is S v0 4 ∧ fx_Go G (9, 125) mm_V_mount 0 [(0, fx_r G v0)] [] S (fx_qh (fun x3 S1 => fx_is S1 v1 103 ∧ vp_in 0 (fx_ln S1 v1) ∧ ∀ S6, S6 = fx_setJ S1 v1 ((0 : Int32).toNatClampNeg) x3.toInt64 → Q (.inl (some (.int 0))) S6) (fun k S1 => (k = 1 ∧ Q (.inl (some (.int 1))) S1)))) :
    fx_Go G (10, 140) mm_L_mount 0 [(0, fx_r G v0), (1, fx_r G v1)] [] S Q := by
  refine fx_aload_n (n := 1) dd_L_mount_0 rfl 1 rfl rfl ?_
  refine fx_iconst (n := 2) (v := 0) dd_L_mount_1 (by decide) rfl ?_
  refine fx_aload_n (n := 3) dd_L_mount_2 rfl 0 rfl rfl ?_
  obtain ⟨q2, h⟩ := h
  refine fx_callVH (n := 6) (vs := []) dd_L_mount_3 mw_V_mount ⟨wd_552, wd_553, wd_554⟩ rfl (by decide) q2.1 q2.2 rfl rfl ⟨Nat.le_of_ble_eq_true rfl, Nat.le_of_ble_eq_true rfl, Nat.le_of_ble_eq_true rfl, rfl⟩ rfl h (fx_qh_k fun x3 S1 h => ?_) (fun k S1 h => ?_)
  · skip
    refine fx_i2l (n := 7) dd_L_mount_6 rfl ?_
    obtain ⟨q4, h⟩ := h
    obtain ⟨q5, h⟩ := h
    replace h := h _ rfl
    refine fx_last (n := 8) dd_L_mount_7 rfl q4.1 q4.2 q5 ?_
    refine fx_goto (n := 14) dd_L_mount_8 rfl ?_
    refine fx_iconst (n := 15) (v := 0) dd_L_mount_14 (by decide) rfl ?_
    exact fx_iret dd_L_mount_15 rfl h
  · rcases h with ⟨rfl, h⟩
    refine ⟨11, hd_L_mount_1, fun xa => ?_⟩
    refine fx_astore_n (n := 12) (L' := [(2, _), (0, _), (1, _)]) dd_L_mount_11 rfl (by decide) rfl rfl ?_
    refine fx_iconst (n := 13) (v := 1) dd_L_mount_12 (by decide) rfl ?_
    exact fx_iret dd_L_mount_13 rfl h
theorem bk_L_law_0 {G : fx_G} {S : fx_S} {Q : fx_R → fx_S → Prop} {b Ln : Nat} {xs : Nat → Int32} (hX : va_X b Ln xs G.1 G.1.heap) (hb : b < fx_B G) (h : fx_room S 9 ∧ ∀ S1, S1 = fx_new S 4 0 9 → fx_Go G (4, 60) mm_V_init 0 [(0, fx_r G (fx_m S))] [] S1 (fx_qv (fun S3 => fx_room S3 17 ∧ ∀ S4, S4 = fx_new S3 5 0 17 → fx_Go G (2, 31) mm_M_init 0 [(0, fx_r G (fx_m S3))] [] S4 (fx_qv (fun S6 => fx_room S6 1 ∧ ∀ S7, S7 = fx_new S6 103 1 1 → fx_Go G (11, 154) mm_L_law 23 [(0, .ref b), (1, fx_r G (fx_m S)), (2, fx_r G (fx_m S3)), (3, fx_r G (fx_m S6)), (4, .int 0)] [] S7 Q) Q)) Q)) :
    fx_Go G (11, 154) mm_L_law 0 [(0, .ref b)] [] S Q := by
  obtain ⟨q2, h⟩ := h
  replace h := h _ rfl
  refine fx_newc (n := 3) dd_L_law_0 cw_4 (by decide) ⟨wd_16, wd_17, wd_1⟩ rfl q2.1 q2.2.1 q2.2.2 ?_
  refine fx_dup (n := 4) dd_L_law_3 rfl rfl ?_
  refine fx_callI (n := 7) (vs := []) dd_L_law_4 mw_V_init ⟨rfl, rfl, rfl⟩ ⟨wd_18, wd_19, wd_20⟩ rfl rfl ⟨Nat.le_of_ble_eq_true rfl, Nat.le_of_ble_eq_true rfl, Nat.le_of_ble_eq_true rfl, fx_nx, rfl⟩ rfl h (fx_qv_k fun S3 h => ?_) (fun _ _ h => h)
  refine fx_astore_n (n := 8) (L' := [(1, _), (0, _)]) dd_L_law_7 rfl (by decide) rfl rfl ?_
  obtain ⟨q5, h⟩ := h
  replace h := h _ rfl
  refine fx_newc (n := 11) dd_L_law_8 cw_5 (by decide) ⟨wd_617, wd_618, wd_8⟩ rfl q5.1 q5.2.1 q5.2.2 ?_
  refine fx_dup (n := 12) dd_L_law_11 rfl rfl ?_
  refine fx_callI (n := 15) (vs := []) dd_L_law_12 mw_M_init ⟨rfl, rfl, rfl⟩ ⟨wd_619, wd_620, wd_621⟩ rfl rfl ⟨Nat.le_of_ble_eq_true rfl, Nat.le_of_ble_eq_true rfl, Nat.le_of_ble_eq_true rfl, fx_nx, rfl⟩ rfl h (fx_qv_k fun S6 h => ?_) (fun _ _ h => h)
  refine fx_astore_n (n := 16) (L' := [(2, _), (1, _), (0, _)]) dd_L_law_15 rfl (by decide) rfl rfl ?_
  refine fx_iconst (n := 17) (v := 1) dd_L_law_16 (by decide) rfl ?_
  obtain ⟨q8, h⟩ := h
  replace h := h _ rfl
  refine fx_newa (n := 19) (t := 3) (N := 1) dd_L_law_17 wd_923 (Or.inr (Or.inr (Or.inr ⟨rfl, rfl⟩))) rfl (by decide) (by decide) q8.1 q8.2.1 q8.2.2 ?_
  refine fx_astore_n (n := 20) (L' := [(3, _), (2, _), (1, _), (0, _)]) dd_L_law_19 rfl (by decide) rfl rfl ?_
  refine fx_iconst (n := 21) (v := 0) dd_L_law_20 (by decide) rfl ?_
  refine fx_istore (n := 23) (L' := [(4, _), (3, _), (2, _), (1, _), (0, _)]) dd_L_law_21 (by decide) rfl rfl ?_
  refine fx_sub (L' := [(0, _), (1, _), (2, _), (3, _), (4, _)]) [4, 3, 2, 1, 0] rfl ?_
  exact h
theorem bk_L_law_23 {G : fx_G} {S : fx_S} {Q : fx_R → fx_S → Prop} {b Ln : Nat} {xs : Nat → Int32} (hX : va_X b Ln xs G.1 G.1.heap) (hb : b < fx_B G) (v1 : Nat) (v2 : Nat) (v3 : Nat) (v4 : Int32) (h : (((Int32.ofNat Ln) - 5) < v4 → Q (.inl (some (.int 1))) S) ∧ (¬ ((Int32.ofNat Ln) - 5) < v4 → vp_in v4 Ln ∧ (((xs (v4.toNatClampNeg)) &&& 15) = 0 → vp_in (v4 + 1) Ln ∧ fx_is S v1 4 ∧ fx_Go G (1, 14) mm_V_type 0 [(0, fx_r G v1), (1, .int (((xs ((v4 + 1).toNatClampNeg)).toUInt32 % 65536).toInt32))] [] S (fx_qi (fun x5 S3 => vp_in (v4 + 1) Ln ∧ fx_is S3 v2 5 ∧ fx_Go G (0, 0) mm_M_type 0 [(0, fx_r G v2), (1, .int (((xs ((v4 + 1).toNatClampNeg)).toUInt32 % 65536).toInt32))] [] S3 (fx_qi (fun x9 S7 => (x5 = x9 → fx_Go G (11, 154) mm_L_law 755 [(0, .ref b), (1, fx_r G v1), (2, fx_r G v2), (3, fx_r G v3), (4, .int v4)] [] S7 Q) ∧ (¬ x5 = x9 → Q (.inl (some (.int 0))) S7)) Q)) Q)) ∧ (((xs (v4.toNatClampNeg)) &&& 15) = 1 → vp_in (v4 + 1) Ln ∧ vp_in (v4 + 2) Ln ∧ ((xs ((v4 + 2).toNatClampNeg)) = 0 → fx_Go G (11, 154) mm_L_law 160 [(0, .ref b), (1, fx_r G v1), (2, fx_r G v2), (3, fx_r G v3), (4, .int v4)] [.int 0, .int (xs ((v4 + 1).toNatClampNeg)), fx_r G v1] S Q) ∧ (¬ (xs ((v4 + 2).toNatClampNeg)) = 0 → fx_Go G (11, 154) mm_L_law 160 [(0, .ref b), (1, fx_r G v1), (2, fx_r G v2), (3, fx_r G v3), (4, .int v4)] [.int 1, .int (xs ((v4 + 1).toNatClampNeg)), fx_r G v1] S Q)) ∧ (((xs (v4.toNatClampNeg)) &&& 15) = 2 → vp_in (v4 + 1) Ln ∧ vp_in (v4 + 2) Ln ∧ vp_in (v4 + 3) Ln ∧ vp_in (v4 + 4) Ln ∧ fx_Go G (9, 129) mm_L_write 0 [(0, fx_r G v1), (1, .int (xs ((v4 + 1).toNatClampNeg))), (2, .int (xs ((v4 + 2).toNatClampNeg))), (3, .int (xs ((v4 + 3).toNatClampNeg))), (4, .int (xs ((v4 + 4).toNatClampNeg))), (5, fx_r G v3)] [] S (fx_qi (fun x17 S16 => vp_in (v4 + 1) Ln ∧ vp_in (v4 + 2) Ln ∧ vp_in (v4 + 3) Ln ∧ vp_in (v4 + 4) Ln ∧ fx_is S16 v2 5 ∧ fx_Go G (5, 82) mm_M_write 0 [(0, fx_r G v2), (1, .int (xs ((v4 + 1).toNatClampNeg))), (2, .int (xs ((v4 + 2).toNatClampNeg))), (3, .int (xs ((v4 + 3).toNatClampNeg))), (4, .int (xs ((v4 + 4).toNatClampNeg)))] [] S16 (fx_qi (fun x24 S22 => fx_is S22 v2 5 ∧ fx_Go G (0, 0) mm_M_thrown 0 [(0, fx_r G v2)] [] S22 (fx_qi (fun x27 S25 => (x27 = x17 → (¬ x17 = 0 → fx_Go G (11, 154) mm_L_law 755 [(0, .ref b), (1, fx_r G v1), (2, fx_r G v2), (3, fx_r G v3), (4, .int v4)] [] S25 Q) ∧ (x17 = 0 → fx_is S25 v3 103 ∧ vp_in 0 (fx_ln S25 v3) ∧ ((lg_cmp (fx_J S25 v3 ((0 : Int32).toNatClampNeg)) x24.toInt64) = 0 → fx_Go G (11, 154) mm_L_law 755 [(0, .ref b), (1, fx_r G v1), (2, fx_r G v2), (3, fx_r G v3), (4, .int v4)] [] S25 Q) ∧ (¬ (lg_cmp (fx_J S25 v3 ((0 : Int32).toNatClampNeg)) x24.toInt64) = 0 → Q (.inl (some (.int 0))) S25))) ∧ (¬ x27 = x17 → Q (.inl (some (.int 0))) S25)) Q)) Q)) Q)) ∧ (((xs (v4.toNatClampNeg)) &&& 15) = 3 → vp_in (v4 + 1) Ln ∧ vp_in (v4 + 2) Ln ∧ fx_Go G (9, 127) mm_L_cut 0 [(0, fx_r G v1), (1, .int (xs ((v4 + 1).toNatClampNeg))), (2, .int (xs ((v4 + 2).toNatClampNeg))), (3, fx_r G v3)] [] S (fx_qi (fun x33 S32 => vp_in (v4 + 1) Ln ∧ vp_in (v4 + 2) Ln ∧ fx_is S32 v2 5 ∧ fx_Go G (4, 60) mm_M_cut 0 [(0, fx_r G v2), (1, .int (xs ((v4 + 1).toNatClampNeg))), (2, .int (xs ((v4 + 2).toNatClampNeg)))] [] S32 (fx_qi (fun x38 S36 => fx_is S36 v2 5 ∧ fx_Go G (0, 0) mm_M_thrown 0 [(0, fx_r G v2)] [] S36 (fx_qi (fun x41 S39 => (x41 = x33 → (¬ x33 = 0 → fx_Go G (11, 154) mm_L_law 755 [(0, .ref b), (1, fx_r G v1), (2, fx_r G v2), (3, fx_r G v3), (4, .int v4)] [] S39 Q) ∧ (x33 = 0 → fx_is S39 v3 103 ∧ vp_in 0 (fx_ln S39 v3) ∧ ((lg_cmp (fx_J S39 v3 ((0 : Int32).toNatClampNeg)) x38.toInt64) = 0 → fx_Go G (11, 154) mm_L_law 755 [(0, .ref b), (1, fx_r G v1), (2, fx_r G v2), (3, fx_r G v3), (4, .int v4)] [] S39 Q) ∧ (¬ (lg_cmp (fx_J S39 v3 ((0 : Int32).toNatClampNeg)) x38.toInt64) = 0 → Q (.inl (some (.int 0))) S39))) ∧ (¬ x41 = x33 → Q (.inl (some (.int 0))) S39)) Q)) Q)) Q)) ∧ (((xs (v4.toNatClampNeg)) &&& 15) = 4 → vp_in (v4 + 1) Ln ∧ fx_Go G (9, 127) mm_L_remove 0 [(0, fx_r G v1), (1, .int (xs ((v4 + 1).toNatClampNeg))), (2, fx_r G v3)] [] S (fx_qi (fun x46 S45 => vp_in (v4 + 1) Ln ∧ fx_is S45 v2 5 ∧ fx_Go G (5, 74) mm_M_remove 0 [(0, fx_r G v2), (1, .int (xs ((v4 + 1).toNatClampNeg)))] [] S45 (fx_qi (fun x50 S48 => fx_is S48 v2 5 ∧ fx_Go G (0, 0) mm_M_thrown 0 [(0, fx_r G v2)] [] S48 (fx_qi (fun x53 S51 => (x53 = x46 → (¬ x46 = 0 → fx_Go G (11, 154) mm_L_law 755 [(0, .ref b), (1, fx_r G v1), (2, fx_r G v2), (3, fx_r G v3), (4, .int v4)] [] S51 Q) ∧ (x46 = 0 → fx_is S51 v3 103 ∧ vp_in 0 (fx_ln S51 v3) ∧ ((lg_cmp (fx_J S51 v3 ((0 : Int32).toNatClampNeg)) x50.toInt64) = 0 → fx_Go G (11, 154) mm_L_law 755 [(0, .ref b), (1, fx_r G v1), (2, fx_r G v2), (3, fx_r G v3), (4, .int v4)] [] S51 Q) ∧ (¬ (lg_cmp (fx_J S51 v3 ((0 : Int32).toNatClampNeg)) x50.toInt64) = 0 → Q (.inl (some (.int 0))) S51))) ∧ (¬ x53 = x46 → Q (.inl (some (.int 0))) S51)) Q)) Q)) Q)) ∧ (((xs (v4.toNatClampNeg)) &&& 15) = 5 → vp_in (v4 + 1) Ln ∧ vp_in (v4 + 2) Ln ∧ fx_Go G (9, 124) mm_L_move 0 [(0, fx_r G v1), (1, .int (xs ((v4 + 1).toNatClampNeg))), (2, .int (xs ((v4 + 2).toNatClampNeg)))] [] S (fx_qi (fun x59 S58 => vp_in (v4 + 1) Ln ∧ vp_in (v4 + 2) Ln ∧ fx_is S58 v2 5 ∧ fx_Go G (6, 92) mm_M_move 0 [(0, fx_r G v2), (1, .int (xs ((v4 + 1).toNatClampNeg))), (2, .int (xs ((v4 + 2).toNatClampNeg)))] [] S58 (fx_qv (fun S62 => fx_is S62 v2 5 ∧ fx_Go G (0, 0) mm_M_thrown 0 [(0, fx_r G v2)] [] S62 (fx_qi (fun x66 S64 => (x66 = x59 → fx_Go G (11, 154) mm_L_law 755 [(0, .ref b), (1, fx_r G v1), (2, fx_r G v2), (3, fx_r G v3), (4, .int v4)] [] S64 Q) ∧ (¬ x66 = x59 → Q (.inl (some (.int 0))) S64)) Q)) Q)) Q)) ∧ (((xs (v4.toNatClampNeg)) &&& 15) = 6 → vp_in (v4 + 1) Ln ∧ fx_is S v1 4 ∧ fx_Go G (0, 0) mm_V_fail 0 [(0, fx_r G v1), (1, .int (xs ((v4 + 1).toNatClampNeg)))] [] S (fx_qi (fun x70 S68 => vp_in (v4 + 1) Ln ∧ fx_is S68 v2 5 ∧ fx_Go G (0, 0) mm_M_fail 0 [(0, fx_r G v2), (1, .int (xs ((v4 + 1).toNatClampNeg)))] [] S68 (fx_qi (fun x74 S72 => (x70 = x74 → fx_Go G (11, 154) mm_L_law 755 [(0, .ref b), (1, fx_r G v1), (2, fx_r G v2), (3, fx_r G v3), (4, .int v4)] [] S72 Q) ∧ (¬ x70 = x74 → Q (.inl (some (.int 0))) S72)) Q)) Q)) ∧ (((xs (v4.toNatClampNeg)) &&& 15) = 7 → fx_Go G (10, 140) mm_L_mount 0 [(0, fx_r G v1), (1, fx_r G v3)] [] S (fx_qi (fun x76 S75 => fx_is S75 v2 5 ∧ fx_Go G (7, 105) mm_M_mount 0 [(0, fx_r G v2)] [] S75 (fx_qi (fun x79 S77 => fx_is S77 v2 5 ∧ fx_Go G (0, 0) mm_M_thrown 0 [(0, fx_r G v2)] [] S77 (fx_qi (fun x82 S80 => (x82 = x76 → (¬ x76 = 0 → fx_Go G (11, 154) mm_L_law 755 [(0, .ref b), (1, fx_r G v1), (2, fx_r G v2), (3, fx_r G v3), (4, .int v4)] [] S80 Q) ∧ (x76 = 0 → fx_is S80 v3 103 ∧ vp_in 0 (fx_ln S80 v3) ∧ ((lg_cmp (fx_J S80 v3 ((0 : Int32).toNatClampNeg)) x79.toInt64) = 0 → fx_Go G (11, 154) mm_L_law 755 [(0, .ref b), (1, fx_r G v1), (2, fx_r G v2), (3, fx_r G v3), (4, .int v4)] [] S80 Q) ∧ (¬ (lg_cmp (fx_J S80 v3 ((0 : Int32).toNatClampNeg)) x79.toInt64) = 0 → Q (.inl (some (.int 0))) S80))) ∧ (¬ x82 = x76 → Q (.inl (some (.int 0))) S80)) Q)) Q)) Q)) ∧ (((xs (v4.toNatClampNeg)) &&& 15) = 8 → fx_is S v1 4 ∧ fx_Go G (0, 0) mm_V_on 0 [(0, fx_r G v1)] [] S (fx_qi (fun x87 S85 => fx_is S85 v2 5 ∧ fx_Go G (0, 0) mm_M_on 0 [(0, fx_r G v2)] [] S85 (fx_qi (fun x90 S88 => (x87 = x90 → fx_Go G (11, 154) mm_L_law 755 [(0, .ref b), (1, fx_r G v1), (2, fx_r G v2), (3, fx_r G v3), (4, .int v4)] [] S88 Q) ∧ (¬ x87 = x90 → Q (.inl (some (.int 0))) S88)) Q)) Q)) ∧ (((xs (v4.toNatClampNeg)) &&& 15) = 9 → vp_in (v4 + 1) Ln ∧ fx_is S v1 4 ∧ fx_Go G (3, 44) mm_V_find 0 [(0, fx_r G v1), (1, .int (xs ((v4 + 1).toNatClampNeg)))] [] S (fx_qi (fun x94 S92 => vp_in (v4 + 1) Ln ∧ fx_is S92 v2 5 ∧ fx_Go G (6, 89) mm_M_find 0 [(0, fx_r G v2), (1, .int (xs ((v4 + 1).toNatClampNeg)))] [] S92 (fx_qi (fun x98 S96 => (x94 = x98 → fx_Go G (11, 154) mm_L_law 755 [(0, .ref b), (1, fx_r G v1), (2, fx_r G v2), (3, fx_r G v3), (4, .int v4)] [] S96 Q) ∧ (¬ x94 = x98 → Q (.inl (some (.int 0))) S96)) Q)) Q)) ∧ (((xs (v4.toNatClampNeg)) &&& 15) = 10 → vp_in (v4 + 1) Ln ∧ vp_in (v4 + 2) Ln ∧ fx_is S v1 4 ∧ fx_Go G (4, 52) mm_V_record 0 [(0, fx_r G v1), (1, .int (xs ((v4 + 1).toNatClampNeg))), (2, .int (xs ((v4 + 2).toNatClampNeg)))] [] S (fx_qi (fun x103 S101 => vp_in (v4 + 1) Ln ∧ vp_in (v4 + 2) Ln ∧ fx_is S101 v2 5 ∧ fx_Go G (3, 47) mm_M_record 0 [(0, fx_r G v2), (1, .int (xs ((v4 + 1).toNatClampNeg))), (2, .int (xs ((v4 + 2).toNatClampNeg)))] [] S101 (fx_qi (fun x108 S106 => (x103 = x108 → fx_Go G (11, 154) mm_L_law 755 [(0, .ref b), (1, fx_r G v1), (2, fx_r G v2), (3, fx_r G v3), (4, .int v4)] [] S106 Q) ∧ (¬ x103 = x108 → Q (.inl (some (.int 0))) S106)) Q)) Q)) ∧ (((xs (v4.toNatClampNeg)) &&& 15) = 11 → vp_in (v4 + 1) Ln ∧ vp_in (v4 + 2) Ln ∧ fx_is S v1 4 ∧ fx_Go G (2, 28) mm_V_read 0 [(0, fx_r G v1), (1, .int (xs ((v4 + 1).toNatClampNeg))), (2, .int (xs ((v4 + 2).toNatClampNeg)))] [] S (fx_qi (fun x113 S111 => vp_in (v4 + 1) Ln ∧ vp_in (v4 + 2) Ln ∧ fx_is S111 v2 5 ∧ fx_Go G (3, 50) mm_M_read 0 [(0, fx_r G v2), (1, .int (xs ((v4 + 1).toNatClampNeg))), (2, .int (xs ((v4 + 2).toNatClampNeg)))] [] S111 (fx_qi (fun x118 S116 => (x113 = x118 → fx_Go G (11, 154) mm_L_law 755 [(0, .ref b), (1, fx_r G v1), (2, fx_r G v2), (3, fx_r G v3), (4, .int v4)] [] S116 Q) ∧ (¬ x113 = x118 → Q (.inl (some (.int 0))) S116)) Q)) Q)) ∧ (((xs (v4.toNatClampNeg)) &&& 15) = 12 → vp_in (v4 + 1) Ln ∧ vp_in (v4 + 2) Ln ∧ vp_in (v4 + 3) Ln ∧ fx_is S v1 4 ∧ fx_Go G (2, 28) mm_V_run 0 [(0, fx_r G v1), (1, .int (xs ((v4 + 1).toNatClampNeg))), (2, .int (xs ((v4 + 2).toNatClampNeg))), (3, .int (xs ((v4 + 3).toNatClampNeg)))] [] S (fx_qi (fun x124 S122 => vp_in (v4 + 1) Ln ∧ vp_in (v4 + 2) Ln ∧ vp_in (v4 + 3) Ln ∧ fx_is S122 v2 5 ∧ fx_Go G (3, 48) mm_M_run 0 [(0, fx_r G v2), (1, .int (xs ((v4 + 1).toNatClampNeg))), (2, .int (xs ((v4 + 2).toNatClampNeg))), (3, .int (xs ((v4 + 3).toNatClampNeg)))] [] S122 (fx_qi (fun x130 S128 => (x124 = x130 → fx_Go G (11, 154) mm_L_law 755 [(0, .ref b), (1, fx_r G v1), (2, fx_r G v2), (3, fx_r G v3), (4, .int v4)] [] S128 Q) ∧ (¬ x124 = x130 → Q (.inl (some (.int 0))) S128)) Q)) Q)) ∧ (((xs (v4.toNatClampNeg)) &&& 15) = 13 → fx_is S v1 4 ∧ fx_Go G (0, 0) mm_V_free 0 [(0, fx_r G v1)] [] S (fx_qi (fun x133 S131 => fx_is S131 v2 5 ∧ fx_Go G (1, 14) mm_M_free 0 [(0, fx_r G v2)] [] S131 (fx_qi (fun x136 S134 => (x133 = x136 → fx_Go G (11, 154) mm_L_law 755 [(0, .ref b), (1, fx_r G v1), (2, fx_r G v2), (3, fx_r G v3), (4, .int v4)] [] S134 Q) ∧ (¬ x133 = x136 → Q (.inl (some (.int 0))) S134)) Q)) Q)) ∧ (((xs (v4.toNatClampNeg)) &&& 15) = 14 → vp_in (v4 + 1) Ln ∧ fx_is S v1 4 ∧ fx_Go G (0, 0) mm_V_at 0 [(0, fx_r G v1), (1, .int (xs ((v4 + 1).toNatClampNeg)))] [] S (fx_qi (fun x140 S138 => vp_in (v4 + 1) Ln ∧ fx_is S138 v2 5 ∧ fx_Go G (0, 0) mm_M_at 0 [(0, fx_r G v2), (1, .int (xs ((v4 + 1).toNatClampNeg)))] [] S138 (fx_qi (fun x144 S142 => (x140 = x144 → fx_Go G (11, 154) mm_L_law 755 [(0, .ref b), (1, fx_r G v1), (2, fx_r G v2), (3, fx_r G v3), (4, .int v4)] [] S142 Q) ∧ (¬ x140 = x144 → Q (.inl (some (.int 0))) S142)) Q)) Q)) ∧ (¬ ((xs (v4.toNatClampNeg)) &&& 15) = 0 → ¬ ((xs (v4.toNatClampNeg)) &&& 15) = 1 → ¬ ((xs (v4.toNatClampNeg)) &&& 15) = 2 → ¬ ((xs (v4.toNatClampNeg)) &&& 15) = 3 → ¬ ((xs (v4.toNatClampNeg)) &&& 15) = 4 → ¬ ((xs (v4.toNatClampNeg)) &&& 15) = 5 → ¬ ((xs (v4.toNatClampNeg)) &&& 15) = 6 → ¬ ((xs (v4.toNatClampNeg)) &&& 15) = 7 → ¬ ((xs (v4.toNatClampNeg)) &&& 15) = 8 → ¬ ((xs (v4.toNatClampNeg)) &&& 15) = 9 → ¬ ((xs (v4.toNatClampNeg)) &&& 15) = 10 → ¬ ((xs (v4.toNatClampNeg)) &&& 15) = 11 → ¬ ((xs (v4.toNatClampNeg)) &&& 15) = 12 → ¬ ((xs (v4.toNatClampNeg)) &&& 15) = 13 → ¬ ((xs (v4.toNatClampNeg)) &&& 15) = 14 → fx_Go G (11, 154) mm_L_law 755 [(0, .ref b), (1, fx_r G v1), (2, fx_r G v2), (3, fx_r G v3), (4, .int v4)] [] S Q))) :
    fx_Go G (11, 154) mm_L_law 23 [(0, .ref b), (1, fx_r G v1), (2, fx_r G v2), (3, fx_r G v3), (4, .int v4)] [] S Q := by
  refine fx_iload (n := 25) dd_L_law_23 4 rfl rfl ?_
  refine fx_aload_n (n := 26) dd_L_law_25 rfl 0 rfl rfl ?_
  refine fx_slen (n := 27) dd_L_law_26 hX hb rfl ?_
  refine fx_iconst (n := 28) (v := 5) dd_L_law_27 (by decide) rfl ?_
  refine fx_isub (n := 29) dd_L_law_28 rfl ?_
  refine fx_icmp_gt (n := 32) (tg := 761) dd_L_law_29 rfl rfl (fun hc => ?_) (fun hc => ?_)
  · replace h := h.1 hc
    refine fx_iconst (n := 762) (v := 1) dd_L_law_761 (by decide) rfl ?_
    exact fx_zret dd_L_law_762 rfl rfl h
  · replace h := h.2 hc
    refine fx_aload_n (n := 33) dd_L_law_32 rfl 0 rfl rfl ?_
    refine fx_iload (n := 35) dd_L_law_33 4 rfl rfl ?_
    obtain ⟨q1, h⟩ := h
    refine fx_sld (n := 36) dd_L_law_35 hX hb rfl q1 ?_
    refine fx_bipush (n := 38) (v := 15) dd_L_law_36 (by decide) rfl ?_
    refine fx_iand (n := 39) dd_L_law_38 rfl ?_
    by_cases hx0 : ((xs (v4.toNatClampNeg)) &&& 15) = 0
    · refine fx_tableIn (n := 112) dd_L_law_39 (by rw [hx0]; decide) (by rw [hx0]; decide) (by rw [hx0]; rfl) rfl ?_
      replace h := h.1 hx0
      refine fx_aload_n (n := 113) dd_L_law_112 rfl 1 rfl rfl ?_
      refine fx_aload_n (n := 114) dd_L_law_113 rfl 0 rfl rfl ?_
      refine fx_iload (n := 116) dd_L_law_114 4 rfl rfl ?_
      refine fx_iconst (n := 117) (v := 1) dd_L_law_116 (by decide) rfl ?_
      refine fx_iadd (n := 118) dd_L_law_117 rfl ?_
      obtain ⟨q2, h⟩ := h
      refine fx_sld (n := 119) dd_L_law_118 hX hb rfl q2 ?_
      refine fx_i2c (n := 120) dd_L_law_119 rfl ?_
      obtain ⟨q4, h⟩ := h
      refine fx_callV (n := 123) (vs := [_]) dd_L_law_120 mw_V_type ⟨wd_199, wd_200, wd_201⟩ rfl (by decide) q4.1 q4.2 rfl rfl ⟨Nat.le_of_ble_eq_true rfl, Nat.le_of_ble_eq_true rfl, Nat.le_of_ble_eq_true rfl, fx_nx, rfl⟩ rfl h (fx_qi_k fun x5 S3 h => ?_) (fun _ _ h => h)
      refine fx_aload_n (n := 124) dd_L_law_123 rfl 2 rfl rfl ?_
      refine fx_aload_n (n := 125) dd_L_law_124 rfl 0 rfl rfl ?_
      refine fx_iload (n := 127) dd_L_law_125 4 rfl rfl ?_
      refine fx_iconst (n := 128) (v := 1) dd_L_law_127 (by decide) rfl ?_
      refine fx_iadd (n := 129) dd_L_law_128 rfl ?_
      obtain ⟨q6, h⟩ := h
      refine fx_sld (n := 130) dd_L_law_129 hX hb rfl q6 ?_
      refine fx_i2c (n := 131) dd_L_law_130 rfl ?_
      obtain ⟨q8, h⟩ := h
      refine fx_callV (n := 134) (vs := [_]) dd_L_law_131 mw_M_type ⟨wd_705, wd_706, wd_707⟩ rfl (by decide) q8.1 q8.2 rfl rfl ⟨Nat.le_of_ble_eq_true rfl, Nat.le_of_ble_eq_true rfl, Nat.le_of_ble_eq_true rfl, fx_nx, rfl⟩ rfl h (fx_qi_k fun x9 S7 h => ?_) (fun _ _ h => h)
      refine fx_icmp_eq (n := 137) (tg := 755) dd_L_law_134 rfl rfl (fun hc => ?_) (fun hc => ?_)
      · replace h := h.1 hc
        exact h
      · replace h := h.2 hc
        refine fx_iconst (n := 138) (v := 0) dd_L_law_137 (by decide) rfl ?_
        exact fx_zret dd_L_law_138 rfl rfl h
    by_cases hx1 : ((xs (v4.toNatClampNeg)) &&& 15) = 1
    · refine fx_tableIn (n := 139) dd_L_law_39 (by rw [hx1]; decide) (by rw [hx1]; decide) (by rw [hx1]; rfl) rfl ?_
      replace h := h.2.1 hx1
      refine fx_aload_n (n := 140) dd_L_law_139 rfl 1 rfl rfl ?_
      refine fx_aload_n (n := 141) dd_L_law_140 rfl 0 rfl rfl ?_
      refine fx_iload (n := 143) dd_L_law_141 4 rfl rfl ?_
      refine fx_iconst (n := 144) (v := 1) dd_L_law_143 (by decide) rfl ?_
      refine fx_iadd (n := 145) dd_L_law_144 rfl ?_
      obtain ⟨q10, h⟩ := h
      refine fx_sld (n := 146) dd_L_law_145 hX hb rfl q10 ?_
      refine fx_aload_n (n := 147) dd_L_law_146 rfl 0 rfl rfl ?_
      refine fx_iload (n := 149) dd_L_law_147 4 rfl rfl ?_
      refine fx_iconst (n := 150) (v := 2) dd_L_law_149 (by decide) rfl ?_
      refine fx_iadd (n := 151) dd_L_law_150 rfl ?_
      obtain ⟨q11, h⟩ := h
      refine fx_sld (n := 152) dd_L_law_151 hX hb rfl q11 ?_
      refine fx_if_eq (n := 155) (tg := 159) dd_L_law_152 rfl rfl (fun hc => ?_) (fun hc => ?_)
      · replace h := h.1 hc
        refine fx_iconst (n := 160) (v := 0) dd_L_law_159 (by decide) rfl ?_
        exact h
      · replace h := h.2 hc
        refine fx_iconst (n := 156) (v := 1) dd_L_law_155 (by decide) rfl ?_
        refine fx_goto (n := 160) dd_L_law_156 rfl ?_
        exact h
    by_cases hx2 : ((xs (v4.toNatClampNeg)) &&& 15) = 2
    · refine fx_tableIn (n := 223) dd_L_law_39 (by rw [hx2]; decide) (by rw [hx2]; decide) (by rw [hx2]; rfl) rfl ?_
      replace h := h.2.2.1 hx2
      refine fx_aload_n (n := 224) dd_L_law_223 rfl 1 rfl rfl ?_
      refine fx_aload_n (n := 225) dd_L_law_224 rfl 0 rfl rfl ?_
      refine fx_iload (n := 227) dd_L_law_225 4 rfl rfl ?_
      refine fx_iconst (n := 228) (v := 1) dd_L_law_227 (by decide) rfl ?_
      refine fx_iadd (n := 229) dd_L_law_228 rfl ?_
      obtain ⟨q12, h⟩ := h
      refine fx_sld (n := 230) dd_L_law_229 hX hb rfl q12 ?_
      refine fx_aload_n (n := 231) dd_L_law_230 rfl 0 rfl rfl ?_
      refine fx_iload (n := 233) dd_L_law_231 4 rfl rfl ?_
      refine fx_iconst (n := 234) (v := 2) dd_L_law_233 (by decide) rfl ?_
      refine fx_iadd (n := 235) dd_L_law_234 rfl ?_
      obtain ⟨q13, h⟩ := h
      refine fx_sld (n := 236) dd_L_law_235 hX hb rfl q13 ?_
      refine fx_aload_n (n := 237) dd_L_law_236 rfl 0 rfl rfl ?_
      refine fx_iload (n := 239) dd_L_law_237 4 rfl rfl ?_
      refine fx_iconst (n := 240) (v := 3) dd_L_law_239 (by decide) rfl ?_
      refine fx_iadd (n := 241) dd_L_law_240 rfl ?_
      obtain ⟨q14, h⟩ := h
      refine fx_sld (n := 242) dd_L_law_241 hX hb rfl q14 ?_
      refine fx_aload_n (n := 243) dd_L_law_242 rfl 0 rfl rfl ?_
      refine fx_iload (n := 245) dd_L_law_243 4 rfl rfl ?_
      refine fx_iconst (n := 246) (v := 4) dd_L_law_245 (by decide) rfl ?_
      refine fx_iadd (n := 247) dd_L_law_246 rfl ?_
      obtain ⟨q15, h⟩ := h
      refine fx_sld (n := 248) dd_L_law_247 hX hb rfl q15 ?_
      refine fx_aload_n (n := 249) dd_L_law_248 rfl 3 rfl rfl ?_
      refine fx_callS (n := 252) (vs := [_, _, _, _, _, _]) dd_L_law_249 mw_L_write ⟨wd_450, wd_451, wd_0⟩ rfl rfl ⟨Nat.le_of_ble_eq_true rfl, Nat.le_of_ble_eq_true rfl, Nat.le_of_ble_eq_true rfl, fx_nx, rfl⟩ rfl h (fx_qi_k fun x17 S16 h => ?_) (fun _ _ h => h)
      refine fx_istore (n := 254) (L' := [(5, _), (0, _), (1, _), (2, _), (3, _), (4, _)]) dd_L_law_252 (by decide) rfl rfl ?_
      refine fx_aload_n (n := 255) dd_L_law_254 rfl 3 rfl rfl ?_
      refine fx_aload_n (n := 256) dd_L_law_255 rfl 1 rfl rfl ?_
      refine fx_iload (n := 258) dd_L_law_256 5 rfl rfl ?_
      refine fx_iconst (n := 259) (v := 1) dd_L_law_258 (by decide) rfl ?_
      refine fx_iadd (n := 260) dd_L_law_259 rfl ?_
      obtain ⟨q18, h⟩ := h
      refine fx_sld (n := 261) dd_L_law_260 hX hb rfl q18 ?_
      refine fx_aload_n (n := 262) dd_L_law_261 rfl 1 rfl rfl ?_
      refine fx_iload (n := 264) dd_L_law_262 5 rfl rfl ?_
      refine fx_iconst (n := 265) (v := 2) dd_L_law_264 (by decide) rfl ?_
      refine fx_iadd (n := 266) dd_L_law_265 rfl ?_
      obtain ⟨q19, h⟩ := h
      refine fx_sld (n := 267) dd_L_law_266 hX hb rfl q19 ?_
      refine fx_aload_n (n := 268) dd_L_law_267 rfl 1 rfl rfl ?_
      refine fx_iload (n := 270) dd_L_law_268 5 rfl rfl ?_
      refine fx_iconst (n := 271) (v := 3) dd_L_law_270 (by decide) rfl ?_
      refine fx_iadd (n := 272) dd_L_law_271 rfl ?_
      obtain ⟨q20, h⟩ := h
      refine fx_sld (n := 273) dd_L_law_272 hX hb rfl q20 ?_
      refine fx_aload_n (n := 274) dd_L_law_273 rfl 1 rfl rfl ?_
      refine fx_iload (n := 276) dd_L_law_274 5 rfl rfl ?_
      refine fx_iconst (n := 277) (v := 4) dd_L_law_276 (by decide) rfl ?_
      refine fx_iadd (n := 278) dd_L_law_277 rfl ?_
      obtain ⟨q21, h⟩ := h
      refine fx_sld (n := 279) dd_L_law_278 hX hb rfl q21 ?_
      obtain ⟨q23, h⟩ := h
      refine fx_callV (n := 282) (vs := [_, _, _, _]) dd_L_law_279 mw_M_write ⟨wd_813, wd_814, wd_815⟩ rfl (by decide) q23.1 q23.2 rfl rfl ⟨Nat.le_of_ble_eq_true rfl, Nat.le_of_ble_eq_true rfl, Nat.le_of_ble_eq_true rfl, fx_nx, rfl⟩ rfl h (fx_qi_k fun x24 S22 h => ?_) (fun _ _ h => h)
      refine fx_istore (n := 284) (L' := [(6, _), (5, _), (0, _), (1, _), (2, _), (3, _), (4, _)]) dd_L_law_282 (by decide) rfl rfl ?_
      refine fx_aload_n (n := 285) dd_L_law_284 rfl 4 rfl rfl ?_
      obtain ⟨q26, h⟩ := h
      refine fx_callV (n := 288) (vs := []) dd_L_law_285 mw_M_thrown ⟨wd_701, wd_702, wd_703⟩ rfl (by decide) q26.1 q26.2 rfl rfl ⟨Nat.le_of_ble_eq_true rfl, Nat.le_of_ble_eq_true rfl, Nat.le_of_ble_eq_true rfl, fx_nx, rfl⟩ rfl h (fx_qi_k fun x27 S25 h => ?_) (fun _ _ h => h)
      refine fx_iload (n := 290) dd_L_law_288 1 rfl rfl ?_
      refine fx_icmp_eq (n := 293) (tg := 295) dd_L_law_290 rfl rfl (fun hc => ?_) (fun hc => ?_)
      · replace h := h.1 hc
        refine fx_iload (n := 297) dd_L_law_295 1 rfl rfl ?_
        refine fx_if_ne (n := 300) (tg := 312) dd_L_law_297 rfl rfl (fun hc => ?_) (fun hc => ?_)
        · replace h := h.1 hc
          refine fx_goto (n := 755) dd_L_law_312 rfl ?_
          refine fx_sub (L' := [(0, _), (1, _), (2, _), (3, _), (4, _)]) [2, 3, 4, 5, 6] rfl ?_
          exact h
        · replace h := h.2 hc
          refine fx_aload_n (n := 301) dd_L_law_300 rfl 5 rfl rfl ?_
          refine fx_iconst (n := 302) (v := 0) dd_L_law_301 (by decide) rfl ?_
          obtain ⟨q28, h⟩ := h
          obtain ⟨q29, h⟩ := h
          refine fx_lald (n := 303) dd_L_law_302 rfl q28.1 q28.2 q29 ?_
          refine fx_iload (n := 305) dd_L_law_303 0 rfl rfl ?_
          refine fx_i2l (n := 306) dd_L_law_305 rfl ?_
          refine fx_lcmp (n := 307) dd_L_law_306 rfl ?_
          refine fx_if_eq (n := 310) (tg := 312) dd_L_law_307 rfl rfl (fun hc => ?_) (fun hc => ?_)
          · replace h := h.1 hc
            refine fx_goto (n := 755) dd_L_law_312 rfl ?_
            refine fx_sub (L' := [(0, _), (1, _), (2, _), (3, _), (4, _)]) [2, 3, 4, 5, 6] rfl ?_
            exact h
          · replace h := h.2 hc
            refine fx_iconst (n := 311) (v := 0) dd_L_law_310 (by decide) rfl ?_
            exact fx_zret dd_L_law_311 rfl rfl h
      · replace h := h.2 hc
        refine fx_iconst (n := 294) (v := 0) dd_L_law_293 (by decide) rfl ?_
        exact fx_zret dd_L_law_294 rfl rfl h
    by_cases hx3 : ((xs (v4.toNatClampNeg)) &&& 15) = 3
    · refine fx_tableIn (n := 315) dd_L_law_39 (by rw [hx3]; decide) (by rw [hx3]; decide) (by rw [hx3]; rfl) rfl ?_
      replace h := h.2.2.2.1 hx3
      refine fx_aload_n (n := 316) dd_L_law_315 rfl 1 rfl rfl ?_
      refine fx_aload_n (n := 317) dd_L_law_316 rfl 0 rfl rfl ?_
      refine fx_iload (n := 319) dd_L_law_317 4 rfl rfl ?_
      refine fx_iconst (n := 320) (v := 1) dd_L_law_319 (by decide) rfl ?_
      refine fx_iadd (n := 321) dd_L_law_320 rfl ?_
      obtain ⟨q30, h⟩ := h
      refine fx_sld (n := 322) dd_L_law_321 hX hb rfl q30 ?_
      refine fx_aload_n (n := 323) dd_L_law_322 rfl 0 rfl rfl ?_
      refine fx_iload (n := 325) dd_L_law_323 4 rfl rfl ?_
      refine fx_iconst (n := 326) (v := 2) dd_L_law_325 (by decide) rfl ?_
      refine fx_iadd (n := 327) dd_L_law_326 rfl ?_
      obtain ⟨q31, h⟩ := h
      refine fx_sld (n := 328) dd_L_law_327 hX hb rfl q31 ?_
      refine fx_aload_n (n := 329) dd_L_law_328 rfl 3 rfl rfl ?_
      refine fx_callS (n := 332) (vs := [_, _, _, _]) dd_L_law_329 mw_L_cut ⟨wd_515, wd_516, wd_0⟩ rfl rfl ⟨Nat.le_of_ble_eq_true rfl, Nat.le_of_ble_eq_true rfl, Nat.le_of_ble_eq_true rfl, fx_nx, rfl⟩ rfl h (fx_qi_k fun x33 S32 h => ?_) (fun _ _ h => h)
      refine fx_istore (n := 334) (L' := [(5, _), (0, _), (1, _), (2, _), (3, _), (4, _)]) dd_L_law_332 (by decide) rfl rfl ?_
      refine fx_aload_n (n := 335) dd_L_law_334 rfl 3 rfl rfl ?_
      refine fx_aload_n (n := 336) dd_L_law_335 rfl 1 rfl rfl ?_
      refine fx_iload (n := 338) dd_L_law_336 5 rfl rfl ?_
      refine fx_iconst (n := 339) (v := 1) dd_L_law_338 (by decide) rfl ?_
      refine fx_iadd (n := 340) dd_L_law_339 rfl ?_
      obtain ⟨q34, h⟩ := h
      refine fx_sld (n := 341) dd_L_law_340 hX hb rfl q34 ?_
      refine fx_aload_n (n := 342) dd_L_law_341 rfl 1 rfl rfl ?_
      refine fx_iload (n := 344) dd_L_law_342 5 rfl rfl ?_
      refine fx_iconst (n := 345) (v := 2) dd_L_law_344 (by decide) rfl ?_
      refine fx_iadd (n := 346) dd_L_law_345 rfl ?_
      obtain ⟨q35, h⟩ := h
      refine fx_sld (n := 347) dd_L_law_346 hX hb rfl q35 ?_
      obtain ⟨q37, h⟩ := h
      refine fx_callV (n := 350) (vs := [_, _]) dd_L_law_347 mw_M_cut ⟨wd_859, wd_860, wd_861⟩ rfl (by decide) q37.1 q37.2 rfl rfl ⟨Nat.le_of_ble_eq_true rfl, Nat.le_of_ble_eq_true rfl, Nat.le_of_ble_eq_true rfl, fx_nx, rfl⟩ rfl h (fx_qi_k fun x38 S36 h => ?_) (fun _ _ h => h)
      refine fx_istore (n := 352) (L' := [(6, _), (5, _), (0, _), (1, _), (2, _), (3, _), (4, _)]) dd_L_law_350 (by decide) rfl rfl ?_
      refine fx_aload_n (n := 353) dd_L_law_352 rfl 4 rfl rfl ?_
      obtain ⟨q40, h⟩ := h
      refine fx_callV (n := 356) (vs := []) dd_L_law_353 mw_M_thrown ⟨wd_701, wd_702, wd_703⟩ rfl (by decide) q40.1 q40.2 rfl rfl ⟨Nat.le_of_ble_eq_true rfl, Nat.le_of_ble_eq_true rfl, Nat.le_of_ble_eq_true rfl, fx_nx, rfl⟩ rfl h (fx_qi_k fun x41 S39 h => ?_) (fun _ _ h => h)
      refine fx_iload (n := 358) dd_L_law_356 1 rfl rfl ?_
      refine fx_icmp_eq (n := 361) (tg := 363) dd_L_law_358 rfl rfl (fun hc => ?_) (fun hc => ?_)
      · replace h := h.1 hc
        refine fx_iload (n := 365) dd_L_law_363 1 rfl rfl ?_
        refine fx_if_ne (n := 368) (tg := 380) dd_L_law_365 rfl rfl (fun hc => ?_) (fun hc => ?_)
        · replace h := h.1 hc
          refine fx_goto (n := 755) dd_L_law_380 rfl ?_
          refine fx_sub (L' := [(0, _), (1, _), (2, _), (3, _), (4, _)]) [2, 3, 4, 5, 6] rfl ?_
          exact h
        · replace h := h.2 hc
          refine fx_aload_n (n := 369) dd_L_law_368 rfl 5 rfl rfl ?_
          refine fx_iconst (n := 370) (v := 0) dd_L_law_369 (by decide) rfl ?_
          obtain ⟨q42, h⟩ := h
          obtain ⟨q43, h⟩ := h
          refine fx_lald (n := 371) dd_L_law_370 rfl q42.1 q42.2 q43 ?_
          refine fx_iload (n := 373) dd_L_law_371 0 rfl rfl ?_
          refine fx_i2l (n := 374) dd_L_law_373 rfl ?_
          refine fx_lcmp (n := 375) dd_L_law_374 rfl ?_
          refine fx_if_eq (n := 378) (tg := 380) dd_L_law_375 rfl rfl (fun hc => ?_) (fun hc => ?_)
          · replace h := h.1 hc
            refine fx_goto (n := 755) dd_L_law_380 rfl ?_
            refine fx_sub (L' := [(0, _), (1, _), (2, _), (3, _), (4, _)]) [2, 3, 4, 5, 6] rfl ?_
            exact h
          · replace h := h.2 hc
            refine fx_iconst (n := 379) (v := 0) dd_L_law_378 (by decide) rfl ?_
            exact fx_zret dd_L_law_379 rfl rfl h
      · replace h := h.2 hc
        refine fx_iconst (n := 362) (v := 0) dd_L_law_361 (by decide) rfl ?_
        exact fx_zret dd_L_law_362 rfl rfl h
    by_cases hx4 : ((xs (v4.toNatClampNeg)) &&& 15) = 4
    · refine fx_tableIn (n := 383) dd_L_law_39 (by rw [hx4]; decide) (by rw [hx4]; decide) (by rw [hx4]; rfl) rfl ?_
      replace h := h.2.2.2.2.1 hx4
      refine fx_aload_n (n := 384) dd_L_law_383 rfl 1 rfl rfl ?_
      refine fx_aload_n (n := 385) dd_L_law_384 rfl 0 rfl rfl ?_
      refine fx_iload (n := 387) dd_L_law_385 4 rfl rfl ?_
      refine fx_iconst (n := 388) (v := 1) dd_L_law_387 (by decide) rfl ?_
      refine fx_iadd (n := 389) dd_L_law_388 rfl ?_
      obtain ⟨q44, h⟩ := h
      refine fx_sld (n := 390) dd_L_law_389 hX hb rfl q44 ?_
      refine fx_aload_n (n := 391) dd_L_law_390 rfl 3 rfl rfl ?_
      refine fx_callS (n := 394) (vs := [_, _, _]) dd_L_law_391 mw_L_remove ⟨wd_527, wd_528, wd_0⟩ rfl rfl ⟨Nat.le_of_ble_eq_true rfl, Nat.le_of_ble_eq_true rfl, Nat.le_of_ble_eq_true rfl, fx_nx, rfl⟩ rfl h (fx_qi_k fun x46 S45 h => ?_) (fun _ _ h => h)
      refine fx_istore (n := 396) (L' := [(5, _), (0, _), (1, _), (2, _), (3, _), (4, _)]) dd_L_law_394 (by decide) rfl rfl ?_
      refine fx_aload_n (n := 397) dd_L_law_396 rfl 3 rfl rfl ?_
      refine fx_aload_n (n := 398) dd_L_law_397 rfl 1 rfl rfl ?_
      refine fx_iload (n := 400) dd_L_law_398 5 rfl rfl ?_
      refine fx_iconst (n := 401) (v := 1) dd_L_law_400 (by decide) rfl ?_
      refine fx_iadd (n := 402) dd_L_law_401 rfl ?_
      obtain ⟨q47, h⟩ := h
      refine fx_sld (n := 403) dd_L_law_402 hX hb rfl q47 ?_
      obtain ⟨q49, h⟩ := h
      refine fx_callV (n := 406) (vs := [_]) dd_L_law_403 mw_M_remove ⟨wd_789, wd_790, wd_791⟩ rfl (by decide) q49.1 q49.2 rfl rfl ⟨Nat.le_of_ble_eq_true rfl, Nat.le_of_ble_eq_true rfl, Nat.le_of_ble_eq_true rfl, fx_nx, rfl⟩ rfl h (fx_qi_k fun x50 S48 h => ?_) (fun _ _ h => h)
      refine fx_istore (n := 408) (L' := [(6, _), (5, _), (0, _), (1, _), (2, _), (3, _), (4, _)]) dd_L_law_406 (by decide) rfl rfl ?_
      refine fx_aload_n (n := 409) dd_L_law_408 rfl 4 rfl rfl ?_
      obtain ⟨q52, h⟩ := h
      refine fx_callV (n := 412) (vs := []) dd_L_law_409 mw_M_thrown ⟨wd_701, wd_702, wd_703⟩ rfl (by decide) q52.1 q52.2 rfl rfl ⟨Nat.le_of_ble_eq_true rfl, Nat.le_of_ble_eq_true rfl, Nat.le_of_ble_eq_true rfl, fx_nx, rfl⟩ rfl h (fx_qi_k fun x53 S51 h => ?_) (fun _ _ h => h)
      refine fx_iload (n := 414) dd_L_law_412 1 rfl rfl ?_
      refine fx_icmp_eq (n := 417) (tg := 419) dd_L_law_414 rfl rfl (fun hc => ?_) (fun hc => ?_)
      · replace h := h.1 hc
        refine fx_iload (n := 421) dd_L_law_419 1 rfl rfl ?_
        refine fx_if_ne (n := 424) (tg := 436) dd_L_law_421 rfl rfl (fun hc => ?_) (fun hc => ?_)
        · replace h := h.1 hc
          refine fx_goto (n := 755) dd_L_law_436 rfl ?_
          refine fx_sub (L' := [(0, _), (1, _), (2, _), (3, _), (4, _)]) [2, 3, 4, 5, 6] rfl ?_
          exact h
        · replace h := h.2 hc
          refine fx_aload_n (n := 425) dd_L_law_424 rfl 5 rfl rfl ?_
          refine fx_iconst (n := 426) (v := 0) dd_L_law_425 (by decide) rfl ?_
          obtain ⟨q54, h⟩ := h
          obtain ⟨q55, h⟩ := h
          refine fx_lald (n := 427) dd_L_law_426 rfl q54.1 q54.2 q55 ?_
          refine fx_iload (n := 429) dd_L_law_427 0 rfl rfl ?_
          refine fx_i2l (n := 430) dd_L_law_429 rfl ?_
          refine fx_lcmp (n := 431) dd_L_law_430 rfl ?_
          refine fx_if_eq (n := 434) (tg := 436) dd_L_law_431 rfl rfl (fun hc => ?_) (fun hc => ?_)
          · replace h := h.1 hc
            refine fx_goto (n := 755) dd_L_law_436 rfl ?_
            refine fx_sub (L' := [(0, _), (1, _), (2, _), (3, _), (4, _)]) [2, 3, 4, 5, 6] rfl ?_
            exact h
          · replace h := h.2 hc
            refine fx_iconst (n := 435) (v := 0) dd_L_law_434 (by decide) rfl ?_
            exact fx_zret dd_L_law_435 rfl rfl h
      · replace h := h.2 hc
        refine fx_iconst (n := 418) (v := 0) dd_L_law_417 (by decide) rfl ?_
        exact fx_zret dd_L_law_418 rfl rfl h
    by_cases hx5 : ((xs (v4.toNatClampNeg)) &&& 15) = 5
    · refine fx_tableIn (n := 439) dd_L_law_39 (by rw [hx5]; decide) (by rw [hx5]; decide) (by rw [hx5]; rfl) rfl ?_
      replace h := h.2.2.2.2.2.1 hx5
      refine fx_aload_n (n := 440) dd_L_law_439 rfl 1 rfl rfl ?_
      refine fx_aload_n (n := 441) dd_L_law_440 rfl 0 rfl rfl ?_
      refine fx_iload (n := 443) dd_L_law_441 4 rfl rfl ?_
      refine fx_iconst (n := 444) (v := 1) dd_L_law_443 (by decide) rfl ?_
      refine fx_iadd (n := 445) dd_L_law_444 rfl ?_
      obtain ⟨q56, h⟩ := h
      refine fx_sld (n := 446) dd_L_law_445 hX hb rfl q56 ?_
      refine fx_aload_n (n := 447) dd_L_law_446 rfl 0 rfl rfl ?_
      refine fx_iload (n := 449) dd_L_law_447 4 rfl rfl ?_
      refine fx_iconst (n := 450) (v := 2) dd_L_law_449 (by decide) rfl ?_
      refine fx_iadd (n := 451) dd_L_law_450 rfl ?_
      obtain ⟨q57, h⟩ := h
      refine fx_sld (n := 452) dd_L_law_451 hX hb rfl q57 ?_
      refine fx_callS (n := 455) (vs := [_, _, _]) dd_L_law_452 mw_L_move ⟨wd_538, wd_539, wd_0⟩ rfl rfl ⟨Nat.le_of_ble_eq_true rfl, Nat.le_of_ble_eq_true rfl, Nat.le_of_ble_eq_true rfl, fx_nx, rfl⟩ rfl h (fx_qi_k fun x59 S58 h => ?_) (fun _ _ h => h)
      refine fx_istore (n := 457) (L' := [(5, _), (0, _), (1, _), (2, _), (3, _), (4, _)]) dd_L_law_455 (by decide) rfl rfl ?_
      refine fx_aload_n (n := 458) dd_L_law_457 rfl 3 rfl rfl ?_
      refine fx_aload_n (n := 459) dd_L_law_458 rfl 1 rfl rfl ?_
      refine fx_iload (n := 461) dd_L_law_459 5 rfl rfl ?_
      refine fx_iconst (n := 462) (v := 1) dd_L_law_461 (by decide) rfl ?_
      refine fx_iadd (n := 463) dd_L_law_462 rfl ?_
      obtain ⟨q60, h⟩ := h
      refine fx_sld (n := 464) dd_L_law_463 hX hb rfl q60 ?_
      refine fx_aload_n (n := 465) dd_L_law_464 rfl 1 rfl rfl ?_
      refine fx_iload (n := 467) dd_L_law_465 5 rfl rfl ?_
      refine fx_iconst (n := 468) (v := 2) dd_L_law_467 (by decide) rfl ?_
      refine fx_iadd (n := 469) dd_L_law_468 rfl ?_
      obtain ⟨q61, h⟩ := h
      refine fx_sld (n := 470) dd_L_law_469 hX hb rfl q61 ?_
      obtain ⟨q63, h⟩ := h
      refine fx_callV (n := 473) (vs := [_, _]) dd_L_law_470 mw_M_move ⟨wd_801, wd_802, wd_803⟩ rfl (by decide) q63.1 q63.2 rfl rfl ⟨Nat.le_of_ble_eq_true rfl, Nat.le_of_ble_eq_true rfl, Nat.le_of_ble_eq_true rfl, fx_nx, rfl⟩ rfl h (fx_qv_k fun S62 h => ?_) (fun _ _ h => h)
      refine fx_aload_n (n := 474) dd_L_law_473 rfl 3 rfl rfl ?_
      obtain ⟨q65, h⟩ := h
      refine fx_callV (n := 477) (vs := []) dd_L_law_474 mw_M_thrown ⟨wd_701, wd_702, wd_703⟩ rfl (by decide) q65.1 q65.2 rfl rfl ⟨Nat.le_of_ble_eq_true rfl, Nat.le_of_ble_eq_true rfl, Nat.le_of_ble_eq_true rfl, fx_nx, rfl⟩ rfl h (fx_qi_k fun x66 S64 h => ?_) (fun _ _ h => h)
      refine fx_iload (n := 479) dd_L_law_477 0 rfl rfl ?_
      refine fx_icmp_eq (n := 482) (tg := 484) dd_L_law_479 rfl rfl (fun hc => ?_) (fun hc => ?_)
      · replace h := h.1 hc
        refine fx_goto (n := 755) dd_L_law_484 rfl ?_
        refine fx_sub (L' := [(0, _), (1, _), (2, _), (3, _), (4, _)]) [1, 2, 3, 4, 5] rfl ?_
        exact h
      · replace h := h.2 hc
        refine fx_iconst (n := 483) (v := 0) dd_L_law_482 (by decide) rfl ?_
        exact fx_zret dd_L_law_483 rfl rfl h
    by_cases hx6 : ((xs (v4.toNatClampNeg)) &&& 15) = 6
    · refine fx_tableIn (n := 487) dd_L_law_39 (by rw [hx6]; decide) (by rw [hx6]; decide) (by rw [hx6]; rfl) rfl ?_
      replace h := h.2.2.2.2.2.2.1 hx6
      refine fx_aload_n (n := 488) dd_L_law_487 rfl 1 rfl rfl ?_
      refine fx_aload_n (n := 489) dd_L_law_488 rfl 0 rfl rfl ?_
      refine fx_iload (n := 491) dd_L_law_489 4 rfl rfl ?_
      refine fx_iconst (n := 492) (v := 1) dd_L_law_491 (by decide) rfl ?_
      refine fx_iadd (n := 493) dd_L_law_492 rfl ?_
      obtain ⟨q67, h⟩ := h
      refine fx_sld (n := 494) dd_L_law_493 hX hb rfl q67 ?_
      obtain ⟨q69, h⟩ := h
      refine fx_callV (n := 497) (vs := [_]) dd_L_law_494 mw_V_fail ⟨wd_207, wd_208, wd_209⟩ rfl (by decide) q69.1 q69.2 rfl rfl ⟨Nat.le_of_ble_eq_true rfl, Nat.le_of_ble_eq_true rfl, Nat.le_of_ble_eq_true rfl, fx_nx, rfl⟩ rfl h (fx_qi_k fun x70 S68 h => ?_) (fun _ _ h => h)
      refine fx_aload_n (n := 498) dd_L_law_497 rfl 2 rfl rfl ?_
      refine fx_aload_n (n := 499) dd_L_law_498 rfl 0 rfl rfl ?_
      refine fx_iload (n := 501) dd_L_law_499 4 rfl rfl ?_
      refine fx_iconst (n := 502) (v := 1) dd_L_law_501 (by decide) rfl ?_
      refine fx_iadd (n := 503) dd_L_law_502 rfl ?_
      obtain ⟨q71, h⟩ := h
      refine fx_sld (n := 504) dd_L_law_503 hX hb rfl q71 ?_
      obtain ⟨q73, h⟩ := h
      refine fx_callV (n := 507) (vs := [_]) dd_L_law_504 mw_M_fail ⟨wd_863, wd_864, wd_865⟩ rfl (by decide) q73.1 q73.2 rfl rfl ⟨Nat.le_of_ble_eq_true rfl, Nat.le_of_ble_eq_true rfl, Nat.le_of_ble_eq_true rfl, fx_nx, rfl⟩ rfl h (fx_qi_k fun x74 S72 h => ?_) (fun _ _ h => h)
      refine fx_icmp_eq (n := 510) (tg := 755) dd_L_law_507 rfl rfl (fun hc => ?_) (fun hc => ?_)
      · replace h := h.1 hc
        exact h
      · replace h := h.2 hc
        refine fx_iconst (n := 511) (v := 0) dd_L_law_510 (by decide) rfl ?_
        exact fx_zret dd_L_law_511 rfl rfl h
    by_cases hx7 : ((xs (v4.toNatClampNeg)) &&& 15) = 7
    · refine fx_tableIn (n := 512) dd_L_law_39 (by rw [hx7]; decide) (by rw [hx7]; decide) (by rw [hx7]; rfl) rfl ?_
      replace h := h.2.2.2.2.2.2.2.1 hx7
      refine fx_aload_n (n := 513) dd_L_law_512 rfl 1 rfl rfl ?_
      refine fx_aload_n (n := 514) dd_L_law_513 rfl 3 rfl rfl ?_
      refine fx_callS (n := 517) (vs := [_, _]) dd_L_law_514 mw_L_mount ⟨wd_549, wd_550, wd_0⟩ rfl rfl ⟨Nat.le_of_ble_eq_true rfl, Nat.le_of_ble_eq_true rfl, Nat.le_of_ble_eq_true rfl, fx_nx, rfl⟩ rfl h (fx_qi_k fun x76 S75 h => ?_) (fun _ _ h => h)
      refine fx_istore (n := 519) (L' := [(5, _), (0, _), (1, _), (2, _), (3, _), (4, _)]) dd_L_law_517 (by decide) rfl rfl ?_
      refine fx_aload_n (n := 520) dd_L_law_519 rfl 3 rfl rfl ?_
      obtain ⟨q78, h⟩ := h
      refine fx_callV (n := 523) (vs := []) dd_L_law_520 mw_M_mount ⟨wd_867, wd_868, wd_869⟩ rfl (by decide) q78.1 q78.2 rfl rfl ⟨Nat.le_of_ble_eq_true rfl, Nat.le_of_ble_eq_true rfl, Nat.le_of_ble_eq_true rfl, fx_nx, rfl⟩ rfl h (fx_qi_k fun x79 S77 h => ?_) (fun _ _ h => h)
      refine fx_istore (n := 525) (L' := [(6, _), (5, _), (0, _), (1, _), (2, _), (3, _), (4, _)]) dd_L_law_523 (by decide) rfl rfl ?_
      refine fx_aload_n (n := 526) dd_L_law_525 rfl 4 rfl rfl ?_
      obtain ⟨q81, h⟩ := h
      refine fx_callV (n := 529) (vs := []) dd_L_law_526 mw_M_thrown ⟨wd_701, wd_702, wd_703⟩ rfl (by decide) q81.1 q81.2 rfl rfl ⟨Nat.le_of_ble_eq_true rfl, Nat.le_of_ble_eq_true rfl, Nat.le_of_ble_eq_true rfl, fx_nx, rfl⟩ rfl h (fx_qi_k fun x82 S80 h => ?_) (fun _ _ h => h)
      refine fx_iload (n := 531) dd_L_law_529 1 rfl rfl ?_
      refine fx_icmp_eq (n := 534) (tg := 536) dd_L_law_531 rfl rfl (fun hc => ?_) (fun hc => ?_)
      · replace h := h.1 hc
        refine fx_iload (n := 538) dd_L_law_536 1 rfl rfl ?_
        refine fx_if_ne (n := 541) (tg := 553) dd_L_law_538 rfl rfl (fun hc => ?_) (fun hc => ?_)
        · replace h := h.1 hc
          refine fx_goto (n := 755) dd_L_law_553 rfl ?_
          refine fx_sub (L' := [(0, _), (1, _), (2, _), (3, _), (4, _)]) [2, 3, 4, 5, 6] rfl ?_
          exact h
        · replace h := h.2 hc
          refine fx_aload_n (n := 542) dd_L_law_541 rfl 5 rfl rfl ?_
          refine fx_iconst (n := 543) (v := 0) dd_L_law_542 (by decide) rfl ?_
          obtain ⟨q83, h⟩ := h
          obtain ⟨q84, h⟩ := h
          refine fx_lald (n := 544) dd_L_law_543 rfl q83.1 q83.2 q84 ?_
          refine fx_iload (n := 546) dd_L_law_544 0 rfl rfl ?_
          refine fx_i2l (n := 547) dd_L_law_546 rfl ?_
          refine fx_lcmp (n := 548) dd_L_law_547 rfl ?_
          refine fx_if_eq (n := 551) (tg := 553) dd_L_law_548 rfl rfl (fun hc => ?_) (fun hc => ?_)
          · replace h := h.1 hc
            refine fx_goto (n := 755) dd_L_law_553 rfl ?_
            refine fx_sub (L' := [(0, _), (1, _), (2, _), (3, _), (4, _)]) [2, 3, 4, 5, 6] rfl ?_
            exact h
          · replace h := h.2 hc
            refine fx_iconst (n := 552) (v := 0) dd_L_law_551 (by decide) rfl ?_
            exact fx_zret dd_L_law_552 rfl rfl h
      · replace h := h.2 hc
        refine fx_iconst (n := 535) (v := 0) dd_L_law_534 (by decide) rfl ?_
        exact fx_zret dd_L_law_535 rfl rfl h
    by_cases hx8 : ((xs (v4.toNatClampNeg)) &&& 15) = 8
    · refine fx_tableIn (n := 556) dd_L_law_39 (by rw [hx8]; decide) (by rw [hx8]; decide) (by rw [hx8]; rfl) rfl ?_
      replace h := h.2.2.2.2.2.2.2.2.1 hx8
      refine fx_aload_n (n := 557) dd_L_law_556 rfl 1 rfl rfl ?_
      obtain ⟨q86, h⟩ := h
      refine fx_callV (n := 560) (vs := []) dd_L_law_557 mw_V_on ⟨wd_211, wd_212, wd_213⟩ rfl (by decide) q86.1 q86.2 rfl rfl ⟨Nat.le_of_ble_eq_true rfl, Nat.le_of_ble_eq_true rfl, Nat.le_of_ble_eq_true rfl, fx_nx, rfl⟩ rfl h (fx_qi_k fun x87 S85 h => ?_) (fun _ _ h => h)
      refine fx_aload_n (n := 561) dd_L_law_560 rfl 2 rfl rfl ?_
      obtain ⟨q89, h⟩ := h
      refine fx_callV (n := 564) (vs := []) dd_L_law_561 mw_M_on ⟨wd_891, wd_892, wd_893⟩ rfl (by decide) q89.1 q89.2 rfl rfl ⟨Nat.le_of_ble_eq_true rfl, Nat.le_of_ble_eq_true rfl, Nat.le_of_ble_eq_true rfl, fx_nx, rfl⟩ rfl h (fx_qi_k fun x90 S88 h => ?_) (fun _ _ h => h)
      refine fx_icmp_eq (n := 567) (tg := 755) dd_L_law_564 rfl rfl (fun hc => ?_) (fun hc => ?_)
      · replace h := h.1 hc
        exact h
      · replace h := h.2 hc
        refine fx_iconst (n := 568) (v := 0) dd_L_law_567 (by decide) rfl ?_
        exact fx_zret dd_L_law_568 rfl rfl h
    by_cases hx9 : ((xs (v4.toNatClampNeg)) &&& 15) = 9
    · refine fx_tableIn (n := 569) dd_L_law_39 (by rw [hx9]; decide) (by rw [hx9]; decide) (by rw [hx9]; rfl) rfl ?_
      replace h := h.2.2.2.2.2.2.2.2.2.1 hx9
      refine fx_aload_n (n := 570) dd_L_law_569 rfl 1 rfl rfl ?_
      refine fx_aload_n (n := 571) dd_L_law_570 rfl 0 rfl rfl ?_
      refine fx_iload (n := 573) dd_L_law_571 4 rfl rfl ?_
      refine fx_iconst (n := 574) (v := 1) dd_L_law_573 (by decide) rfl ?_
      refine fx_iadd (n := 575) dd_L_law_574 rfl ?_
      obtain ⟨q91, h⟩ := h
      refine fx_sld (n := 576) dd_L_law_575 hX hb rfl q91 ?_
      obtain ⟨q93, h⟩ := h
      refine fx_callV (n := 579) (vs := [_]) dd_L_law_576 mw_V_find ⟨wd_215, wd_216, wd_217⟩ rfl (by decide) q93.1 q93.2 rfl rfl ⟨Nat.le_of_ble_eq_true rfl, Nat.le_of_ble_eq_true rfl, Nat.le_of_ble_eq_true rfl, fx_nx, rfl⟩ rfl h (fx_qi_k fun x94 S92 h => ?_) (fun _ _ h => h)
      refine fx_aload_n (n := 580) dd_L_law_579 rfl 2 rfl rfl ?_
      refine fx_aload_n (n := 581) dd_L_law_580 rfl 0 rfl rfl ?_
      refine fx_iload (n := 583) dd_L_law_581 4 rfl rfl ?_
      refine fx_iconst (n := 584) (v := 1) dd_L_law_583 (by decide) rfl ?_
      refine fx_iadd (n := 585) dd_L_law_584 rfl ?_
      obtain ⟨q95, h⟩ := h
      refine fx_sld (n := 586) dd_L_law_585 hX hb rfl q95 ?_
      obtain ⟨q97, h⟩ := h
      refine fx_callV (n := 589) (vs := [_]) dd_L_law_586 mw_M_find ⟨wd_895, wd_896, wd_897⟩ rfl (by decide) q97.1 q97.2 rfl rfl ⟨Nat.le_of_ble_eq_true rfl, Nat.le_of_ble_eq_true rfl, Nat.le_of_ble_eq_true rfl, fx_nx, rfl⟩ rfl h (fx_qi_k fun x98 S96 h => ?_) (fun _ _ h => h)
      refine fx_icmp_eq (n := 592) (tg := 755) dd_L_law_589 rfl rfl (fun hc => ?_) (fun hc => ?_)
      · replace h := h.1 hc
        exact h
      · replace h := h.2 hc
        refine fx_iconst (n := 593) (v := 0) dd_L_law_592 (by decide) rfl ?_
        exact fx_zret dd_L_law_593 rfl rfl h
    by_cases hx10 : ((xs (v4.toNatClampNeg)) &&& 15) = 10
    · refine fx_tableIn (n := 594) dd_L_law_39 (by rw [hx10]; decide) (by rw [hx10]; decide) (by rw [hx10]; rfl) rfl ?_
      replace h := h.2.2.2.2.2.2.2.2.2.2.1 hx10
      refine fx_aload_n (n := 595) dd_L_law_594 rfl 1 rfl rfl ?_
      refine fx_aload_n (n := 596) dd_L_law_595 rfl 0 rfl rfl ?_
      refine fx_iload (n := 598) dd_L_law_596 4 rfl rfl ?_
      refine fx_iconst (n := 599) (v := 1) dd_L_law_598 (by decide) rfl ?_
      refine fx_iadd (n := 600) dd_L_law_599 rfl ?_
      obtain ⟨q99, h⟩ := h
      refine fx_sld (n := 601) dd_L_law_600 hX hb rfl q99 ?_
      refine fx_aload_n (n := 602) dd_L_law_601 rfl 0 rfl rfl ?_
      refine fx_iload (n := 604) dd_L_law_602 4 rfl rfl ?_
      refine fx_iconst (n := 605) (v := 2) dd_L_law_604 (by decide) rfl ?_
      refine fx_iadd (n := 606) dd_L_law_605 rfl ?_
      obtain ⟨q100, h⟩ := h
      refine fx_sld (n := 607) dd_L_law_606 hX hb rfl q100 ?_
      obtain ⟨q102, h⟩ := h
      refine fx_callV (n := 610) (vs := [_, _]) dd_L_law_607 mw_V_record ⟨wd_239, wd_240, wd_241⟩ rfl (by decide) q102.1 q102.2 rfl rfl ⟨Nat.le_of_ble_eq_true rfl, Nat.le_of_ble_eq_true rfl, Nat.le_of_ble_eq_true rfl, fx_nx, rfl⟩ rfl h (fx_qi_k fun x103 S101 h => ?_) (fun _ _ h => h)
      refine fx_aload_n (n := 611) dd_L_law_610 rfl 2 rfl rfl ?_
      refine fx_aload_n (n := 612) dd_L_law_611 rfl 0 rfl rfl ?_
      refine fx_iload (n := 614) dd_L_law_612 4 rfl rfl ?_
      refine fx_iconst (n := 615) (v := 1) dd_L_law_614 (by decide) rfl ?_
      refine fx_iadd (n := 616) dd_L_law_615 rfl ?_
      obtain ⟨q104, h⟩ := h
      refine fx_sld (n := 617) dd_L_law_616 hX hb rfl q104 ?_
      refine fx_aload_n (n := 618) dd_L_law_617 rfl 0 rfl rfl ?_
      refine fx_iload (n := 620) dd_L_law_618 4 rfl rfl ?_
      refine fx_iconst (n := 621) (v := 2) dd_L_law_620 (by decide) rfl ?_
      refine fx_iadd (n := 622) dd_L_law_621 rfl ?_
      obtain ⟨q105, h⟩ := h
      refine fx_sld (n := 623) dd_L_law_622 hX hb rfl q105 ?_
      obtain ⟨q107, h⟩ := h
      refine fx_callV (n := 626) (vs := [_, _]) dd_L_law_623 mw_M_record ⟨wd_899, wd_900, wd_901⟩ rfl (by decide) q107.1 q107.2 rfl rfl ⟨Nat.le_of_ble_eq_true rfl, Nat.le_of_ble_eq_true rfl, Nat.le_of_ble_eq_true rfl, fx_nx, rfl⟩ rfl h (fx_qi_k fun x108 S106 h => ?_) (fun _ _ h => h)
      refine fx_icmp_eq (n := 629) (tg := 755) dd_L_law_626 rfl rfl (fun hc => ?_) (fun hc => ?_)
      · replace h := h.1 hc
        exact h
      · replace h := h.2 hc
        refine fx_iconst (n := 630) (v := 0) dd_L_law_629 (by decide) rfl ?_
        exact fx_zret dd_L_law_630 rfl rfl h
    by_cases hx11 : ((xs (v4.toNatClampNeg)) &&& 15) = 11
    · refine fx_tableIn (n := 631) dd_L_law_39 (by rw [hx11]; decide) (by rw [hx11]; decide) (by rw [hx11]; rfl) rfl ?_
      replace h := h.2.2.2.2.2.2.2.2.2.2.2.1 hx11
      refine fx_aload_n (n := 632) dd_L_law_631 rfl 1 rfl rfl ?_
      refine fx_aload_n (n := 633) dd_L_law_632 rfl 0 rfl rfl ?_
      refine fx_iload (n := 635) dd_L_law_633 4 rfl rfl ?_
      refine fx_iconst (n := 636) (v := 1) dd_L_law_635 (by decide) rfl ?_
      refine fx_iadd (n := 637) dd_L_law_636 rfl ?_
      obtain ⟨q109, h⟩ := h
      refine fx_sld (n := 638) dd_L_law_637 hX hb rfl q109 ?_
      refine fx_aload_n (n := 639) dd_L_law_638 rfl 0 rfl rfl ?_
      refine fx_iload (n := 641) dd_L_law_639 4 rfl rfl ?_
      refine fx_iconst (n := 642) (v := 2) dd_L_law_641 (by decide) rfl ?_
      refine fx_iadd (n := 643) dd_L_law_642 rfl ?_
      obtain ⟨q110, h⟩ := h
      refine fx_sld (n := 644) dd_L_law_643 hX hb rfl q110 ?_
      obtain ⟨q112, h⟩ := h
      refine fx_callV (n := 647) (vs := [_, _]) dd_L_law_644 mw_V_read ⟨wd_263, wd_264, wd_265⟩ rfl (by decide) q112.1 q112.2 rfl rfl ⟨Nat.le_of_ble_eq_true rfl, Nat.le_of_ble_eq_true rfl, Nat.le_of_ble_eq_true rfl, fx_nx, rfl⟩ rfl h (fx_qi_k fun x113 S111 h => ?_) (fun _ _ h => h)
      refine fx_aload_n (n := 648) dd_L_law_647 rfl 2 rfl rfl ?_
      refine fx_aload_n (n := 649) dd_L_law_648 rfl 0 rfl rfl ?_
      refine fx_iload (n := 651) dd_L_law_649 4 rfl rfl ?_
      refine fx_iconst (n := 652) (v := 1) dd_L_law_651 (by decide) rfl ?_
      refine fx_iadd (n := 653) dd_L_law_652 rfl ?_
      obtain ⟨q114, h⟩ := h
      refine fx_sld (n := 654) dd_L_law_653 hX hb rfl q114 ?_
      refine fx_aload_n (n := 655) dd_L_law_654 rfl 0 rfl rfl ?_
      refine fx_iload (n := 657) dd_L_law_655 4 rfl rfl ?_
      refine fx_iconst (n := 658) (v := 2) dd_L_law_657 (by decide) rfl ?_
      refine fx_iadd (n := 659) dd_L_law_658 rfl ?_
      obtain ⟨q115, h⟩ := h
      refine fx_sld (n := 660) dd_L_law_659 hX hb rfl q115 ?_
      obtain ⟨q117, h⟩ := h
      refine fx_callV (n := 663) (vs := [_, _]) dd_L_law_660 mw_M_read ⟨wd_907, wd_908, wd_909⟩ rfl (by decide) q117.1 q117.2 rfl rfl ⟨Nat.le_of_ble_eq_true rfl, Nat.le_of_ble_eq_true rfl, Nat.le_of_ble_eq_true rfl, fx_nx, rfl⟩ rfl h (fx_qi_k fun x118 S116 h => ?_) (fun _ _ h => h)
      refine fx_icmp_eq (n := 666) (tg := 755) dd_L_law_663 rfl rfl (fun hc => ?_) (fun hc => ?_)
      · replace h := h.1 hc
        exact h
      · replace h := h.2 hc
        refine fx_iconst (n := 667) (v := 0) dd_L_law_666 (by decide) rfl ?_
        exact fx_zret dd_L_law_667 rfl rfl h
    by_cases hx12 : ((xs (v4.toNatClampNeg)) &&& 15) = 12
    · refine fx_tableIn (n := 668) dd_L_law_39 (by rw [hx12]; decide) (by rw [hx12]; decide) (by rw [hx12]; rfl) rfl ?_
      replace h := h.2.2.2.2.2.2.2.2.2.2.2.2.1 hx12
      refine fx_aload_n (n := 669) dd_L_law_668 rfl 1 rfl rfl ?_
      refine fx_aload_n (n := 670) dd_L_law_669 rfl 0 rfl rfl ?_
      refine fx_iload (n := 672) dd_L_law_670 4 rfl rfl ?_
      refine fx_iconst (n := 673) (v := 1) dd_L_law_672 (by decide) rfl ?_
      refine fx_iadd (n := 674) dd_L_law_673 rfl ?_
      obtain ⟨q119, h⟩ := h
      refine fx_sld (n := 675) dd_L_law_674 hX hb rfl q119 ?_
      refine fx_aload_n (n := 676) dd_L_law_675 rfl 0 rfl rfl ?_
      refine fx_iload (n := 678) dd_L_law_676 4 rfl rfl ?_
      refine fx_iconst (n := 679) (v := 2) dd_L_law_678 (by decide) rfl ?_
      refine fx_iadd (n := 680) dd_L_law_679 rfl ?_
      obtain ⟨q120, h⟩ := h
      refine fx_sld (n := 681) dd_L_law_680 hX hb rfl q120 ?_
      refine fx_aload_n (n := 682) dd_L_law_681 rfl 0 rfl rfl ?_
      refine fx_iload (n := 684) dd_L_law_682 4 rfl rfl ?_
      refine fx_iconst (n := 685) (v := 3) dd_L_law_684 (by decide) rfl ?_
      refine fx_iadd (n := 686) dd_L_law_685 rfl ?_
      obtain ⟨q121, h⟩ := h
      refine fx_sld (n := 687) dd_L_law_686 hX hb rfl q121 ?_
      obtain ⟨q123, h⟩ := h
      refine fx_callV (n := 690) (vs := [_, _, _]) dd_L_law_687 mw_V_run ⟨wd_278, wd_279, wd_280⟩ rfl (by decide) q123.1 q123.2 rfl rfl ⟨Nat.le_of_ble_eq_true rfl, Nat.le_of_ble_eq_true rfl, Nat.le_of_ble_eq_true rfl, fx_nx, rfl⟩ rfl h (fx_qi_k fun x124 S122 h => ?_) (fun _ _ h => h)
      refine fx_aload_n (n := 691) dd_L_law_690 rfl 2 rfl rfl ?_
      refine fx_aload_n (n := 692) dd_L_law_691 rfl 0 rfl rfl ?_
      refine fx_iload (n := 694) dd_L_law_692 4 rfl rfl ?_
      refine fx_iconst (n := 695) (v := 1) dd_L_law_694 (by decide) rfl ?_
      refine fx_iadd (n := 696) dd_L_law_695 rfl ?_
      obtain ⟨q125, h⟩ := h
      refine fx_sld (n := 697) dd_L_law_696 hX hb rfl q125 ?_
      refine fx_aload_n (n := 698) dd_L_law_697 rfl 0 rfl rfl ?_
      refine fx_iload (n := 700) dd_L_law_698 4 rfl rfl ?_
      refine fx_iconst (n := 701) (v := 2) dd_L_law_700 (by decide) rfl ?_
      refine fx_iadd (n := 702) dd_L_law_701 rfl ?_
      obtain ⟨q126, h⟩ := h
      refine fx_sld (n := 703) dd_L_law_702 hX hb rfl q126 ?_
      refine fx_aload_n (n := 704) dd_L_law_703 rfl 0 rfl rfl ?_
      refine fx_iload (n := 706) dd_L_law_704 4 rfl rfl ?_
      refine fx_iconst (n := 707) (v := 3) dd_L_law_706 (by decide) rfl ?_
      refine fx_iadd (n := 708) dd_L_law_707 rfl ?_
      obtain ⟨q127, h⟩ := h
      refine fx_sld (n := 709) dd_L_law_708 hX hb rfl q127 ?_
      obtain ⟨q129, h⟩ := h
      refine fx_callV (n := 712) (vs := [_, _, _]) dd_L_law_709 mw_M_run ⟨wd_911, wd_912, wd_913⟩ rfl (by decide) q129.1 q129.2 rfl rfl ⟨Nat.le_of_ble_eq_true rfl, Nat.le_of_ble_eq_true rfl, Nat.le_of_ble_eq_true rfl, fx_nx, rfl⟩ rfl h (fx_qi_k fun x130 S128 h => ?_) (fun _ _ h => h)
      refine fx_icmp_eq (n := 715) (tg := 755) dd_L_law_712 rfl rfl (fun hc => ?_) (fun hc => ?_)
      · replace h := h.1 hc
        exact h
      · replace h := h.2 hc
        refine fx_iconst (n := 716) (v := 0) dd_L_law_715 (by decide) rfl ?_
        exact fx_zret dd_L_law_716 rfl rfl h
    by_cases hx13 : ((xs (v4.toNatClampNeg)) &&& 15) = 13
    · refine fx_tableIn (n := 717) dd_L_law_39 (by rw [hx13]; decide) (by rw [hx13]; decide) (by rw [hx13]; rfl) rfl ?_
      replace h := h.2.2.2.2.2.2.2.2.2.2.2.2.2.1 hx13
      refine fx_aload_n (n := 718) dd_L_law_717 rfl 1 rfl rfl ?_
      obtain ⟨q132, h⟩ := h
      refine fx_callV (n := 721) (vs := []) dd_L_law_718 mw_V_free ⟨wd_295, wd_296, wd_297⟩ rfl (by decide) q132.1 q132.2 rfl rfl ⟨Nat.le_of_ble_eq_true rfl, Nat.le_of_ble_eq_true rfl, Nat.le_of_ble_eq_true rfl, fx_nx, rfl⟩ rfl h (fx_qi_k fun x133 S131 h => ?_) (fun _ _ h => h)
      refine fx_aload_n (n := 722) dd_L_law_721 rfl 2 rfl rfl ?_
      obtain ⟨q135, h⟩ := h
      refine fx_callV (n := 725) (vs := []) dd_L_law_722 mw_M_free ⟨wd_915, wd_916, wd_917⟩ rfl (by decide) q135.1 q135.2 rfl rfl ⟨Nat.le_of_ble_eq_true rfl, Nat.le_of_ble_eq_true rfl, Nat.le_of_ble_eq_true rfl, fx_nx, rfl⟩ rfl h (fx_qi_k fun x136 S134 h => ?_) (fun _ _ h => h)
      refine fx_icmp_eq (n := 728) (tg := 755) dd_L_law_725 rfl rfl (fun hc => ?_) (fun hc => ?_)
      · replace h := h.1 hc
        exact h
      · replace h := h.2 hc
        refine fx_iconst (n := 729) (v := 0) dd_L_law_728 (by decide) rfl ?_
        exact fx_zret dd_L_law_729 rfl rfl h
    by_cases hx14 : ((xs (v4.toNatClampNeg)) &&& 15) = 14
    · refine fx_tableIn (n := 730) dd_L_law_39 (by rw [hx14]; decide) (by rw [hx14]; decide) (by rw [hx14]; rfl) rfl ?_
      replace h := h.2.2.2.2.2.2.2.2.2.2.2.2.2.2.1 hx14
      refine fx_aload_n (n := 731) dd_L_law_730 rfl 1 rfl rfl ?_
      refine fx_aload_n (n := 732) dd_L_law_731 rfl 0 rfl rfl ?_
      refine fx_iload (n := 734) dd_L_law_732 4 rfl rfl ?_
      refine fx_iconst (n := 735) (v := 1) dd_L_law_734 (by decide) rfl ?_
      refine fx_iadd (n := 736) dd_L_law_735 rfl ?_
      obtain ⟨q137, h⟩ := h
      refine fx_sld (n := 737) dd_L_law_736 hX hb rfl q137 ?_
      obtain ⟨q139, h⟩ := h
      refine fx_callV (n := 740) (vs := [_]) dd_L_law_737 mw_V_at ⟨wd_299, wd_300, wd_301⟩ rfl (by decide) q139.1 q139.2 rfl rfl ⟨Nat.le_of_ble_eq_true rfl, Nat.le_of_ble_eq_true rfl, Nat.le_of_ble_eq_true rfl, fx_nx, rfl⟩ rfl h (fx_qi_k fun x140 S138 h => ?_) (fun _ _ h => h)
      refine fx_aload_n (n := 741) dd_L_law_740 rfl 2 rfl rfl ?_
      refine fx_aload_n (n := 742) dd_L_law_741 rfl 0 rfl rfl ?_
      refine fx_iload (n := 744) dd_L_law_742 4 rfl rfl ?_
      refine fx_iconst (n := 745) (v := 1) dd_L_law_744 (by decide) rfl ?_
      refine fx_iadd (n := 746) dd_L_law_745 rfl ?_
      obtain ⟨q141, h⟩ := h
      refine fx_sld (n := 747) dd_L_law_746 hX hb rfl q141 ?_
      obtain ⟨q143, h⟩ := h
      refine fx_callV (n := 750) (vs := [_]) dd_L_law_747 mw_M_at ⟨wd_919, wd_920, wd_921⟩ rfl (by decide) q143.1 q143.2 rfl rfl ⟨Nat.le_of_ble_eq_true rfl, Nat.le_of_ble_eq_true rfl, Nat.le_of_ble_eq_true rfl, fx_nx, rfl⟩ rfl h (fx_qi_k fun x144 S142 h => ?_) (fun _ _ h => h)
      refine fx_icmp_eq (n := 753) (tg := 755) dd_L_law_750 rfl rfl (fun hc => ?_) (fun hc => ?_)
      · replace h := h.1 hc
        exact h
      · replace h := h.2 hc
        refine fx_iconst (n := 754) (v := 0) dd_L_law_753 (by decide) rfl ?_
        exact fx_zret dd_L_law_754 rfl rfl h
    replace h := h.2.2.2.2.2.2.2.2.2.2.2.2.2.2.2 hx0 hx1 hx2 hx3 hx4 hx5 hx6 hx7 hx8 hx9 hx10 hx11 hx12 hx13 hx14
    have ht0 := lv_neT (a := 0) hx0 (by decide)
    have ht1 := lv_neT (a := 1) hx1 (by decide)
    have ht2 := lv_neT (a := 2) hx2 (by decide)
    have ht3 := lv_neT (a := 3) hx3 (by decide)
    have ht4 := lv_neT (a := 4) hx4 (by decide)
    have ht5 := lv_neT (a := 5) hx5 (by decide)
    have ht6 := lv_neT (a := 6) hx6 (by decide)
    have ht7 := lv_neT (a := 7) hx7 (by decide)
    have ht8 := lv_neT (a := 8) hx8 (by decide)
    have ht9 := lv_neT (a := 9) hx9 (by decide)
    have ht10 := lv_neT (a := 10) hx10 (by decide)
    have ht11 := lv_neT (a := 11) hx11 (by decide)
    have ht12 := lv_neT (a := 12) hx12 (by decide)
    have ht13 := lv_neT (a := 13) hx13 (by decide)
    have ht14 := lv_neT (a := 14) hx14 (by decide)
    refine fx_tableOut (n := 755) dd_L_law_39 (by omega) rfl ?_
    exact h
theorem bk_L_law_160 {G : fx_G} {S : fx_S} {Q : fx_R → fx_S → Prop} {b Ln : Nat} {xs : Nat → Int32} (hX : va_X b Ln xs G.1 G.1.heap) (hb : b < fx_B G) (v1 : Nat) (v2 : Nat) (v3 : Nat) (v4 : Int32) (z0 : Int32) (z1 : Int32) (z2 : Nat) (h : fx_Go G (9, 126) mm_L_create 0 [(0, fx_r G z2), (1, .int z1), (2, .int z0), (3, fx_r G v3)] [] S (fx_qi (fun x2 S1 => vp_in (v4 + 1) Ln ∧ vp_in (v4 + 2) Ln ∧ ((xs ((v4 + 2).toNatClampNeg)) = 0 → fx_Go G (11, 154) mm_L_law 187 [(0, .ref b), (1, fx_r G v1), (2, fx_r G v2), (3, fx_r G v3), (4, .int v4), (5, .int x2)] [.int 0, .int (xs ((v4 + 1).toNatClampNeg)), fx_r G v2] S1 Q) ∧ (¬ (xs ((v4 + 2).toNatClampNeg)) = 0 → fx_Go G (11, 154) mm_L_law 187 [(0, .ref b), (1, fx_r G v1), (2, fx_r G v2), (3, fx_r G v3), (4, .int v4), (5, .int x2)] [.int 1, .int (xs ((v4 + 1).toNatClampNeg)), fx_r G v2] S1 Q)) Q)) :
    fx_Go G (11, 154) mm_L_law 160 [(0, .ref b), (1, fx_r G v1), (2, fx_r G v2), (3, fx_r G v3), (4, .int v4)] [.int z0, .int z1, fx_r G z2] S Q := by
  refine fx_aload_n (n := 161) dd_L_law_160 rfl 3 rfl rfl ?_
  refine fx_callS (n := 164) (vs := [_, _, _, _]) dd_L_law_161 mw_L_create ⟨wd_303, wd_304, wd_0⟩ rfl rfl ⟨Nat.le_of_ble_eq_true rfl, Nat.le_of_ble_eq_true rfl, Nat.le_of_ble_eq_true rfl, fx_nx, rfl⟩ rfl h (fx_qi_k fun x2 S1 h => ?_) (fun _ _ h => h)
  refine fx_istore (n := 166) (L' := [(5, _), (0, _), (1, _), (2, _), (3, _), (4, _)]) dd_L_law_164 (by decide) rfl rfl ?_
  refine fx_aload_n (n := 167) dd_L_law_166 rfl 3 rfl rfl ?_
  refine fx_aload_n (n := 168) dd_L_law_167 rfl 1 rfl rfl ?_
  refine fx_iload (n := 170) dd_L_law_168 5 rfl rfl ?_
  refine fx_iconst (n := 171) (v := 1) dd_L_law_170 (by decide) rfl ?_
  refine fx_iadd (n := 172) dd_L_law_171 rfl ?_
  obtain ⟨q3, h⟩ := h
  refine fx_sld (n := 173) dd_L_law_172 hX hb rfl q3 ?_
  refine fx_aload_n (n := 174) dd_L_law_173 rfl 1 rfl rfl ?_
  refine fx_iload (n := 176) dd_L_law_174 5 rfl rfl ?_
  refine fx_iconst (n := 177) (v := 2) dd_L_law_176 (by decide) rfl ?_
  refine fx_iadd (n := 178) dd_L_law_177 rfl ?_
  obtain ⟨q4, h⟩ := h
  refine fx_sld (n := 179) dd_L_law_178 hX hb rfl q4 ?_
  refine fx_if_eq (n := 182) (tg := 186) dd_L_law_179 rfl rfl (fun hc => ?_) (fun hc => ?_)
  · replace h := h.1 hc
    refine fx_iconst (n := 187) (v := 0) dd_L_law_186 (by decide) rfl ?_
    refine fx_sub (L' := [(0, _), (1, _), (2, _), (3, _), (4, _), (5, _)]) [1, 2, 3, 4, 5, 0] rfl ?_
    exact h
  · replace h := h.2 hc
    refine fx_iconst (n := 183) (v := 1) dd_L_law_182 (by decide) rfl ?_
    refine fx_goto (n := 187) dd_L_law_183 rfl ?_
    refine fx_sub (L' := [(0, _), (1, _), (2, _), (3, _), (4, _), (5, _)]) [1, 2, 3, 4, 5, 0] rfl ?_
    exact h
theorem bk_L_law_187 {G : fx_G} {S : fx_S} {Q : fx_R → fx_S → Prop} {b Ln : Nat} {xs : Nat → Int32} (hX : va_X b Ln xs G.1 G.1.heap) (hb : b < fx_B G) (v1 : Nat) (v2 : Nat) (v3 : Nat) (v4 : Int32) (v5 : Int32) (z0 : Int32) (z1 : Int32) (z2 : Nat) (h : fx_is S z2 5 ∧ fx_Go G (7, 105) mm_M_create 0 [(0, fx_r G z2), (1, .int z1), (2, .int z0)] [] S (fx_qi (fun x3 S1 => fx_is S1 v2 5 ∧ fx_Go G (0, 0) mm_M_thrown 0 [(0, fx_r G v2)] [] S1 (fx_qi (fun x6 S4 => (x6 = v5 → (¬ v5 = 0 → fx_Go G (11, 154) mm_L_law 755 [(0, .ref b), (1, fx_r G v1), (2, fx_r G v2), (3, fx_r G v3), (4, .int v4)] [] S4 Q) ∧ (v5 = 0 → fx_is S4 v3 103 ∧ vp_in 0 (fx_ln S4 v3) ∧ ((lg_cmp (fx_J S4 v3 ((0 : Int32).toNatClampNeg)) x3.toInt64) = 0 → fx_Go G (11, 154) mm_L_law 755 [(0, .ref b), (1, fx_r G v1), (2, fx_r G v2), (3, fx_r G v3), (4, .int v4)] [] S4 Q) ∧ (¬ (lg_cmp (fx_J S4 v3 ((0 : Int32).toNatClampNeg)) x3.toInt64) = 0 → Q (.inl (some (.int 0))) S4))) ∧ (¬ x6 = v5 → Q (.inl (some (.int 0))) S4)) Q)) Q)) :
    fx_Go G (11, 154) mm_L_law 187 [(0, .ref b), (1, fx_r G v1), (2, fx_r G v2), (3, fx_r G v3), (4, .int v4), (5, .int v5)] [.int z0, .int z1, fx_r G z2] S Q := by
  obtain ⟨q2, h⟩ := h
  refine fx_callV (n := 190) (vs := [_, _]) dd_L_law_187 mw_M_create ⟨wd_709, wd_710, wd_711⟩ rfl (by decide) q2.1 q2.2 rfl rfl ⟨Nat.le_of_ble_eq_true rfl, Nat.le_of_ble_eq_true rfl, Nat.le_of_ble_eq_true rfl, fx_nx, rfl⟩ rfl h (fx_qi_k fun x3 S1 h => ?_) (fun _ _ h => h)
  refine fx_istore (n := 192) (L' := [(6, _), (0, _), (1, _), (2, _), (3, _), (4, _), (5, _)]) dd_L_law_190 (by decide) rfl rfl ?_
  refine fx_aload_n (n := 193) dd_L_law_192 rfl 3 rfl rfl ?_
  obtain ⟨q5, h⟩ := h
  refine fx_callV (n := 196) (vs := []) dd_L_law_193 mw_M_thrown ⟨wd_701, wd_702, wd_703⟩ rfl (by decide) q5.1 q5.2 rfl rfl ⟨Nat.le_of_ble_eq_true rfl, Nat.le_of_ble_eq_true rfl, Nat.le_of_ble_eq_true rfl, fx_nx, rfl⟩ rfl h (fx_qi_k fun x6 S4 h => ?_) (fun _ _ h => h)
  refine fx_iload (n := 198) dd_L_law_196 6 rfl rfl ?_
  refine fx_icmp_eq (n := 201) (tg := 203) dd_L_law_198 rfl rfl (fun hc => ?_) (fun hc => ?_)
  · replace h := h.1 hc
    refine fx_iload (n := 205) dd_L_law_203 6 rfl rfl ?_
    refine fx_if_ne (n := 208) (tg := 220) dd_L_law_205 rfl rfl (fun hc => ?_) (fun hc => ?_)
    · replace h := h.1 hc
      refine fx_goto (n := 755) dd_L_law_220 rfl ?_
      refine fx_sub (L' := [(0, _), (1, _), (2, _), (3, _), (4, _)]) [1, 2, 3, 4, 5] rfl ?_
      exact h
    · replace h := h.2 hc
      refine fx_aload_n (n := 209) dd_L_law_208 rfl 4 rfl rfl ?_
      refine fx_iconst (n := 210) (v := 0) dd_L_law_209 (by decide) rfl ?_
      obtain ⟨q7, h⟩ := h
      obtain ⟨q8, h⟩ := h
      refine fx_lald (n := 211) dd_L_law_210 rfl q7.1 q7.2 q8 ?_
      refine fx_iload (n := 213) dd_L_law_211 0 rfl rfl ?_
      refine fx_i2l (n := 214) dd_L_law_213 rfl ?_
      refine fx_lcmp (n := 215) dd_L_law_214 rfl ?_
      refine fx_if_eq (n := 218) (tg := 220) dd_L_law_215 rfl rfl (fun hc => ?_) (fun hc => ?_)
      · replace h := h.1 hc
        refine fx_goto (n := 755) dd_L_law_220 rfl ?_
        refine fx_sub (L' := [(0, _), (1, _), (2, _), (3, _), (4, _)]) [1, 2, 3, 4, 5] rfl ?_
        exact h
      · replace h := h.2 hc
        refine fx_iconst (n := 219) (v := 0) dd_L_law_218 (by decide) rfl ?_
        exact fx_zret dd_L_law_219 rfl rfl h
  · replace h := h.2 hc
    refine fx_iconst (n := 202) (v := 0) dd_L_law_201 (by decide) rfl ?_
    exact fx_zret dd_L_law_202 rfl rfl h
theorem bk_L_law_755 {G : fx_G} {S : fx_S} {Q : fx_R → fx_S → Prop} {b Ln : Nat} {xs : Nat → Int32} (hX : va_X b Ln xs G.1 G.1.heap) (hb : b < fx_B G) (v1 : Nat) (v2 : Nat) (v3 : Nat) (v4 : Int32) (h : fx_Go G (11, 154) mm_L_law 23 [(0, .ref b), (1, fx_r G v1), (2, fx_r G v2), (3, fx_r G v3), (4, .int (v4 + Int32.ofInt 5))] [] S Q) :
    fx_Go G (11, 154) mm_L_law 755 [(0, .ref b), (1, fx_r G v1), (2, fx_r G v2), (3, fx_r G v3), (4, .int v4)] [] S Q := by
  refine fx_iinc (n := 758) (L' := [(4, _), (0, _), (1, _), (2, _), (3, _)]) dd_L_law_755 4 rfl rfl (by decide) rfl rfl ?_
  refine fx_goto (n := 23) dd_L_law_758 rfl ?_
  refine fx_sub (L' := [(0, _), (1, _), (2, _), (3, _), (4, _)]) [1, 2, 3, 4, 0] rfl ?_
  exact h
