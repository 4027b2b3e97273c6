theorem bk_M_mendLists_2 {G : fx_G} {S : fx_S} {Q : fx_R → fx_S → Prop} (v0 : Nat) (v1 : Int32) (h : (12 ≤ v1 → Q (.inl (some (.int 1))) S) ∧ (¬ 12 ≤ v1 → fx_is S v0 5 ∧ ∃ r2, fx_P S v0 2 = some r2 ∧ fx_is S r2 101 ∧ vp_in v1 (fx_ln S r2) ∧ ((fx_I S r2 (v1.toNatClampNeg)) = 0 → fx_Go G (6, 90) mm_M_mendLists 2 [(0, fx_r G v0), (1, .int (v1 + Int32.ofInt 1))] [] S Q) ∧ (¬ (fx_I S r2 (v1.toNatClampNeg)) = 0 → fx_Go G (0, 0) mm_M_byteOf 0 [(0, fx_r G v0), (1, .int v1), (2, .int 0)] [] S (fx_qi (fun x6 S5 => (x6 = 2 → fx_is S5 v0 5 ∧ ∀ S8, S8 = fx_setI S5 v0 14 0 → fx_Go G (6, 90) mm_M_mendLists 37 [(0, fx_r G v0), (1, .int v1), (2, .int 1)] [] S8 Q) ∧ (¬ x6 = 2 → fx_Go G (6, 90) mm_M_mendLists 2 [(0, fx_r G v0), (1, .int (v1 + Int32.ofInt 1))] [] S5 Q)) Q)))) :
    fx_Go G (6, 90) mm_M_mendLists 2 [(0, fx_r G v0), (1, .int v1)] [] S Q := by
  refine fx_iload_n (n := 3) dd_M_mendLists_2 rfl 1 rfl rfl ?_
  refine fx_bipush (n := 5) (v := 12) dd_M_mendLists_3 (by decide) rfl ?_
  refine fx_icmp_ge (n := 8) (tg := 171) dd_M_mendLists_5 rfl rfl (fun hc => ?_) (fun hc => ?_)
  · replace h := h.1 hc
    refine fx_iconst (n := 172) (v := 1) dd_M_mendLists_171 (by decide) rfl ?_
    exact fx_zret dd_M_mendLists_172 rfl rfl h
  · replace h := h.2 hc
    refine fx_aload_n (n := 9) dd_M_mendLists_8 rfl 0 rfl rfl ?_
    obtain ⟨q1, h⟩ := h
    obtain ⟨r2, hr2, h⟩ := h
    refine fx_getP (n := 12) dd_M_mendLists_9 fw_M_13 (by decide) rfl rfl q1.1 q1.2 hr2 ?_
    refine fx_iload_n (n := 13) dd_M_mendLists_12 rfl 1 rfl rfl ?_
    obtain ⟨q3, h⟩ := h
    obtain ⟨q4, h⟩ := h
    refine fx_zald (n := 14) dd_M_mendLists_13 rfl q3.1 q3.2 q4 ?_
    refine fx_if_eq (n := 17) (tg := 165) dd_M_mendLists_14 rfl rfl (fun hc => ?_) (fun hc => ?_)
    · replace h := h.1 hc
      refine fx_iinc (n := 168) (L' := [(1, _), (0, _)]) dd_M_mendLists_165 1 rfl rfl (by decide) rfl rfl ?_
      refine fx_goto (n := 2) dd_M_mendLists_168 rfl ?_
      refine fx_sub (L' := [(0, _), (1, _)]) [1, 0] rfl ?_
      exact h
    · replace h := h.2 hc
      refine fx_aload_n (n := 18) dd_M_mendLists_17 rfl 0 rfl rfl ?_
      refine fx_iload_n (n := 19) dd_M_mendLists_18 rfl 1 rfl rfl ?_
      refine fx_iconst (n := 20) (v := 0) dd_M_mendLists_19 (by decide) rfl ?_
      refine fx_callV (n := 23) (vs := [_, _]) dd_M_mendLists_20 mw_M_byteOf ⟨wd_729, wd_731, wp_40⟩ rfl (by decide) q1.1 q1.2 rfl rfl ⟨Nat.le_of_ble_eq_true rfl, Nat.le_of_ble_eq_true rfl, Nat.le_of_ble_eq_true rfl, fx_nx, rfl⟩ rfl h (fx_qi_k fun x6 S5 h => ?_) (fun _ _ h => h)
      refine fx_iconst (n := 24) (v := 2) dd_M_mendLists_23 (by decide) rfl ?_
      refine fx_icmp_eq (n := 27) (tg := 30) dd_M_mendLists_24 rfl rfl (fun hc => ?_) (fun hc => ?_)
      · replace h := h.1 hc
        refine fx_aload_n (n := 31) dd_M_mendLists_30 rfl 0 rfl rfl ?_
        refine fx_iconst (n := 32) (v := 0) dd_M_mendLists_31 (by decide) rfl ?_
        obtain ⟨q7, h⟩ := h
        replace h := h _ rfl
        refine fx_putI (n := 35) dd_M_mendLists_32 fw_M_88 (by decide) rfl rfl rfl rfl q7.1 q7.2 ?_
        refine fx_iconst (n := 36) (v := 1) dd_M_mendLists_35 (by decide) rfl ?_
        refine fx_istore_n (n := 37) (L' := [(2, _), (0, _), (1, _)]) dd_M_mendLists_36 rfl (by decide) rfl rfl ?_
        refine fx_sub (L' := [(0, _), (1, _), (2, _)]) [1, 2, 0] rfl ?_
        exact h
      · replace h := h.2 hc
        refine fx_goto (n := 165) dd_M_mendLists_27 rfl ?_
        refine fx_iinc (n := 168) (L' := [(1, _), (0, _)]) dd_M_mendLists_165 1 rfl rfl (by decide) rfl rfl ?_
        refine fx_goto (n := 2) dd_M_mendLists_168 rfl ?_
        refine fx_sub (L' := [(0, _), (1, _)]) [1, 0] rfl ?_
        exact h
theorem bk_M_mendLists_37 {G : fx_G} {S : fx_S} {Q : fx_R → fx_S → Prop} (v0 : Nat) (v1 : Int32) (v2 : Int32) (h : (12 ≤ v2 → fx_is S v0 5 ∧ fx_Go G (2, 34) mm_M_listLength 0 [(0, fx_r G v0), (1, .int v1)] [] S (fx_qi (fun x3 S2 => (¬ (fx_I S v0 14) = x3 → fx_Go G (6, 90) mm_M_mendLists 93 [(0, fx_r G v0), (1, .int v1), (2, .int 0), (3, .int 0)] [] S2 Q) ∧ ((fx_I S v0 14) = x3 → fx_Go G (6, 90) mm_M_mendLists 93 [(0, fx_r G v0), (1, .int v1), (2, .int 1), (3, .int 0)] [] S2 Q)) Q)) ∧ (¬ 12 ≤ v2 → fx_is S v0 5 ∧ ∃ r5, fx_P S v0 2 = some r5 ∧ fx_is S r5 101 ∧ vp_in v2 (fx_ln S r5) ∧ ((fx_I S r5 (v2.toNatClampNeg)) = 0 → fx_Go G (6, 90) mm_M_mendLists 37 [(0, fx_r G v0), (1, .int v1), (2, .int (v2 + Int32.ofInt 1))] [] S Q) ∧ (¬ (fx_I S r5 (v2.toNatClampNeg)) = 0 → fx_Go G (0, 0) mm_M_byteOf 0 [(0, fx_r G v0), (1, .int v2), (2, .int 1)] [] S (fx_qi (fun x9 S8 => (¬ x9 = v1 → fx_Go G (6, 90) mm_M_mendLists 37 [(0, fx_r G v0), (1, .int v1), (2, .int (v2 + Int32.ofInt 1))] [] S8 Q) ∧ (x9 = v1 → fx_is S8 v0 5 ∧ fx_Go G (5, 76) mm_M_join 0 [(0, fx_r G v0), (1, .int v2)] [] S8 (fx_qv (fun S10 => fx_Go G (6, 90) mm_M_mendLists 37 [(0, fx_r G v0), (1, .int v1), (2, .int (v2 + Int32.ofInt 1))] [] S10 Q) Q))) Q)))) :
    fx_Go G (6, 90) mm_M_mendLists 37 [(0, fx_r G v0), (1, .int v1), (2, .int v2)] [] S Q := by
  refine fx_iload_n (n := 38) dd_M_mendLists_37 rfl 2 rfl rfl ?_
  refine fx_bipush (n := 40) (v := 12) dd_M_mendLists_38 (by decide) rfl ?_
  refine fx_icmp_ge (n := 43) (tg := 73) dd_M_mendLists_40 rfl rfl (fun hc => ?_) (fun hc => ?_)
  · replace h := h.1 hc
    refine fx_aload_n (n := 74) dd_M_mendLists_73 rfl 0 rfl rfl ?_
    obtain ⟨q1, h⟩ := h
    refine fx_getI (n := 77) dd_M_mendLists_74 fw_M_88 (by decide) rfl rfl q1.1 q1.2 ?_
    refine fx_aload_n (n := 78) dd_M_mendLists_77 rfl 0 rfl rfl ?_
    refine fx_iload_n (n := 79) dd_M_mendLists_78 rfl 1 rfl rfl ?_
    refine fx_callV (n := 82) (vs := [_]) dd_M_mendLists_79 mw_M_listLength ⟨wd_737, wd_739, wp_42⟩ rfl (by decide) q1.1 q1.2 rfl rfl ⟨Nat.le_of_ble_eq_true rfl, Nat.le_of_ble_eq_true rfl, Nat.le_of_ble_eq_true rfl, fx_nx, rfl⟩ rfl h (fx_qi_k fun x3 S2 h => ?_) (fun _ _ h => h)
    refine fx_icmp_ne (n := 85) (tg := 89) dd_M_mendLists_82 rfl rfl (fun hc => ?_) (fun hc => ?_)
    · replace h := h.1 hc
      refine fx_iconst (n := 90) (v := 0) dd_M_mendLists_89 (by decide) rfl ?_
      refine fx_istore_n (n := 91) (L' := [(2, _), (0, _), (1, _)]) dd_M_mendLists_90 rfl (by decide) rfl rfl ?_
      refine fx_iconst (n := 92) (v := 0) dd_M_mendLists_91 (by decide) rfl ?_
      refine fx_istore_n (n := 93) (L' := [(3, _), (2, _), (0, _), (1, _)]) dd_M_mendLists_92 rfl (by decide) rfl rfl ?_
      refine fx_sub (L' := [(0, _), (1, _), (2, _), (3, _)]) [2, 3, 1, 0] rfl ?_
      exact h
    · replace h := h.2 hc
      refine fx_iconst (n := 86) (v := 1) dd_M_mendLists_85 (by decide) rfl ?_
      refine fx_goto (n := 90) dd_M_mendLists_86 rfl ?_
      refine fx_istore_n (n := 91) (L' := [(2, _), (0, _), (1, _)]) dd_M_mendLists_90 rfl (by decide) rfl rfl ?_
      refine fx_iconst (n := 92) (v := 0) dd_M_mendLists_91 (by decide) rfl ?_
      refine fx_istore_n (n := 93) (L' := [(3, _), (2, _), (0, _), (1, _)]) dd_M_mendLists_92 rfl (by decide) rfl rfl ?_
      refine fx_sub (L' := [(0, _), (1, _), (2, _), (3, _)]) [2, 3, 1, 0] rfl ?_
      exact h
  · replace h := h.2 hc
    refine fx_aload_n (n := 44) dd_M_mendLists_43 rfl 0 rfl rfl ?_
    obtain ⟨q4, h⟩ := h
    obtain ⟨r5, hr5, h⟩ := h
    refine fx_getP (n := 47) dd_M_mendLists_44 fw_M_13 (by decide) rfl rfl q4.1 q4.2 hr5 ?_
    refine fx_iload_n (n := 48) dd_M_mendLists_47 rfl 2 rfl rfl ?_
    obtain ⟨q6, h⟩ := h
    obtain ⟨q7, h⟩ := h
    refine fx_zald (n := 49) dd_M_mendLists_48 rfl q6.1 q6.2 q7 ?_
    refine fx_if_eq (n := 52) (tg := 67) dd_M_mendLists_49 rfl rfl (fun hc => ?_) (fun hc => ?_)
    · replace h := h.1 hc
      refine fx_iinc (n := 70) (L' := [(2, _), (0, _), (1, _)]) dd_M_mendLists_67 2 rfl rfl (by decide) rfl rfl ?_
      refine fx_goto (n := 37) dd_M_mendLists_70 rfl ?_
      refine fx_sub (L' := [(0, _), (1, _), (2, _)]) [1, 2, 0] rfl ?_
      exact h
    · replace h := h.2 hc
      refine fx_aload_n (n := 53) dd_M_mendLists_52 rfl 0 rfl rfl ?_
      refine fx_iload_n (n := 54) dd_M_mendLists_53 rfl 2 rfl rfl ?_
      refine fx_iconst (n := 55) (v := 1) dd_M_mendLists_54 (by decide) rfl ?_
      refine fx_callV (n := 58) (vs := [_, _]) dd_M_mendLists_55 mw_M_byteOf ⟨wd_729, wd_731, wp_40⟩ rfl (by decide) q4.1 q4.2 rfl rfl ⟨Nat.le_of_ble_eq_true rfl, Nat.le_of_ble_eq_true rfl, Nat.le_of_ble_eq_true rfl, fx_nx, rfl⟩ rfl h (fx_qi_k fun x9 S8 h => ?_) (fun _ _ h => h)
      refine fx_iload_n (n := 59) dd_M_mendLists_58 rfl 1 rfl rfl ?_
      refine fx_icmp_ne (n := 62) (tg := 67) dd_M_mendLists_59 rfl rfl (fun hc => ?_) (fun hc => ?_)
      · replace h := h.1 hc
        refine fx_iinc (n := 70) (L' := [(2, _), (0, _), (1, _)]) dd_M_mendLists_67 2 rfl rfl (by decide) rfl rfl ?_
        refine fx_goto (n := 37) dd_M_mendLists_70 rfl ?_
        refine fx_sub (L' := [(0, _), (1, _), (2, _)]) [1, 2, 0] rfl ?_
        exact h
      · replace h := h.2 hc
        refine fx_aload_n (n := 63) dd_M_mendLists_62 rfl 0 rfl rfl ?_
        refine fx_iload_n (n := 64) dd_M_mendLists_63 rfl 2 rfl rfl ?_
        obtain ⟨q11, h⟩ := h
        refine fx_callV (n := 67) (vs := [_]) dd_M_mendLists_64 mw_M_join ⟨wd_773, wd_775, wp_51⟩ rfl (by decide) q11.1 q11.2 rfl rfl ⟨Nat.le_of_ble_eq_true rfl, Nat.le_of_ble_eq_true rfl, Nat.le_of_ble_eq_true rfl, fx_nx, rfl⟩ rfl h (fx_qv_k fun S10 h => ?_) (fun _ _ h => h)
        refine fx_iinc (n := 70) (L' := [(2, _), (0, _), (1, _)]) dd_M_mendLists_67 2 rfl rfl (by decide) rfl rfl ?_
        refine fx_goto (n := 37) dd_M_mendLists_70 rfl ?_
        refine fx_sub (L' := [(0, _), (1, _), (2, _)]) [1, 2, 0] rfl ?_
        exact h
theorem bk_M_mendLists_93 {G : fx_G} {S : fx_S} {Q : fx_R → fx_S → Prop} (v0 : Nat) (v1 : Int32) (v2 : Int32) (v3 : Int32) (h : fx_is S v0 5 ∧ ((fx_I S v0 14) ≤ v3 → fx_Go G (6, 90) mm_M_mendLists 132 [(0, fx_r G v0), (1, .int v1), (2, .int v2)] [] S Q) ∧ (¬ (fx_I S v0 14) ≤ v3 → (v2 = 0 → fx_Go G (6, 90) mm_M_mendLists 132 [(0, fx_r G v0), (1, .int v1), (2, .int v2)] [] S Q) ∧ (¬ v2 = 0 → fx_Go G (2, 34) mm_M_entry 0 [(0, fx_r G v0), (1, .int v1), (2, .int v3)] [] S (fx_qi (fun x3 S2 => fx_is S2 v0 5 ∧ ∃ r5, fx_P S2 v0 15 = some r5 ∧ fx_is S2 r5 100 ∧ vp_in v3 (fx_ln S2 r5) ∧ (¬ x3 = (fx_I S2 r5 (v3.toNatClampNeg)) → fx_Go G (6, 90) mm_M_mendLists 93 [(0, fx_r G v0), (1, .int v1), (2, .int 0), (3, .int (v3 + Int32.ofInt 1))] [] S2 Q) ∧ (x3 = (fx_I S2 r5 (v3.toNatClampNeg)) → fx_Go G (6, 90) mm_M_mendLists 93 [(0, fx_r G v0), (1, .int v1), (2, .int 1), (3, .int (v3 + Int32.ofInt 1))] [] S2 Q)) Q)))) :
    fx_Go G (6, 90) mm_M_mendLists 93 [(0, fx_r G v0), (1, .int v1), (2, .int v2), (3, .int v3)] [] S Q := by
  refine fx_iload_n (n := 94) dd_M_mendLists_93 rfl 3 rfl rfl ?_
  refine fx_aload_n (n := 95) dd_M_mendLists_94 rfl 0 rfl rfl ?_
  obtain ⟨q1, h⟩ := h
  refine fx_getI (n := 98) dd_M_mendLists_95 fw_M_88 (by decide) rfl rfl q1.1 q1.2 ?_
  refine fx_icmp_ge (n := 101) (tg := 132) dd_M_mendLists_98 rfl rfl (fun hc => ?_) (fun hc => ?_)
  · replace h := h.1 hc
    refine fx_sub (L' := [(0, _), (1, _), (2, _)]) [0, 1, 2] rfl ?_
    exact h
  · replace h := h.2 hc
    refine fx_iload_n (n := 102) dd_M_mendLists_101 rfl 2 rfl rfl ?_
    refine fx_if_eq (n := 105) (tg := 132) dd_M_mendLists_102 rfl rfl (fun hc => ?_) (fun hc => ?_)
    · replace h := h.1 hc
      refine fx_sub (L' := [(0, _), (1, _), (2, _)]) [0, 1, 2] rfl ?_
      exact h
    · replace h := h.2 hc
      refine fx_aload_n (n := 106) dd_M_mendLists_105 rfl 0 rfl rfl ?_
      refine fx_iload_n (n := 107) dd_M_mendLists_106 rfl 1 rfl rfl ?_
      refine fx_iload_n (n := 108) dd_M_mendLists_107 rfl 3 rfl rfl ?_
      refine fx_callV (n := 111) (vs := [_, _]) dd_M_mendLists_108 mw_M_entry ⟨wd_745, wd_747, wp_44⟩ rfl (by decide) q1.1 q1.2 rfl rfl ⟨Nat.le_of_ble_eq_true rfl, Nat.le_of_ble_eq_true rfl, Nat.le_of_ble_eq_true rfl, fx_nx, rfl⟩ rfl h (fx_qi_k fun x3 S2 h => ?_) (fun _ _ h => h)
      refine fx_aload_n (n := 112) dd_M_mendLists_111 rfl 0 rfl rfl ?_
      obtain ⟨q4, h⟩ := h
      obtain ⟨r5, hr5, h⟩ := h
      refine fx_getP (n := 115) dd_M_mendLists_112 fw_M_36 (by decide) rfl rfl q4.1 q4.2 hr5 ?_
      refine fx_iload_n (n := 116) dd_M_mendLists_115 rfl 3 rfl rfl ?_
      obtain ⟨q6, h⟩ := h
      obtain ⟨q7, h⟩ := h
      refine fx_iald (n := 117) dd_M_mendLists_116 rfl q6.1 q6.2 q7 ?_
      refine fx_icmp_ne (n := 120) (tg := 124) dd_M_mendLists_117 rfl rfl (fun hc => ?_) (fun hc => ?_)
      · replace h := h.1 hc
        refine fx_iconst (n := 125) (v := 0) dd_M_mendLists_124 (by decide) rfl ?_
        refine fx_istore_n (n := 126) (L' := [(2, _), (0, _), (1, _), (3, _)]) dd_M_mendLists_125 rfl (by decide) rfl rfl ?_
        refine fx_iinc (n := 129) (L' := [(3, _), (2, _), (0, _), (1, _)]) dd_M_mendLists_126 3 rfl rfl (by decide) rfl rfl ?_
        refine fx_goto (n := 93) dd_M_mendLists_129 rfl ?_
        refine fx_sub (L' := [(0, _), (1, _), (2, _), (3, _)]) [2, 3, 1, 0] rfl ?_
        exact h
      · replace h := h.2 hc
        refine fx_iconst (n := 121) (v := 1) dd_M_mendLists_120 (by decide) rfl ?_
        refine fx_goto (n := 125) dd_M_mendLists_121 rfl ?_
        refine fx_istore_n (n := 126) (L' := [(2, _), (0, _), (1, _), (3, _)]) dd_M_mendLists_125 rfl (by decide) rfl rfl ?_
        refine fx_iinc (n := 129) (L' := [(3, _), (2, _), (0, _), (1, _)]) dd_M_mendLists_126 3 rfl rfl (by decide) rfl rfl ?_
        refine fx_goto (n := 93) dd_M_mendLists_129 rfl ?_
        refine fx_sub (L' := [(0, _), (1, _), (2, _), (3, _)]) [2, 3, 1, 0] rfl ?_
        exact h
theorem bk_M_mendLists_132 {G : fx_G} {S : fx_S} {Q : fx_R → fx_S → Prop} (v0 : Nat) (v1 : Int32) (v2 : Int32) (h : (v2 = 0 → fx_is S v0 5 ∧ ∀ S2, S2 = fx_setI S v0 16 ((fx_I S v0 16) + 1) → fx_Go G (0, 0) mm_M_byteOf 0 [(0, fx_r G v0), (1, .int v1), (2, .int 1)] [] S2 (fx_qi (fun x4 S3 => fx_is S3 v0 5 ∧ fx_Go G (4, 60) mm_M_storeList 0 [(0, fx_r G v0), (1, .int v1), (2, .int x4)] [] S3 (fx_qi (fun x7 S5 => (¬ x7 = 0 → fx_Go G (6, 90) mm_M_mendLists 2 [(0, fx_r G v0), (1, .int (v1 + Int32.ofInt 1))] [] S5 Q) ∧ (x7 = 0 → Q (.inl (some (.int 0))) S5)) Q)) Q)) ∧ (¬ v2 = 0 → fx_Go G (6, 90) mm_M_mendLists 2 [(0, fx_r G v0), (1, .int (v1 + Int32.ofInt 1))] [] S Q)) :
    fx_Go G (6, 90) mm_M_mendLists 132 [(0, fx_r G v0), (1, .int v1), (2, .int v2)] [] S Q := by
  refine fx_iload_n (n := 133) dd_M_mendLists_132 rfl 2 rfl rfl ?_
  refine fx_if_eq (n := 136) (tg := 139) dd_M_mendLists_133 rfl rfl (fun hc => ?_) (fun hc => ?_)
  · replace h := h.1 hc
    refine fx_aload_n (n := 140) dd_M_mendLists_139 rfl 0 rfl rfl ?_
    refine fx_dup (n := 141) dd_M_mendLists_140 rfl rfl ?_
    obtain ⟨q1, h⟩ := h
    refine fx_getI (n := 144) dd_M_mendLists_141 fw_M_193 (by decide) rfl rfl q1.1 q1.2 ?_
    refine fx_iconst (n := 145) (v := 1) dd_M_mendLists_144 (by decide) rfl ?_
    refine fx_iadd (n := 146) dd_M_mendLists_145 rfl ?_
    replace h := h _ rfl
    refine fx_putI (n := 149) dd_M_mendLists_146 fw_M_193 (by decide) rfl rfl rfl rfl q1.1 q1.2 ?_
    refine fx_aload_n (n := 150) dd_M_mendLists_149 rfl 0 rfl rfl ?_
    refine fx_iload_n (n := 151) dd_M_mendLists_150 rfl 1 rfl rfl ?_
    refine fx_aload_n (n := 152) dd_M_mendLists_151 rfl 0 rfl rfl ?_
    refine fx_iload_n (n := 153) dd_M_mendLists_152 rfl 1 rfl rfl ?_
    refine fx_iconst (n := 154) (v := 1) dd_M_mendLists_153 (by decide) rfl ?_
    refine fx_callV (n := 157) (vs := [_, _]) dd_M_mendLists_154 mw_M_byteOf ⟨wd_729, wd_731, wp_40⟩ rfl (by decide) q1.1 q1.2 rfl rfl ⟨Nat.le_of_ble_eq_true rfl, Nat.le_of_ble_eq_true rfl, Nat.le_of_ble_eq_true rfl, fx_nx, rfl⟩ rfl h (fx_qi_k fun x4 S3 h => ?_) (fun _ _ h => h)
    obtain ⟨q6, h⟩ := h
    refine fx_callV (n := 160) (vs := [_, _]) dd_M_mendLists_157 mw_M_storeList ⟨wd_781, wd_783, wp_53⟩ rfl (by decide) q6.1 q6.2 rfl rfl ⟨Nat.le_of_ble_eq_true rfl, Nat.le_of_ble_eq_true rfl, Nat.le_of_ble_eq_true rfl, fx_nx, rfl⟩ rfl h (fx_qi_k fun x7 S5 h => ?_) (fun _ _ h => h)
    refine fx_if_ne (n := 163) (tg := 165) dd_M_mendLists_160 rfl rfl (fun hc => ?_) (fun hc => ?_)
    · replace h := h.1 hc
      refine fx_iinc (n := 168) (L' := [(1, _), (0, _), (2, _)]) dd_M_mendLists_165 1 rfl rfl (by decide) rfl rfl ?_
      refine fx_goto (n := 2) dd_M_mendLists_168 rfl ?_
      refine fx_sub (L' := [(0, _), (1, _)]) [1, 0] rfl ?_
      exact h
    · replace h := h.2 hc
      refine fx_iconst (n := 164) (v := 0) dd_M_mendLists_163 (by decide) rfl ?_
      exact fx_zret dd_M_mendLists_164 rfl rfl h
  · replace h := h.2 hc
    refine fx_goto (n := 165) dd_M_mendLists_136 rfl ?_
    refine fx_iinc (n := 168) (L' := [(1, _), (0, _), (2, _)]) dd_M_mendLists_165 1 rfl rfl (by decide) rfl rfl ?_
    refine fx_goto (n := 2) dd_M_mendLists_168 rfl ?_
    refine fx_sub (L' := [(0, _), (1, _)]) [1, 0] rfl ?_
    exact h
theorem bk_M_mount_0 {G : fx_G} {S : fx_S} {Q : fx_R → fx_S → Prop} (v0 : Nat) (h : fx_is S v0 5 ∧ ∀ S2, S2 = fx_setI S v0 0 0 → ∀ S3, S3 = fx_setI S2 v0 4 0 → ∀ S4, S4 = fx_setI S3 v0 16 0 → fx_Go G (7, 105) mm_M_mount 17 [(0, fx_r G v0), (1, .int 0)] [] S4 Q) :
    fx_Go G (7, 105) mm_M_mount 0 [(0, fx_r G v0)] [] S Q := by
  refine fx_aload_n (n := 1) dd_M_mount_0 rfl 0 rfl rfl ?_
  refine fx_iconst (n := 2) (v := 0) dd_M_mount_1 (by decide) rfl ?_
  obtain ⟨q1, h⟩ := h
  replace h := h _ rfl
  refine fx_putI (n := 5) dd_M_mount_2 fw_M_54 (by decide) rfl rfl rfl rfl q1.1 q1.2 ?_
  refine fx_aload_n (n := 6) dd_M_mount_5 rfl 0 rfl rfl ?_
  refine fx_iconst (n := 7) (v := 0) dd_M_mount_6 (by decide) rfl ?_
  replace h := h _ rfl
  refine fx_putI (n := 10) dd_M_mount_7 fw_M_50 (by decide) rfl rfl rfl rfl q1.1 q1.2 ?_
  refine fx_aload_n (n := 11) dd_M_mount_10 rfl 0 rfl rfl ?_
  refine fx_iconst (n := 12) (v := 0) dd_M_mount_11 (by decide) rfl ?_
  replace h := h _ rfl
  refine fx_putI (n := 15) dd_M_mount_12 fw_M_193 (by decide) rfl rfl rfl rfl q1.1 q1.2 ?_
  refine fx_iconst (n := 16) (v := 0) dd_M_mount_15 (by decide) rfl ?_
  refine fx_istore_n (n := 17) (L' := [(1, _), (0, _)]) dd_M_mount_16 rfl (by decide) rfl rfl ?_
  refine fx_sub (L' := [(0, _), (1, _)]) [1, 0] rfl ?_
  exact h
theorem bk_M_mount_17 {G : fx_G} {S : fx_S} {Q : fx_R → fx_S → Prop} (v0 : Nat) (v1 : Int32) (h : (12 ≤ v1 → fx_is S v0 5 ∧ fx_Go G (2, 31) mm_M_mendRoot 0 [(0, fx_r G v0)] [] S (fx_qi (fun x3 S1 => (x3 = 0 → fx_is S1 v0 5 ∧ fx_Go G (0, 0) mm_M_refuse 0 [(0, fx_r G v0), (1, .int 1)] [] S1 (fx_qi (fun x6 S4 => Q (.inl (some (.int x6))) S4) Q)) ∧ (¬ x3 = 0 → fx_is S1 v0 5 ∧ fx_Go G (2, 31) mm_M_mendParents 0 [(0, fx_r G v0)] [] S1 (fx_qi (fun x9 S7 => (x9 = 0 → fx_is S7 v0 5 ∧ fx_Go G (0, 0) mm_M_refuse 0 [(0, fx_r G v0), (1, .int 1)] [] S7 (fx_qi (fun x12 S10 => Q (.inl (some (.int x12))) S10) Q)) ∧ (¬ x9 = 0 → fx_is S7 v0 5 ∧ fx_Go G (6, 90) mm_M_mendLists 0 [(0, fx_r G v0)] [] S7 (fx_qi (fun x15 S13 => (¬ x15 = 0 → fx_Go G (7, 105) mm_M_mount 97 [(0, fx_r G v0), (1, .int 0)] [] S13 Q) ∧ (x15 = 0 → fx_is S13 v0 5 ∧ fx_Go G (0, 0) mm_M_refuse 0 [(0, fx_r G v0), (1, .int 1)] [] S13 (fx_qi (fun x18 S16 => Q (.inl (some (.int x18))) S16) Q))) Q))) Q))) Q)) ∧ (¬ 12 ≤ v1 → fx_is S v0 5 ∧ ∃ r20, fx_P S v0 1 = some r20 ∧ fx_is S r20 100 ∧ vp_in (64 * v1) (fx_ln S r20) ∧ ∃ r23, fx_P S v0 2 = some r23 ∧ fx_Go G (1, 13) mm_M_isTorn 0 [(0, fx_r G v0), (1, .int v1)] [] S (fx_qi (fun x25 S24 => (¬ x25 = 0 → fx_is S24 r23 101 ∧ vp_in v1 (fx_ln S24 r23) ∧ ∀ S28, S28 = fx_setI S24 r23 (v1.toNatClampNeg) (vp_nar .boolean 0) → fx_Go G (7, 105) mm_M_mount 17 [(0, fx_r G v0), (1, .int (v1 + Int32.ofInt 1))] [] S28 Q) ∧ (x25 = 0 → ((fx_I S r20 ((64 * v1).toNatClampNeg)) = 1 → fx_is S24 r23 101 ∧ vp_in v1 (fx_ln S24 r23) ∧ ∀ S31, S31 = fx_setI S24 r23 (v1.toNatClampNeg) (vp_nar .boolean 1) → fx_Go G (7, 105) mm_M_mount 17 [(0, fx_r G v0), (1, .int (v1 + Int32.ofInt 1))] [] S31 Q) ∧ (¬ (fx_I S r20 ((64 * v1).toNatClampNeg)) = 1 → (¬ (fx_I S r20 ((64 * v1).toNatClampNeg)) = 2 → fx_is S24 r23 101 ∧ vp_in v1 (fx_ln S24 r23) ∧ ∀ S34, S34 = fx_setI S24 r23 (v1.toNatClampNeg) (vp_nar .boolean 0) → fx_Go G (7, 105) mm_M_mount 17 [(0, fx_r G v0), (1, .int (v1 + Int32.ofInt 1))] [] S34 Q) ∧ ((fx_I S r20 ((64 * v1).toNatClampNeg)) = 2 → fx_is S24 r23 101 ∧ vp_in v1 (fx_ln S24 r23) ∧ ∀ S37, S37 = fx_setI S24 r23 (v1.toNatClampNeg) (vp_nar .boolean 1) → fx_Go G (7, 105) mm_M_mount 17 [(0, fx_r G v0), (1, .int (v1 + Int32.ofInt 1))] [] S37 Q)))) Q))) :
    fx_Go G (7, 105) mm_M_mount 17 [(0, fx_r G v0), (1, .int v1)] [] S Q := by
  refine fx_iload_n (n := 18) dd_M_mount_17 rfl 1 rfl rfl ?_
  refine fx_bipush (n := 20) (v := 12) dd_M_mount_18 (by decide) rfl ?_
  refine fx_icmp_ge (n := 23) (tg := 68) dd_M_mount_20 rfl rfl (fun hc => ?_) (fun hc => ?_)
  · replace h := h.1 hc
    refine fx_aload_n (n := 69) dd_M_mount_68 rfl 0 rfl rfl ?_
    obtain ⟨q2, h⟩ := h
    refine fx_callV (n := 72) (vs := []) dd_M_mount_69 mw_M_mendRoot ⟨wd_875, wd_877, wp_69⟩ rfl (by decide) q2.1 q2.2 rfl rfl ⟨Nat.le_of_ble_eq_true rfl, Nat.le_of_ble_eq_true rfl, Nat.le_of_ble_eq_true rfl, fx_nx, rfl⟩ rfl h (fx_qi_k fun x3 S1 h => ?_) (fun _ _ h => h)
    refine fx_if_eq (n := 75) (tg := 89) dd_M_mount_72 rfl rfl (fun hc => ?_) (fun hc => ?_)
    · replace h := h.1 hc
      refine fx_aload_n (n := 90) dd_M_mount_89 rfl 0 rfl rfl ?_
      refine fx_iconst (n := 91) (v := 1) dd_M_mount_90 (by decide) rfl ?_
      obtain ⟨q5, h⟩ := h
      refine fx_callV (n := 94) (vs := [_]) dd_M_mount_91 mw_M_refuse ⟨wd_717, wd_719, wp_37⟩ rfl (by decide) q5.1 q5.2 rfl rfl ⟨Nat.le_of_ble_eq_true rfl, Nat.le_of_ble_eq_true rfl, Nat.le_of_ble_eq_true rfl, fx_nx, rfl⟩ rfl h (fx_qi_k fun x6 S4 h => ?_) (fun _ _ h => h)
      exact fx_iret dd_M_mount_94 rfl h
    · replace h := h.2 hc
      refine fx_aload_n (n := 76) dd_M_mount_75 rfl 0 rfl rfl ?_
      obtain ⟨q8, h⟩ := h
      refine fx_callV (n := 79) (vs := []) dd_M_mount_76 mw_M_mendParents ⟨wd_879, wd_881, wp_70⟩ rfl (by decide) q8.1 q8.2 rfl rfl ⟨Nat.le_of_ble_eq_true rfl, Nat.le_of_ble_eq_true rfl, Nat.le_of_ble_eq_true rfl, fx_nx, rfl⟩ rfl h (fx_qi_k fun x9 S7 h => ?_) (fun _ _ h => h)
      refine fx_if_eq (n := 82) (tg := 89) dd_M_mount_79 rfl rfl (fun hc => ?_) (fun hc => ?_)
      · replace h := h.1 hc
        refine fx_aload_n (n := 90) dd_M_mount_89 rfl 0 rfl rfl ?_
        refine fx_iconst (n := 91) (v := 1) dd_M_mount_90 (by decide) rfl ?_
        obtain ⟨q11, h⟩ := h
        refine fx_callV (n := 94) (vs := [_]) dd_M_mount_91 mw_M_refuse ⟨wd_717, wd_719, wp_37⟩ rfl (by decide) q11.1 q11.2 rfl rfl ⟨Nat.le_of_ble_eq_true rfl, Nat.le_of_ble_eq_true rfl, Nat.le_of_ble_eq_true rfl, fx_nx, rfl⟩ rfl h (fx_qi_k fun x12 S10 h => ?_) (fun _ _ h => h)
        exact fx_iret dd_M_mount_94 rfl h
      · replace h := h.2 hc
        refine fx_aload_n (n := 83) dd_M_mount_82 rfl 0 rfl rfl ?_
        obtain ⟨q14, h⟩ := h
        refine fx_callV (n := 86) (vs := []) dd_M_mount_83 mw_M_mendLists ⟨wd_887, wd_889, wp_72⟩ rfl (by decide) q14.1 q14.2 rfl rfl ⟨Nat.le_of_ble_eq_true rfl, Nat.le_of_ble_eq_true rfl, Nat.le_of_ble_eq_true rfl, fx_nx, rfl⟩ rfl h (fx_qi_k fun x15 S13 h => ?_) (fun _ _ h => h)
        refine fx_if_ne (n := 89) (tg := 95) dd_M_mount_86 rfl rfl (fun hc => ?_) (fun hc => ?_)
        · replace h := h.1 hc
          refine fx_iconst (n := 96) (v := 0) dd_M_mount_95 (by decide) rfl ?_
          refine fx_istore_n (n := 97) (L' := [(1, _), (0, _)]) dd_M_mount_96 rfl (by decide) rfl rfl ?_
          refine fx_sub (L' := [(0, _), (1, _)]) [1, 0] rfl ?_
          exact h
        · replace h := h.2 hc
          refine fx_aload_n (n := 90) dd_M_mount_89 rfl 0 rfl rfl ?_
          refine fx_iconst (n := 91) (v := 1) dd_M_mount_90 (by decide) rfl ?_
          obtain ⟨q17, h⟩ := h
          refine fx_callV (n := 94) (vs := [_]) dd_M_mount_91 mw_M_refuse ⟨wd_717, wd_719, wp_37⟩ rfl (by decide) q17.1 q17.2 rfl rfl ⟨Nat.le_of_ble_eq_true rfl, Nat.le_of_ble_eq_true rfl, Nat.le_of_ble_eq_true rfl, fx_nx, rfl⟩ rfl h (fx_qi_k fun x18 S16 h => ?_) (fun _ _ h => h)
          exact fx_iret dd_M_mount_94 rfl h
  · replace h := h.2 hc
    refine fx_aload_n (n := 24) dd_M_mount_23 rfl 0 rfl rfl ?_
    obtain ⟨q19, h⟩ := h
    obtain ⟨r20, hr20, h⟩ := h
    refine fx_getP (n := 27) dd_M_mount_24 fw_M_7 (by decide) rfl rfl q19.1 q19.2 hr20 ?_
    refine fx_bipush (n := 29) (v := 64) dd_M_mount_27 (by decide) rfl ?_
    refine fx_iload_n (n := 30) dd_M_mount_29 rfl 1 rfl rfl ?_
    refine fx_imul (n := 31) dd_M_mount_30 rfl ?_
    obtain ⟨q21, h⟩ := h
    obtain ⟨q22, h⟩ := h
    refine fx_iald (n := 32) dd_M_mount_31 rfl q21.1 q21.2 q22 ?_
    refine fx_istore_n (n := 33) (L' := [(2, _), (0, _), (1, _)]) dd_M_mount_32 rfl (by decide) rfl rfl ?_
    refine fx_aload_n (n := 34) dd_M_mount_33 rfl 1 rfl rfl ?_
    obtain ⟨r23, hr23, h⟩ := h
    refine fx_getP (n := 37) dd_M_mount_34 fw_M_13 (by decide) rfl rfl q19.1 q19.2 hr23 ?_
    refine fx_iload_n (n := 38) dd_M_mount_37 rfl 2 rfl rfl ?_
    refine fx_aload_n (n := 39) dd_M_mount_38 rfl 1 rfl rfl ?_
    refine fx_iload_n (n := 40) dd_M_mount_39 rfl 2 rfl rfl ?_
    refine fx_callV (n := 43) (vs := [_]) dd_M_mount_40 mw_M_isTorn ⟨wd_871, wd_873, wp_68⟩ rfl (by decide) q19.1 q19.2 rfl rfl ⟨Nat.le_of_ble_eq_true rfl, Nat.le_of_ble_eq_true rfl, Nat.le_of_ble_eq_true rfl, fx_nx, rfl⟩ rfl h (fx_qi_k fun x25 S24 h => ?_) (fun _ _ h => h)
    refine fx_if_ne (n := 46) (tg := 60) dd_M_mount_43 rfl rfl (fun hc => ?_) (fun hc => ?_)
    · replace h := h.1 hc
      refine fx_iconst (n := 61) (v := 0) dd_M_mount_60 (by decide) rfl ?_
      obtain ⟨q26, h⟩ := h
      obtain ⟨q27, h⟩ := h
      replace h := h _ rfl
      refine fx_zast (n := 62) dd_M_mount_61 rfl q26.1 q26.2 q27 ?_
      refine fx_iinc (n := 65) (L' := [(1, _), (2, _), (0, _)]) dd_M_mount_62 2 rfl rfl (by decide) rfl rfl ?_
      refine fx_goto (n := 17) dd_M_mount_65 rfl ?_
      refine fx_sub (L' := [(0, _), (1, _)]) [2, 0] rfl ?_
      exact h
    · replace h := h.2 hc
      refine fx_iload_n (n := 47) dd_M_mount_46 rfl 0 rfl rfl ?_
      refine fx_iconst (n := 48) (v := 1) dd_M_mount_47 (by decide) rfl ?_
      refine fx_icmp_eq (n := 51) (tg := 56) dd_M_mount_48 rfl rfl (fun hc => ?_) (fun hc => ?_)
      · replace h := h.1 hc
        refine fx_iconst (n := 57) (v := 1) dd_M_mount_56 (by decide) rfl ?_
        refine fx_goto (n := 61) dd_M_mount_57 rfl ?_
        obtain ⟨q29, h⟩ := h
        obtain ⟨q30, h⟩ := h
        replace h := h _ rfl
        refine fx_zast (n := 62) dd_M_mount_61 rfl q29.1 q29.2 q30 ?_
        refine fx_iinc (n := 65) (L' := [(1, _), (2, _), (0, _)]) dd_M_mount_62 2 rfl rfl (by decide) rfl rfl ?_
        refine fx_goto (n := 17) dd_M_mount_65 rfl ?_
        refine fx_sub (L' := [(0, _), (1, _)]) [2, 0] rfl ?_
        exact h
      · replace h := h.2 hc
        refine fx_iload_n (n := 52) dd_M_mount_51 rfl 0 rfl rfl ?_
        refine fx_iconst (n := 53) (v := 2) dd_M_mount_52 (by decide) rfl ?_
        refine fx_icmp_ne (n := 56) (tg := 60) dd_M_mount_53 rfl rfl (fun hc => ?_) (fun hc => ?_)
        · replace h := h.1 hc
          refine fx_iconst (n := 61) (v := 0) dd_M_mount_60 (by decide) rfl ?_
          obtain ⟨q32, h⟩ := h
          obtain ⟨q33, h⟩ := h
          replace h := h _ rfl
          refine fx_zast (n := 62) dd_M_mount_61 rfl q32.1 q32.2 q33 ?_
          refine fx_iinc (n := 65) (L' := [(1, _), (2, _), (0, _)]) dd_M_mount_62 2 rfl rfl (by decide) rfl rfl ?_
          refine fx_goto (n := 17) dd_M_mount_65 rfl ?_
          refine fx_sub (L' := [(0, _), (1, _)]) [2, 0] rfl ?_
          exact h
        · replace h := h.2 hc
          refine fx_iconst (n := 57) (v := 1) dd_M_mount_56 (by decide) rfl ?_
          refine fx_goto (n := 61) dd_M_mount_57 rfl ?_
          obtain ⟨q35, h⟩ := h
          obtain ⟨q36, h⟩ := h
          replace h := h _ rfl
          refine fx_zast (n := 62) dd_M_mount_61 rfl q35.1 q35.2 q36 ?_
          refine fx_iinc (n := 65) (L' := [(1, _), (2, _), (0, _)]) dd_M_mount_62 2 rfl rfl (by decide) rfl rfl ?_
          refine fx_goto (n := 17) dd_M_mount_65 rfl ?_
          refine fx_sub (L' := [(0, _), (1, _)]) [2, 0] rfl ?_
          exact h
theorem bk_M_mount_97 {G : fx_G} {S : fx_S} {Q : fx_R → fx_S → Prop} (v0 : Nat) (v1 : Int32) (h : (128 ≤ v1 → fx_Go G (7, 105) mm_M_mount 119 [(0, fx_r G v0), (1, .int 0)] [] S Q) ∧ (¬ 128 ≤ v1 → fx_is S v0 5 ∧ ∃ r2, fx_P S v0 3 = some r2 ∧ fx_is S r2 101 ∧ vp_in v1 (fx_ln S r2) ∧ ∀ S5, S5 = fx_setI S r2 (v1.toNatClampNeg) (vp_nar .boolean 0) → fx_Go G (7, 105) mm_M_mount 97 [(0, fx_r G v0), (1, .int (v1 + Int32.ofInt 1))] [] S5 Q)) :
    fx_Go G (7, 105) mm_M_mount 97 [(0, fx_r G v0), (1, .int v1)] [] S Q := by
  refine fx_iload_n (n := 98) dd_M_mount_97 rfl 1 rfl rfl ?_
  refine fx_sipush (n := 101) (v := 128) dd_M_mount_98 (by decide) rfl ?_
  refine fx_icmp_ge (n := 104) (tg := 117) dd_M_mount_101 rfl rfl (fun hc => ?_) (fun hc => ?_)
  · replace h := h.1 hc
    refine fx_iconst (n := 118) (v := 0) dd_M_mount_117 (by decide) rfl ?_
    refine fx_istore_n (n := 119) (L' := [(1, _), (0, _)]) dd_M_mount_118 rfl (by decide) rfl rfl ?_
    refine fx_sub (L' := [(0, _), (1, _)]) [1, 0] rfl ?_
    exact h
  · replace h := h.2 hc
    refine fx_aload_n (n := 105) dd_M_mount_104 rfl 0 rfl rfl ?_
    obtain ⟨q1, h⟩ := h
    obtain ⟨r2, hr2, h⟩ := h
    refine fx_getP (n := 108) dd_M_mount_105 fw_M_17 (by decide) rfl rfl q1.1 q1.2 hr2 ?_
    refine fx_iload_n (n := 109) dd_M_mount_108 rfl 1 rfl rfl ?_
    refine fx_iconst (n := 110) (v := 0) dd_M_mount_109 (by decide) rfl ?_
    obtain ⟨q3, h⟩ := h
    obtain ⟨q4, h⟩ := h
    replace h := h _ rfl
    refine fx_zast (n := 111) dd_M_mount_110 rfl q3.1 q3.2 q4 ?_
    refine fx_iinc (n := 114) (L' := [(1, _), (0, _)]) dd_M_mount_111 1 rfl rfl (by decide) rfl rfl ?_
    refine fx_goto (n := 97) dd_M_mount_114 rfl ?_
    refine fx_sub (L' := [(0, _), (1, _)]) [1, 0] rfl ?_
    exact h
theorem bk_M_mount_119 {G : fx_G} {S : fx_S} {Q : fx_R → fx_S → Prop} (v0 : Nat) (v1 : Int32) (h : (12 ≤ v1 → fx_is S v0 5 ∧ ∀ S2, S2 = fx_setI S v0 4 1 → Q (.inl (some (.int (fx_I S2 v0 16)))) S2) ∧ (¬ 12 ≤ v1 → fx_is S v0 5 ∧ ∃ r4, fx_P S v0 2 = some r4 ∧ fx_is S r4 101 ∧ vp_in v1 (fx_ln S r4) ∧ ((fx_I S r4 (v1.toNatClampNeg)) = 0 → fx_Go G (7, 105) mm_M_mount 119 [(0, fx_r G v0), (1, .int (v1 + Int32.ofInt 1))] [] S Q) ∧ (¬ (fx_I S r4 (v1.toNatClampNeg)) = 0 → fx_Go G (0, 0) mm_M_byteOf 0 [(0, fx_r G v0), (1, .int v1), (2, .int 0)] [] S (fx_qi (fun x8 S7 => (x8 = 1 → fx_is S7 v0 5 ∧ fx_Go G (2, 32) mm_M_loadMap 0 [(0, fx_r G v0), (1, .int v1)] [] S7 (fx_qv (fun S9 => fx_Go G (7, 105) mm_M_mount 154 [(0, fx_r G v0), (1, .int v1), (2, .int 0)] [] S9 Q) Q)) ∧ (¬ x8 = 1 → fx_Go G (7, 105) mm_M_mount 119 [(0, fx_r G v0), (1, .int (v1 + Int32.ofInt 1))] [] S7 Q)) Q)))) :
    fx_Go G (7, 105) mm_M_mount 119 [(0, fx_r G v0), (1, .int v1)] [] S Q := by
  refine fx_iload_n (n := 120) dd_M_mount_119 rfl 1 rfl rfl ?_
  refine fx_bipush (n := 122) (v := 12) dd_M_mount_120 (by decide) rfl ?_
  refine fx_icmp_ge (n := 125) (tg := 195) dd_M_mount_122 rfl rfl (fun hc => ?_) (fun hc => ?_)
  · replace h := h.1 hc
    refine fx_aload_n (n := 196) dd_M_mount_195 rfl 0 rfl rfl ?_
    refine fx_iconst (n := 197) (v := 1) dd_M_mount_196 (by decide) rfl ?_
    obtain ⟨q1, h⟩ := h
    replace h := h _ rfl
    refine fx_putI (n := 200) dd_M_mount_197 fw_M_50 (by decide) rfl rfl rfl rfl q1.1 q1.2 ?_
    refine fx_aload_n (n := 201) dd_M_mount_200 rfl 0 rfl rfl ?_
    refine fx_getI (n := 204) dd_M_mount_201 fw_M_193 (by decide) rfl rfl q1.1 q1.2 ?_
    exact fx_iret dd_M_mount_204 rfl h
  · replace h := h.2 hc
    refine fx_aload_n (n := 126) dd_M_mount_125 rfl 0 rfl rfl ?_
    obtain ⟨q3, h⟩ := h
    obtain ⟨r4, hr4, h⟩ := h
    refine fx_getP (n := 129) dd_M_mount_126 fw_M_13 (by decide) rfl rfl q3.1 q3.2 hr4 ?_
    refine fx_iload_n (n := 130) dd_M_mount_129 rfl 1 rfl rfl ?_
    obtain ⟨q5, h⟩ := h
    obtain ⟨q6, h⟩ := h
    refine fx_zald (n := 131) dd_M_mount_130 rfl q5.1 q5.2 q6 ?_
    refine fx_if_eq (n := 134) (tg := 189) dd_M_mount_131 rfl rfl (fun hc => ?_) (fun hc => ?_)
    · replace h := h.1 hc
      refine fx_iinc (n := 192) (L' := [(1, _), (0, _)]) dd_M_mount_189 1 rfl rfl (by decide) rfl rfl ?_
      refine fx_goto (n := 119) dd_M_mount_192 rfl ?_
      refine fx_sub (L' := [(0, _), (1, _)]) [1, 0] rfl ?_
      exact h
    · replace h := h.2 hc
      refine fx_aload_n (n := 135) dd_M_mount_134 rfl 0 rfl rfl ?_
      refine fx_iload_n (n := 136) dd_M_mount_135 rfl 1 rfl rfl ?_
      refine fx_iconst (n := 137) (v := 0) dd_M_mount_136 (by decide) rfl ?_
      refine fx_callV (n := 140) (vs := [_, _]) dd_M_mount_137 mw_M_byteOf ⟨wd_729, wd_731, wp_40⟩ rfl (by decide) q3.1 q3.2 rfl rfl ⟨Nat.le_of_ble_eq_true rfl, Nat.le_of_ble_eq_true rfl, Nat.le_of_ble_eq_true rfl, fx_nx, rfl⟩ rfl h (fx_qi_k fun x8 S7 h => ?_) (fun _ _ h => h)
      refine fx_iconst (n := 141) (v := 1) dd_M_mount_140 (by decide) rfl ?_
      refine fx_icmp_eq (n := 144) (tg := 147) dd_M_mount_141 rfl rfl (fun hc => ?_) (fun hc => ?_)
      · replace h := h.1 hc
        refine fx_aload_n (n := 148) dd_M_mount_147 rfl 0 rfl rfl ?_
        refine fx_iload_n (n := 149) dd_M_mount_148 rfl 1 rfl rfl ?_
        obtain ⟨q10, h⟩ := h
        refine fx_callV (n := 152) (vs := [_]) dd_M_mount_149 mw_M_loadMap ⟨wd_793, wd_795, wp_55⟩ rfl (by decide) q10.1 q10.2 rfl rfl ⟨Nat.le_of_ble_eq_true rfl, Nat.le_of_ble_eq_true rfl, Nat.le_of_ble_eq_true rfl, fx_nx, rfl⟩ rfl h (fx_qv_k fun S9 h => ?_) (fun _ _ h => h)
        refine fx_iconst (n := 153) (v := 0) dd_M_mount_152 (by decide) rfl ?_
        refine fx_istore_n (n := 154) (L' := [(2, _), (0, _), (1, _)]) dd_M_mount_153 rfl (by decide) rfl rfl ?_
        refine fx_sub (L' := [(0, _), (1, _), (2, _)]) [1, 2, 0] rfl ?_
        exact h
      · replace h := h.2 hc
        refine fx_goto (n := 189) dd_M_mount_144 rfl ?_
        refine fx_iinc (n := 192) (L' := [(1, _), (0, _)]) dd_M_mount_189 1 rfl rfl (by decide) rfl rfl ?_
        refine fx_goto (n := 119) dd_M_mount_192 rfl ?_
        refine fx_sub (L' := [(0, _), (1, _)]) [1, 0] rfl ?_
        exact h
theorem bk_M_mount_154 {G : fx_G} {S : fx_S} {Q : fx_R → fx_S → Prop} (v0 : Nat) (v1 : Int32) (v2 : Int32) (h : fx_is S v0 5 ∧ ((fx_I S v0 10) ≤ v2 → fx_Go G (7, 105) mm_M_mount 119 [(0, fx_r G v0), (1, .int (v1 + Int32.ofInt 1))] [] S Q) ∧ (¬ (fx_I S v0 10) ≤ v2 → ∃ r2, fx_P S v0 11 = some r2 ∧ fx_is S r2 100 ∧ vp_in v2 (fx_ln S r2) ∧ ((fx_I S r2 (v2.toNatClampNeg)) < 0 → fx_Go G (7, 105) mm_M_mount 154 [(0, fx_r G v0), (1, .int v1), (2, .int (v2 + Int32.ofInt 1))] [] S Q) ∧ (¬ (fx_I S r2 (v2.toNatClampNeg)) < 0 → ∃ r5, fx_P S v0 3 = some r5 ∧ ∃ r6, fx_P S v0 11 = some r6 ∧ fx_is S r6 100 ∧ vp_in v2 (fx_ln S r6) ∧ fx_is S r5 101 ∧ vp_in (fx_I S r6 (v2.toNatClampNeg)) (fx_ln S r5) ∧ ∀ S11, S11 = fx_setI S r5 ((fx_I S r6 (v2.toNatClampNeg)).toNatClampNeg) (vp_nar .boolean 1) → fx_Go G (7, 105) mm_M_mount 154 [(0, fx_r G v0), (1, .int v1), (2, .int (v2 + Int32.ofInt 1))] [] S11 Q))) :
    fx_Go G (7, 105) mm_M_mount 154 [(0, fx_r G v0), (1, .int v1), (2, .int v2)] [] S Q := by
  refine fx_iload_n (n := 155) dd_M_mount_154 rfl 2 rfl rfl ?_
  refine fx_aload_n (n := 156) dd_M_mount_155 rfl 0 rfl rfl ?_
  obtain ⟨q1, h⟩ := h
  refine fx_getI (n := 159) dd_M_mount_156 fw_M_91 (by decide) rfl rfl q1.1 q1.2 ?_
  refine fx_icmp_ge (n := 162) (tg := 189) dd_M_mount_159 rfl rfl (fun hc => ?_) (fun hc => ?_)
  · replace h := h.1 hc
    refine fx_iinc (n := 192) (L' := [(1, _), (0, _), (2, _)]) dd_M_mount_189 1 rfl rfl (by decide) rfl rfl ?_
    refine fx_goto (n := 119) dd_M_mount_192 rfl ?_
    refine fx_sub (L' := [(0, _), (1, _)]) [1, 0] rfl ?_
    exact h
  · replace h := h.2 hc
    refine fx_aload_n (n := 163) dd_M_mount_162 rfl 0 rfl rfl ?_
    obtain ⟨r2, hr2, h⟩ := h
    refine fx_getP (n := 166) dd_M_mount_163 fw_M_27 (by decide) rfl rfl q1.1 q1.2 hr2 ?_
    refine fx_iload_n (n := 167) dd_M_mount_166 rfl 2 rfl rfl ?_
    obtain ⟨q3, h⟩ := h
    obtain ⟨q4, h⟩ := h
    refine fx_iald (n := 168) dd_M_mount_167 rfl q3.1 q3.2 q4 ?_
    refine fx_if_lt (n := 171) (tg := 183) dd_M_mount_168 rfl rfl (fun hc => ?_) (fun hc => ?_)
    · replace h := h.1 hc
      refine fx_iinc (n := 186) (L' := [(2, _), (0, _), (1, _)]) dd_M_mount_183 2 rfl rfl (by decide) rfl rfl ?_
      refine fx_goto (n := 154) dd_M_mount_186 rfl ?_
      refine fx_sub (L' := [(0, _), (1, _), (2, _)]) [1, 2, 0] rfl ?_
      exact h
    · replace h := h.2 hc
      refine fx_aload_n (n := 172) dd_M_mount_171 rfl 0 rfl rfl ?_
      obtain ⟨r5, hr5, h⟩ := h
      refine fx_getP (n := 175) dd_M_mount_172 fw_M_17 (by decide) rfl rfl q1.1 q1.2 hr5 ?_
      refine fx_aload_n (n := 176) dd_M_mount_175 rfl 0 rfl rfl ?_
      obtain ⟨r6, hr6, h⟩ := h
      refine fx_getP (n := 179) dd_M_mount_176 fw_M_27 (by decide) rfl rfl q1.1 q1.2 hr6 ?_
      refine fx_iload_n (n := 180) dd_M_mount_179 rfl 2 rfl rfl ?_
      obtain ⟨q7, h⟩ := h
      obtain ⟨q8, h⟩ := h
      refine fx_iald (n := 181) dd_M_mount_180 rfl q7.1 q7.2 q8 ?_
      refine fx_iconst (n := 182) (v := 1) dd_M_mount_181 (by decide) rfl ?_
      obtain ⟨q9, h⟩ := h
      obtain ⟨q10, h⟩ := h
      replace h := h _ rfl
      refine fx_zast (n := 183) dd_M_mount_182 rfl q9.1 q9.2 q10 ?_
      refine fx_iinc (n := 186) (L' := [(2, _), (0, _), (1, _)]) dd_M_mount_183 2 rfl rfl (by decide) rfl rfl ?_
      refine fx_goto (n := 154) dd_M_mount_186 rfl ?_
      refine fx_sub (L' := [(0, _), (1, _), (2, _)]) [1, 2, 0] rfl ?_
      exact h
theorem bk_M_on_0 {G : fx_G} {S : fx_S} {Q : fx_R → fx_S → Prop} (v0 : Nat) (h : fx_is S v0 5 ∧ ∀ S2, S2 = fx_setI S v0 0 0 → narrow .boolean (.int (fx_I S2 v0 4)) = .int (fx_I S2 v0 4) ∧ Q (.inl (some (.int (fx_I S2 v0 4)))) S2) :
    fx_Go G (0, 0) mm_M_on 0 [(0, fx_r G v0)] [] S Q := by
  refine fx_aload_n (n := 1) dd_M_on_0 rfl 0 rfl rfl ?_
  refine fx_iconst (n := 2) (v := 0) dd_M_on_1 (by decide) rfl ?_
  obtain ⟨q1, h⟩ := h
  replace h := h _ rfl
  refine fx_putI (n := 5) dd_M_on_2 fw_M_54 (by decide) rfl rfl rfl rfl q1.1 q1.2 ?_
  refine fx_aload_n (n := 6) dd_M_on_5 rfl 0 rfl rfl ?_
  refine fx_getI (n := 9) dd_M_on_6 fw_M_50 (by decide) rfl rfl q1.1 q1.2 ?_
  exact fx_zret dd_M_on_9 rfl h.1 h.2
theorem bk_M_find_0 {G : fx_G} {S : fx_S} {Q : fx_R → fx_S → Prop} (v0 : Nat) (v1 : Int32) (h : fx_is S v0 5 ∧ ∀ S2, S2 = fx_setI S v0 0 0 → fx_Go G (1, 15) mm_M_isKind 0 [(0, fx_r G v0), (1, .int v1), (2, .int 2)] [] S2 (fx_qi (fun x4 S3 => (x4 = 0 → fx_is S3 v0 5 ∧ ∀ S6, S6 = fx_setI S3 v0 6 0 → Q (.inl (some (.int (-1)))) S6) ∧ (¬ x4 = 0 → fx_is S3 v0 5 ∧ ((fx_I S3 v0 6) ≤ 0 → ∀ S8, S8 = fx_setI S3 v0 6 0 → Q (.inl (some (.int (-1)))) S8) ∧ (¬ (fx_I S3 v0 6) ≤ 0 → fx_Go G (5, 75) mm_M_findDraft 0 [(0, fx_r G v0), (1, .int v1)] [] S3 (fx_qi (fun x10 S9 => fx_is S9 v0 5 ∧ ∀ S12, S12 = fx_setI S9 v0 6 0 → Q (.inl (some (.int x10))) S12) Q)))) Q)) :
    fx_Go G (6, 89) mm_M_find 0 [(0, fx_r G v0), (1, .int v1)] [] S Q := by
  refine fx_aload_n (n := 1) dd_M_find_0 rfl 0 rfl rfl ?_
  refine fx_iconst (n := 2) (v := 0) dd_M_find_1 (by decide) rfl ?_
  obtain ⟨q1, h⟩ := h
  replace h := h _ rfl
  refine fx_putI (n := 5) dd_M_find_2 fw_M_54 (by decide) rfl rfl rfl rfl q1.1 q1.2 ?_
  refine fx_aload_n (n := 6) dd_M_find_5 rfl 0 rfl rfl ?_
  refine fx_iload_n (n := 7) dd_M_find_6 rfl 1 rfl rfl ?_
  refine fx_iconst (n := 8) (v := 2) dd_M_find_7 (by decide) rfl ?_
  refine fx_callV (n := 11) (vs := [_, _]) dd_M_find_8 mw_M_isKind ⟨wd_721, wd_723, wp_38⟩ rfl (by decide) q1.1 q1.2 rfl rfl ⟨Nat.le_of_ble_eq_true rfl, Nat.le_of_ble_eq_true rfl, Nat.le_of_ble_eq_true rfl, fx_nx, rfl⟩ rfl h (fx_qi_k fun x4 S3 h => ?_) (fun _ _ h => h)
  refine fx_if_eq (n := 14) (tg := 29) dd_M_find_11 rfl rfl (fun hc => ?_) (fun hc => ?_)
  · replace h := h.1 hc
    refine fx_iconst (n := 30) (v := (-1)) dd_M_find_29 (by decide) rfl ?_
    refine fx_istore_n (n := 31) (L' := [(2, _), (0, _), (1, _)]) dd_M_find_30 rfl (by decide) rfl rfl ?_
    refine fx_aload_n (n := 32) dd_M_find_31 rfl 1 rfl rfl ?_
    refine fx_iconst (n := 33) (v := 0) dd_M_find_32 (by decide) rfl ?_
    obtain ⟨q5, h⟩ := h
    replace h := h _ rfl
    refine fx_putI (n := 36) dd_M_find_33 fw_M_78 (by decide) rfl rfl rfl rfl q5.1 q5.2 ?_
    refine fx_iload_n (n := 37) dd_M_find_36 rfl 0 rfl rfl ?_
    exact fx_iret dd_M_find_37 rfl h
  · replace h := h.2 hc
    refine fx_aload_n (n := 15) dd_M_find_14 rfl 0 rfl rfl ?_
    obtain ⟨q7, h⟩ := h
    refine fx_getI (n := 18) dd_M_find_15 fw_M_78 (by decide) rfl rfl q7.1 q7.2 ?_
    refine fx_if_le (n := 21) (tg := 29) dd_M_find_18 rfl rfl (fun hc => ?_) (fun hc => ?_)
    · replace h := h.1 hc
      refine fx_iconst (n := 30) (v := (-1)) dd_M_find_29 (by decide) rfl ?_
      refine fx_istore_n (n := 31) (L' := [(2, _), (0, _), (1, _)]) dd_M_find_30 rfl (by decide) rfl rfl ?_
      refine fx_aload_n (n := 32) dd_M_find_31 rfl 1 rfl rfl ?_
      refine fx_iconst (n := 33) (v := 0) dd_M_find_32 (by decide) rfl ?_
      replace h := h _ rfl
      refine fx_putI (n := 36) dd_M_find_33 fw_M_78 (by decide) rfl rfl rfl rfl q7.1 q7.2 ?_
      refine fx_iload_n (n := 37) dd_M_find_36 rfl 0 rfl rfl ?_
      exact fx_iret dd_M_find_37 rfl h
    · replace h := h.2 hc
      refine fx_aload_n (n := 22) dd_M_find_21 rfl 0 rfl rfl ?_
      refine fx_iload_n (n := 23) dd_M_find_22 rfl 1 rfl rfl ?_
      refine fx_callV (n := 26) (vs := [_]) dd_M_find_23 mw_M_findDraft ⟨wd_733, wd_735, wp_41⟩ rfl (by decide) q7.1 q7.2 rfl rfl ⟨Nat.le_of_ble_eq_true rfl, Nat.le_of_ble_eq_true rfl, Nat.le_of_ble_eq_true rfl, fx_nx, rfl⟩ rfl h (fx_qi_k fun x10 S9 h => ?_) (fun _ _ h => h)
      refine fx_goto (n := 30) dd_M_find_26 rfl ?_
      refine fx_istore_n (n := 31) (L' := [(2, _), (0, _), (1, _)]) dd_M_find_30 rfl (by decide) rfl rfl ?_
      refine fx_aload_n (n := 32) dd_M_find_31 rfl 1 rfl rfl ?_
      refine fx_iconst (n := 33) (v := 0) dd_M_find_32 (by decide) rfl ?_
      obtain ⟨q11, h⟩ := h
      replace h := h _ rfl
      refine fx_putI (n := 36) dd_M_find_33 fw_M_78 (by decide) rfl rfl rfl rfl q11.1 q11.2 ?_
      refine fx_iload_n (n := 37) dd_M_find_36 rfl 0 rfl rfl ?_
      exact fx_iret dd_M_find_37 rfl h
theorem bk_M_runsOf_0 {G : fx_G} {S : fx_S} {Q : fx_R → fx_S → Prop} (v0 : Nat) (v1 : Int32) (h : fx_is S v0 5 ∧ fx_Go G (1, 16) mm_M_attribute 0 [(0, fx_r G v0), (1, .int v1), (2, .int 3)] [] S (fx_qi (fun x3 S1 => (0 ≤ x3 → fx_Go G (2, 32) mm_M_runsOf 18 [(0, fx_r G v0), (1, .int v1), (2, .int (x3 + Int32.ofInt 4)), (3, .int 0)] [] S1 Q) ∧ (¬ 0 ≤ x3 → Q (.inl (some (.int 0))) S1)) Q)) :
    fx_Go G (2, 32) mm_M_runsOf 0 [(0, fx_r G v0), (1, .int v1)] [] S Q := by
  refine fx_aload_n (n := 1) dd_M_runsOf_0 rfl 0 rfl rfl ?_
  refine fx_iload_n (n := 2) dd_M_runsOf_1 rfl 1 rfl rfl ?_
  refine fx_iconst (n := 3) (v := 3) dd_M_runsOf_2 (by decide) rfl ?_
  obtain ⟨q2, h⟩ := h
  refine fx_callV (n := 6) (vs := [_, _]) dd_M_runsOf_3 mw_M_attribute ⟨wd_741, wd_743, wp_43⟩ rfl (by decide) q2.1 q2.2 rfl rfl ⟨Nat.le_of_ble_eq_true rfl, Nat.le_of_ble_eq_true rfl, Nat.le_of_ble_eq_true rfl, fx_nx, rfl⟩ rfl h (fx_qi_k fun x3 S1 h => ?_) (fun _ _ h => h)
  refine fx_istore_n (n := 7) (L' := [(2, _), (0, _), (1, _)]) dd_M_runsOf_6 rfl (by decide) rfl rfl ?_
  refine fx_iload_n (n := 8) dd_M_runsOf_7 rfl 0 rfl rfl ?_
  refine fx_if_ge (n := 11) (tg := 13) dd_M_runsOf_8 rfl rfl (fun hc => ?_) (fun hc => ?_)
  · replace h := h.1 hc
    refine fx_iconst (n := 14) (v := 0) dd_M_runsOf_13 (by decide) rfl ?_
    refine fx_istore_n (n := 15) (L' := [(3, _), (2, _), (0, _), (1, _)]) dd_M_runsOf_14 rfl (by decide) rfl rfl ?_
    refine fx_iinc (n := 18) (L' := [(2, _), (3, _), (0, _), (1, _)]) dd_M_runsOf_15 1 rfl rfl (by decide) rfl rfl ?_
    refine fx_sub (L' := [(0, _), (1, _), (2, _), (3, _)]) [2, 3, 0, 1] rfl ?_
    exact h
  · replace h := h.2 hc
    refine fx_iconst (n := 12) (v := 0) dd_M_runsOf_11 (by decide) rfl ?_
    exact fx_iret dd_M_runsOf_12 rfl h
theorem bk_M_runsOf_18 {G : fx_G} {S : fx_S} {Q : fx_R → fx_S → Prop} (v0 : Nat) (v1 : Int32) (v2 : Int32) (v3 : Int32) (h : fx_is S v0 5 ∧ fx_Go G (0, 0) mm_M_byteOf 0 [(0, fx_r G v0), (1, .int v1), (2, .int v2)] [] S (fx_qi (fun x3 S1 => (x3 = 0 → Q (.inl (some (.int v3))) S1) ∧ (¬ x3 = 0 → fx_is S1 v0 5 ∧ fx_Go G (0, 0) mm_M_byteOf 0 [(0, fx_r G v0), (1, .int v1), (2, .int v2)] [] S1 (fx_qi (fun x6 S4 => (¬ x6 = 1 → fx_Go G (2, 32) mm_M_runsOf 18 [(0, fx_r G v0), (1, .int v1), (2, .int (v2 + 3)), (3, .int (v3 + Int32.ofInt 1))] [] S4 Q) ∧ (x6 = 1 → fx_Go G (2, 32) mm_M_runsOf 18 [(0, fx_r G v0), (1, .int v1), (2, .int (v2 + 2)), (3, .int (v3 + Int32.ofInt 1))] [] S4 Q)) Q))) Q)) :
    fx_Go G (2, 32) mm_M_runsOf 18 [(0, fx_r G v0), (1, .int v1), (2, .int v2), (3, .int v3)] [] S Q := by
  refine fx_aload_n (n := 19) dd_M_runsOf_18 rfl 0 rfl rfl ?_
  refine fx_iload_n (n := 20) dd_M_runsOf_19 rfl 1 rfl rfl ?_
  refine fx_iload_n (n := 21) dd_M_runsOf_20 rfl 2 rfl rfl ?_
  obtain ⟨q2, h⟩ := h
  refine fx_callV (n := 24) (vs := [_, _]) dd_M_runsOf_21 mw_M_byteOf ⟨wd_729, wd_731, wp_40⟩ rfl (by decide) q2.1 q2.2 rfl rfl ⟨Nat.le_of_ble_eq_true rfl, Nat.le_of_ble_eq_true rfl, Nat.le_of_ble_eq_true rfl, fx_nx, rfl⟩ rfl h (fx_qi_k fun x3 S1 h => ?_) (fun _ _ h => h)
  refine fx_if_eq (n := 27) (tg := 51) dd_M_runsOf_24 rfl rfl (fun hc => ?_) (fun hc => ?_)
  · replace h := h.1 hc
    refine fx_iload_n (n := 52) dd_M_runsOf_51 rfl 3 rfl rfl ?_
    exact fx_iret dd_M_runsOf_52 rfl h
  · replace h := h.2 hc
    refine fx_iload_n (n := 28) dd_M_runsOf_27 rfl 2 rfl rfl ?_
    refine fx_aload_n (n := 29) dd_M_runsOf_28 rfl 0 rfl rfl ?_
    refine fx_iload_n (n := 30) dd_M_runsOf_29 rfl 1 rfl rfl ?_
    refine fx_iload_n (n := 31) dd_M_runsOf_30 rfl 2 rfl rfl ?_
    obtain ⟨q5, h⟩ := h
    refine fx_callV (n := 34) (vs := [_, _]) dd_M_runsOf_31 mw_M_byteOf ⟨wd_729, wd_731, wp_40⟩ rfl (by decide) q5.1 q5.2 rfl rfl ⟨Nat.le_of_ble_eq_true rfl, Nat.le_of_ble_eq_true rfl, Nat.le_of_ble_eq_true rfl, fx_nx, rfl⟩ rfl h (fx_qi_k fun x6 S4 h => ?_) (fun _ _ h => h)
    refine fx_iconst (n := 35) (v := 1) dd_M_runsOf_34 (by decide) rfl ?_
    refine fx_icmp_ne (n := 38) (tg := 42) dd_M_runsOf_35 rfl rfl (fun hc => ?_) (fun hc => ?_)
    · replace h := h.1 hc
      refine fx_iconst (n := 43) (v := 3) dd_M_runsOf_42 (by decide) rfl ?_
      refine fx_iadd (n := 44) dd_M_runsOf_43 rfl ?_
      refine fx_istore_n (n := 45) (L' := [(2, _), (0, _), (1, _), (3, _)]) dd_M_runsOf_44 rfl (by decide) rfl rfl ?_
      refine fx_iinc (n := 48) (L' := [(3, _), (2, _), (0, _), (1, _)]) dd_M_runsOf_45 3 rfl rfl (by decide) rfl rfl ?_
      refine fx_goto (n := 18) dd_M_runsOf_48 rfl ?_
      refine fx_sub (L' := [(0, _), (1, _), (2, _), (3, _)]) [2, 3, 1, 0] rfl ?_
      exact h
    · replace h := h.2 hc
      refine fx_iconst (n := 39) (v := 2) dd_M_runsOf_38 (by decide) rfl ?_
      refine fx_goto (n := 43) dd_M_runsOf_39 rfl ?_
      refine fx_iadd (n := 44) dd_M_runsOf_43 rfl ?_
      refine fx_istore_n (n := 45) (L' := [(2, _), (0, _), (1, _), (3, _)]) dd_M_runsOf_44 rfl (by decide) rfl rfl ?_
      refine fx_iinc (n := 48) (L' := [(3, _), (2, _), (0, _), (1, _)]) dd_M_runsOf_45 3 rfl rfl (by decide) rfl rfl ?_
      refine fx_goto (n := 18) dd_M_runsOf_48 rfl ?_
      refine fx_sub (L' := [(0, _), (1, _), (2, _), (3, _)]) [2, 3, 1, 0] rfl ?_
      exact h
theorem bk_M_record_0 {G : fx_G} {S : fx_S} {Q : fx_R → fx_S → Prop} (v0 : Nat) (v1 : Int32) (v2 : Int32) (h : fx_is S v0 5 ∧ ∀ S2, S2 = fx_setI S v0 0 0 → fx_Go G (0, 0) mm_M_isRecord 0 [(0, fx_r G v0), (1, .int v1)] [] S2 (fx_qi (fun x4 S3 => (¬ x4 = 0 → fx_is S3 v0 5 ∧ fx_Go G (0, 0) mm_M_byteOf 0 [(0, fx_r G v0), (1, .int v1), (2, .int 0)] [] S3 (fx_qi (fun x7 S5 => (¬ x7 = 1 → fx_Go G (3, 47) mm_M_record 30 [(0, fx_r G v0), (1, .int v1), (2, .int v2)] [.int 0] S5 Q) ∧ (x7 = 1 → fx_Go G (3, 47) mm_M_record 30 [(0, fx_r G v0), (1, .int v1), (2, .int v2)] [.int 1] S5 Q)) Q)) ∧ (x4 = 0 → Q (.inl (some (.int (-1)))) S3)) Q)) :
    fx_Go G (3, 47) mm_M_record 0 [(0, fx_r G v0), (1, .int v1), (2, .int v2)] [] S Q := by
  refine fx_aload_n (n := 1) dd_M_record_0 rfl 0 rfl rfl ?_
  refine fx_iconst (n := 2) (v := 0) dd_M_record_1 (by decide) rfl ?_
  obtain ⟨q1, h⟩ := h
  replace h := h _ rfl
  refine fx_putI (n := 5) dd_M_record_2 fw_M_54 (by decide) rfl rfl rfl rfl q1.1 q1.2 ?_
  refine fx_aload_n (n := 6) dd_M_record_5 rfl 0 rfl rfl ?_
  refine fx_iload_n (n := 7) dd_M_record_6 rfl 1 rfl rfl ?_
  refine fx_callV (n := 10) (vs := [_]) dd_M_record_7 mw_M_isRecord ⟨wd_725, wd_727, wp_39⟩ rfl (by decide) q1.1 q1.2 rfl rfl ⟨Nat.le_of_ble_eq_true rfl, Nat.le_of_ble_eq_true rfl, Nat.le_of_ble_eq_true rfl, fx_nx, rfl⟩ rfl h (fx_qi_k fun x4 S3 h => ?_) (fun _ _ h => h)
  refine fx_if_ne (n := 13) (tg := 15) dd_M_record_10 rfl rfl (fun hc => ?_) (fun hc => ?_)
  · replace h := h.1 hc
    refine fx_aload_n (n := 16) dd_M_record_15 rfl 0 rfl rfl ?_
    refine fx_iload_n (n := 17) dd_M_record_16 rfl 1 rfl rfl ?_
    refine fx_iconst (n := 18) (v := 0) dd_M_record_17 (by decide) rfl ?_
    obtain ⟨q6, h⟩ := h
    refine fx_callV (n := 21) (vs := [_, _]) dd_M_record_18 mw_M_byteOf ⟨wd_729, wd_731, wp_40⟩ rfl (by decide) q6.1 q6.2 rfl rfl ⟨Nat.le_of_ble_eq_true rfl, Nat.le_of_ble_eq_true rfl, Nat.le_of_ble_eq_true rfl, fx_nx, rfl⟩ rfl h (fx_qi_k fun x7 S5 h => ?_) (fun _ _ h => h)
    refine fx_iconst (n := 22) (v := 1) dd_M_record_21 (by decide) rfl ?_
    refine fx_icmp_ne (n := 25) (tg := 29) dd_M_record_22 rfl rfl (fun hc => ?_) (fun hc => ?_)
    · replace h := h.1 hc
      refine fx_iconst (n := 30) (v := 0) dd_M_record_29 (by decide) rfl ?_
      exact h
    · replace h := h.2 hc
      refine fx_iconst (n := 26) (v := 1) dd_M_record_25 (by decide) rfl ?_
      refine fx_goto (n := 30) dd_M_record_26 rfl ?_
      exact h
  · replace h := h.2 hc
    refine fx_iconst (n := 14) (v := (-1)) dd_M_record_13 (by decide) rfl ?_
    exact fx_iret dd_M_record_14 rfl h
theorem bk_M_record_30 {G : fx_G} {S : fx_S} {Q : fx_R → fx_S → Prop} (v0 : Nat) (v1 : Int32) (v2 : Int32) (z0 : Int32) (h : (v2 = 0 → fx_is S v0 5 ∧ fx_Go G (0, 0) mm_M_byteOf 0 [(0, fx_r G v0), (1, .int v1), (2, .int 0)] [] S (fx_qi (fun x3 S1 => Q (.inl (some (.int x3))) S1) Q)) ∧ (v2 = 1 → fx_is S v0 5 ∧ fx_Go G (0, 0) mm_M_byteOf 0 [(0, fx_r G v0), (1, .int v1), (2, .int 1)] [] S (fx_qi (fun x6 S4 => Q (.inl (some (.int x6))) S4) Q)) ∧ (v2 = 2 → fx_is S v0 5 ∧ fx_Go G (0, 0) mm_M_wordAt 0 [(0, fx_r G v0), (1, .int ((64 * v1) + 2))] [] S (fx_qi (fun x9 S7 => Q (.inl (some (.int x9))) S7) Q)) ∧ (v2 = 3 → fx_is S v0 5 ∧ fx_Go G (0, 0) mm_M_byteOf 0 [(0, fx_r G v0), (1, .int v1), (2, .int 8)] [] S (fx_qi (fun x12 S10 => Q (.inl (some (.int x12))) S10) Q)) ∧ (v2 = 4 → (z0 = 0 → fx_is S v0 5 ∧ fx_Go G (2, 34) mm_M_listLength 0 [(0, fx_r G v0), (1, .int v1)] [] S (fx_qi (fun x15 S13 => Q (.inl (some (.int x15))) S13) Q)) ∧ (¬ z0 = 0 → fx_is S v0 5 ∧ fx_Go G (2, 32) mm_M_sizeOf 0 [(0, fx_r G v0), (1, .int v1)] [] S (fx_qi (fun x18 S16 => Q (.inl (some (.int x18))) S16) Q))) ∧ (v2 = 5 → (¬ z0 = 0 → fx_is S v0 5 ∧ fx_Go G (2, 32) mm_M_isInside 0 [(0, fx_r G v0), (1, .int v1)] [] S (fx_qi (fun x21 S19 => (x21 = 0 → Q (.inl (some (.int 3))) S19) ∧ (¬ x21 = 0 → Q (.inl (some (.int 2))) S19)) Q)) ∧ (z0 = 0 → Q (.inl (some (.int 4))) S)) ∧ (v2 = 6 → (z0 = 0 → Q (.inl (some (.int 0))) S) ∧ (¬ z0 = 0 → fx_is S v0 5 ∧ fx_Go G (2, 32) mm_M_runsOf 0 [(0, fx_r G v0), (1, .int v1)] [] S (fx_qi (fun x24 S22 => Q (.inl (some (.int x24))) S22) Q))) ∧ (¬ v2 = 0 → ¬ v2 = 1 → ¬ v2 = 2 → ¬ v2 = 3 → ¬ v2 = 4 → ¬ v2 = 5 → ¬ v2 = 6 → Q (.inl (some (.int (-1)))) S)) :
    fx_Go G (3, 47) mm_M_record 30 [(0, fx_r G v0), (1, .int v1), (2, .int v2)] [.int z0] S Q := by
  refine fx_istore_n (n := 31) (L' := [(3, _), (0, _), (1, _), (2, _)]) dd_M_record_30 rfl (by decide) rfl rfl ?_
  refine fx_iload_n (n := 32) dd_M_record_31 rfl 3 rfl rfl ?_
  by_cases hx0 : v2 = 0
  · refine fx_tableIn (n := 76) dd_M_record_32 (by rw [hx0]; decide) (by rw [hx0]; decide) (by rw [hx0]; rfl) rfl ?_
    replace h := h.1 hx0
    refine fx_aload_n (n := 77) dd_M_record_76 rfl 1 rfl rfl ?_
    refine fx_iload_n (n := 78) dd_M_record_77 rfl 2 rfl rfl ?_
    refine fx_iconst (n := 79) (v := 0) dd_M_record_78 (by decide) rfl ?_
    obtain ⟨q2, h⟩ := h
    refine fx_callV (n := 82) (vs := [_, _]) dd_M_record_79 mw_M_byteOf ⟨wd_729, wd_731, wp_40⟩ rfl (by decide) q2.1 q2.2 rfl rfl ⟨Nat.le_of_ble_eq_true rfl, Nat.le_of_ble_eq_true rfl, Nat.le_of_ble_eq_true rfl, fx_nx, rfl⟩ rfl h (fx_qi_k fun x3 S1 h => ?_) (fun _ _ h => h)
    exact fx_iret dd_M_record_82 rfl h
  by_cases hx1 : v2 = 1
  · refine fx_tableIn (n := 83) dd_M_record_32 (by rw [hx1]; decide) (by rw [hx1]; decide) (by rw [hx1]; rfl) rfl ?_
    replace h := h.2.1 hx1
    refine fx_aload_n (n := 84) dd_M_record_83 rfl 1 rfl rfl ?_
    refine fx_iload_n (n := 85) dd_M_record_84 rfl 2 rfl rfl ?_
    refine fx_iconst (n := 86) (v := 1) dd_M_record_85 (by decide) rfl ?_
    obtain ⟨q5, h⟩ := h
    refine fx_callV (n := 89) (vs := [_, _]) dd_M_record_86 mw_M_byteOf ⟨wd_729, wd_731, wp_40⟩ rfl (by decide) q5.1 q5.2 rfl rfl ⟨Nat.le_of_ble_eq_true rfl, Nat.le_of_ble_eq_true rfl, Nat.le_of_ble_eq_true rfl, fx_nx, rfl⟩ rfl h (fx_qi_k fun x6 S4 h => ?_) (fun _ _ h => h)
    exact fx_iret dd_M_record_89 rfl h
  by_cases hx2 : v2 = 2
  · refine fx_tableIn (n := 90) dd_M_record_32 (by rw [hx2]; decide) (by rw [hx2]; decide) (by rw [hx2]; rfl) rfl ?_
    replace h := h.2.2.1 hx2
    refine fx_aload_n (n := 91) dd_M_record_90 rfl 1 rfl rfl ?_
    refine fx_bipush (n := 93) (v := 64) dd_M_record_91 (by decide) rfl ?_
    refine fx_iload_n (n := 94) dd_M_record_93 rfl 2 rfl rfl ?_
    refine fx_imul (n := 95) dd_M_record_94 rfl ?_
    refine fx_iconst (n := 96) (v := 2) dd_M_record_95 (by decide) rfl ?_
    refine fx_iadd (n := 97) dd_M_record_96 rfl ?_
    obtain ⟨q8, h⟩ := h
    refine fx_callV (n := 100) (vs := [_]) dd_M_record_97 mw_M_wordAt ⟨wd_639, wd_641, wp_34⟩ rfl (by decide) q8.1 q8.2 rfl rfl ⟨Nat.le_of_ble_eq_true rfl, Nat.le_of_ble_eq_true rfl, Nat.le_of_ble_eq_true rfl, fx_nx, rfl⟩ rfl h (fx_qi_k fun x9 S7 h => ?_) (fun _ _ h => h)
    exact fx_iret dd_M_record_100 rfl h
  by_cases hx3 : v2 = 3
  · refine fx_tableIn (n := 101) dd_M_record_32 (by rw [hx3]; decide) (by rw [hx3]; decide) (by rw [hx3]; rfl) rfl ?_
    replace h := h.2.2.2.1 hx3
    refine fx_aload_n (n := 102) dd_M_record_101 rfl 1 rfl rfl ?_
    refine fx_iload_n (n := 103) dd_M_record_102 rfl 2 rfl rfl ?_
    refine fx_bipush (n := 105) (v := 8) dd_M_record_103 (by decide) rfl ?_
    obtain ⟨q11, h⟩ := h
    refine fx_callV (n := 108) (vs := [_, _]) dd_M_record_105 mw_M_byteOf ⟨wd_729, wd_731, wp_40⟩ rfl (by decide) q11.1 q11.2 rfl rfl ⟨Nat.le_of_ble_eq_true rfl, Nat.le_of_ble_eq_true rfl, Nat.le_of_ble_eq_true rfl, fx_nx, rfl⟩ rfl h (fx_qi_k fun x12 S10 h => ?_) (fun _ _ h => h)
    exact fx_iret dd_M_record_108 rfl h
  by_cases hx4 : v2 = 4
  · refine fx_tableIn (n := 109) dd_M_record_32 (by rw [hx4]; decide) (by rw [hx4]; decide) (by rw [hx4]; rfl) rfl ?_
    replace h := h.2.2.2.2.1 hx4
    refine fx_iload_n (n := 110) dd_M_record_109 rfl 0 rfl rfl ?_
    refine fx_if_eq (n := 113) (tg := 121) dd_M_record_110 rfl rfl (fun hc => ?_) (fun hc => ?_)
    · replace h := h.1 hc
      refine fx_aload_n (n := 122) dd_M_record_121 rfl 1 rfl rfl ?_
      refine fx_iload_n (n := 123) dd_M_record_122 rfl 2 rfl rfl ?_
      obtain ⟨q14, h⟩ := h
      refine fx_callV (n := 126) (vs := [_]) dd_M_record_123 mw_M_listLength ⟨wd_737, wd_739, wp_42⟩ rfl (by decide) q14.1 q14.2 rfl rfl ⟨Nat.le_of_ble_eq_true rfl, Nat.le_of_ble_eq_true rfl, Nat.le_of_ble_eq_true rfl, fx_nx, rfl⟩ rfl h (fx_qi_k fun x15 S13 h => ?_) (fun _ _ h => h)
      exact fx_iret dd_M_record_126 rfl h
    · replace h := h.2 hc
      refine fx_aload_n (n := 114) dd_M_record_113 rfl 1 rfl rfl ?_
      refine fx_iload_n (n := 115) dd_M_record_114 rfl 2 rfl rfl ?_
      obtain ⟨q17, h⟩ := h
      refine fx_callV (n := 118) (vs := [_]) dd_M_record_115 mw_M_sizeOf ⟨wd_817, wd_819, wp_59⟩ rfl (by decide) q17.1 q17.2 rfl rfl ⟨Nat.le_of_ble_eq_true rfl, Nat.le_of_ble_eq_true rfl, Nat.le_of_ble_eq_true rfl, fx_nx, rfl⟩ rfl h (fx_qi_k fun x18 S16 h => ?_) (fun _ _ h => h)
      refine fx_goto (n := 126) dd_M_record_118 rfl ?_
      exact fx_iret dd_M_record_126 rfl h
  by_cases hx5 : v2 = 5
  · refine fx_tableIn (n := 127) dd_M_record_32 (by rw [hx5]; decide) (by rw [hx5]; decide) (by rw [hx5]; rfl) rfl ?_
    replace h := h.2.2.2.2.2.1 hx5
    refine fx_iload_n (n := 128) dd_M_record_127 rfl 0 rfl rfl ?_
    refine fx_if_ne (n := 131) (tg := 135) dd_M_record_128 rfl rfl (fun hc => ?_) (fun hc => ?_)
    · replace h := h.1 hc
      refine fx_aload_n (n := 136) dd_M_record_135 rfl 1 rfl rfl ?_
      refine fx_iload_n (n := 137) dd_M_record_136 rfl 2 rfl rfl ?_
      obtain ⟨q20, h⟩ := h
      refine fx_callV (n := 140) (vs := [_]) dd_M_record_137 mw_M_isInside ⟨wd_821, wd_823, wp_60⟩ rfl (by decide) q20.1 q20.2 rfl rfl ⟨Nat.le_of_ble_eq_true rfl, Nat.le_of_ble_eq_true rfl, Nat.le_of_ble_eq_true rfl, fx_nx, rfl⟩ rfl h (fx_qi_k fun x21 S19 h => ?_) (fun _ _ h => h)
      refine fx_if_eq (n := 143) (tg := 147) dd_M_record_140 rfl rfl (fun hc => ?_) (fun hc => ?_)
      · replace h := h.1 hc
        refine fx_iconst (n := 148) (v := 3) dd_M_record_147 (by decide) rfl ?_
        exact fx_iret dd_M_record_148 rfl h
      · replace h := h.2 hc
        refine fx_iconst (n := 144) (v := 2) dd_M_record_143 (by decide) rfl ?_
        refine fx_goto (n := 148) dd_M_record_144 rfl ?_
        exact fx_iret dd_M_record_148 rfl h
    · replace h := h.2 hc
      refine fx_iconst (n := 132) (v := 4) dd_M_record_131 (by decide) rfl ?_
      refine fx_goto (n := 148) dd_M_record_132 rfl ?_
      exact fx_iret dd_M_record_148 rfl h
  by_cases hx6 : v2 = 6
  · refine fx_tableIn (n := 149) dd_M_record_32 (by rw [hx6]; decide) (by rw [hx6]; decide) (by rw [hx6]; rfl) rfl ?_
    replace h := h.2.2.2.2.2.2.1 hx6
    refine fx_iload_n (n := 150) dd_M_record_149 rfl 0 rfl rfl ?_
    refine fx_if_eq (n := 153) (tg := 161) dd_M_record_150 rfl rfl (fun hc => ?_) (fun hc => ?_)
    · replace h := h.1 hc
      refine fx_iconst (n := 162) (v := 0) dd_M_record_161 (by decide) rfl ?_
      exact fx_iret dd_M_record_162 rfl h
    · replace h := h.2 hc
      refine fx_aload_n (n := 154) dd_M_record_153 rfl 1 rfl rfl ?_
      refine fx_iload_n (n := 155) dd_M_record_154 rfl 2 rfl rfl ?_
      obtain ⟨q23, h⟩ := h
      refine fx_callV (n := 158) (vs := [_]) dd_M_record_155 mw_M_runsOf ⟨wd_903, wd_905, wp_73⟩ rfl (by decide) q23.1 q23.2 rfl rfl ⟨Nat.le_of_ble_eq_true rfl, Nat.le_of_ble_eq_true rfl, Nat.le_of_ble_eq_true rfl, fx_nx, rfl⟩ rfl h (fx_qi_k fun x24 S22 h => ?_) (fun _ _ h => h)
      refine fx_goto (n := 162) dd_M_record_158 rfl ?_
      exact fx_iret dd_M_record_162 rfl h
  replace h := h.2.2.2.2.2.2.2 hx0 hx1 hx2 hx3 hx4 hx5 hx6
  have ht0 := lv_neT (a := 0) hx0 (by decide)
  have ht1 := lv_neT (a := 1) hx1 (by decide)
  have ht2 := lv_neT (a := 2) hx2 (by decide)
  have ht3 := lv_neT (a := 3) hx3 (by decide)
  have ht4 := lv_neT (a := 4) hx4 (by decide)
  have ht5 := lv_neT (a := 5) hx5 (by decide)
  have ht6 := lv_neT (a := 6) hx6 (by decide)
  refine fx_tableOut (n := 163) dd_M_record_32 (by omega) rfl ?_
  refine fx_iconst (n := 164) (v := (-1)) dd_M_record_163 (by decide) rfl ?_
  exact fx_iret dd_M_record_164 rfl h
theorem bk_M_read_0 {G : fx_G} {S : fx_S} {Q : fx_R → fx_S → Prop} (v0 : Nat) (v1 : Int32) (v2 : Int32) (h : fx_is S v0 5 ∧ ∀ S2, S2 = fx_setI S v0 0 0 → fx_Go G (0, 0) mm_M_isRecord 0 [(0, fx_r G v0), (1, .int v1)] [] S2 (fx_qi (fun x4 S3 => (x4 = 0 → Q (.inl (some (.int (-1)))) S3) ∧ (¬ x4 = 0 → (0 ≤ v2 → fx_is S3 v0 5 ∧ fx_Go G (0, 0) mm_M_byteOf 0 [(0, fx_r G v0), (1, .int v1), (2, .int 0)] [] S3 (fx_qi (fun x7 S5 => (¬ x7 = 2 → fx_is S5 v0 5 ∧ fx_Go G (2, 32) mm_M_sizeOf 0 [(0, fx_r G v0), (1, .int v1)] [] S5 (fx_qi (fun x10 S8 => (v2 < x10 → fx_is S8 v0 5 ∧ fx_Go G (2, 32) mm_M_isInside 0 [(0, fx_r G v0), (1, .int v1)] [] S8 (fx_qi (fun x13 S11 => (x13 = 0 → fx_is S11 v0 5 ∧ fx_Go G (2, 32) mm_M_loadMap 0 [(0, fx_r G v0), (1, .int v1)] [] S11 (fx_qv (fun S14 => fx_is S14 v0 5 ∧ ∃ r17, fx_P S14 v0 11 = some r17 ∧ fx_is S14 r17 100 ∧ vp_in (v2 / 16) (fx_ln S14 r17) ∧ (0 ≤ (fx_I S14 r17 ((v2 / 16).toNatClampNeg)) → ∃ r20, fx_P S14 v0 1 = some r20 ∧ ∃ r21, fx_P S14 v0 11 = some r21 ∧ fx_is S14 r21 100 ∧ vp_in (v2 / 16) (fx_ln S14 r21) ∧ fx_is S14 r20 100 ∧ vp_in ((16 * (fx_I S14 r21 ((v2 / 16).toNatClampNeg))) + (v2 - v2 / 16 * 16)) (fx_ln S14 r20) ∧ Q (.inl (some (.int (fx_I S14 r20 (((16 * (fx_I S14 r21 ((v2 / 16).toNatClampNeg))) + (v2 - v2 / 16 * 16)).toNatClampNeg))))) S14) ∧ (¬ 0 ≤ (fx_I S14 r17 ((v2 / 16).toNatClampNeg)) → Q (.inl (some (.int 0))) S14)) Q)) ∧ (¬ x13 = 0 → fx_is S11 v0 5 ∧ fx_Go G (1, 16) mm_M_attribute 0 [(0, fx_r G v0), (1, .int v1), (2, .int 2)] [] S11 (fx_qi (fun x28 S26 => fx_is S26 v0 5 ∧ fx_Go G (0, 0) mm_M_byteOf 0 [(0, fx_r G v0), (1, .int v1), (2, .int ((x28 + 2) + v2))] [] S26 (fx_qi (fun x31 S29 => Q (.inl (some (.int x31))) S29) Q)) Q))) Q)) ∧ (¬ v2 < x10 → Q (.inl (some (.int (-1)))) S8)) Q)) ∧ (x7 = 2 → fx_is S5 v0 5 ∧ fx_Go G (2, 34) mm_M_listLength 0 [(0, fx_r G v0), (1, .int v1)] [] S5 (fx_qi (fun x34 S32 => (x34 ≤ v2 → Q (.inl (some (.int (-1)))) S32) ∧ (¬ x34 ≤ v2 → fx_is S32 v0 5 ∧ fx_Go G (2, 34) mm_M_entry 0 [(0, fx_r G v0), (1, .int v1), (2, .int v2)] [] S32 (fx_qi (fun x37 S35 => Q (.inl (some (.int x37))) S35) Q))) Q))) Q)) ∧ (¬ 0 ≤ v2 → Q (.inl (some (.int (-1)))) S3))) Q)) :
    fx_Go G (3, 50) mm_M_read 0 [(0, fx_r G v0), (1, .int v1), (2, .int v2)] [] S Q := by
  refine fx_aload_n (n := 1) dd_M_read_0 rfl 0 rfl rfl ?_
  refine fx_iconst (n := 2) (v := 0) dd_M_read_1 (by decide) rfl ?_
  obtain ⟨q1, h⟩ := h
  replace h := h _ rfl
  refine fx_putI (n := 5) dd_M_read_2 fw_M_54 (by decide) rfl rfl rfl rfl q1.1 q1.2 ?_
  refine fx_aload_n (n := 6) dd_M_read_5 rfl 0 rfl rfl ?_
  refine fx_iload_n (n := 7) dd_M_read_6 rfl 1 rfl rfl ?_
  refine fx_callV (n := 10) (vs := [_]) dd_M_read_7 mw_M_isRecord ⟨wd_725, wd_727, wp_39⟩ rfl (by decide) q1.1 q1.2 rfl rfl ⟨Nat.le_of_ble_eq_true rfl, Nat.le_of_ble_eq_true rfl, Nat.le_of_ble_eq_true rfl, fx_nx, rfl⟩ rfl h (fx_qi_k fun x4 S3 h => ?_) (fun _ _ h => h)
  refine fx_if_eq (n := 13) (tg := 17) dd_M_read_10 rfl rfl (fun hc => ?_) (fun hc => ?_)
  · replace h := h.1 hc
    refine fx_iconst (n := 18) (v := (-1)) dd_M_read_17 (by decide) rfl ?_
    exact fx_iret dd_M_read_18 rfl h
  · replace h := h.2 hc
    refine fx_iload_n (n := 14) dd_M_read_13 rfl 2 rfl rfl ?_
    refine fx_if_ge (n := 17) (tg := 19) dd_M_read_14 rfl rfl (fun hc => ?_) (fun hc => ?_)
    · replace h := h.1 hc
      refine fx_aload_n (n := 20) dd_M_read_19 rfl 0 rfl rfl ?_
      refine fx_iload_n (n := 21) dd_M_read_20 rfl 1 rfl rfl ?_
      refine fx_iconst (n := 22) (v := 0) dd_M_read_21 (by decide) rfl ?_
      obtain ⟨q6, h⟩ := h
      refine fx_callV (n := 25) (vs := [_, _]) dd_M_read_22 mw_M_byteOf ⟨wd_729, wd_731, wp_40⟩ rfl (by decide) q6.1 q6.2 rfl rfl ⟨Nat.le_of_ble_eq_true rfl, Nat.le_of_ble_eq_true rfl, Nat.le_of_ble_eq_true rfl, fx_nx, rfl⟩ rfl h (fx_qi_k fun x7 S5 h => ?_) (fun _ _ h => h)
      refine fx_iconst (n := 26) (v := 2) dd_M_read_25 (by decide) rfl ?_
      refine fx_icmp_ne (n := 29) (tg := 49) dd_M_read_26 rfl rfl (fun hc => ?_) (fun hc => ?_)
      · replace h := h.1 hc
        refine fx_iload_n (n := 50) dd_M_read_49 rfl 2 rfl rfl ?_
        refine fx_aload_n (n := 51) dd_M_read_50 rfl 0 rfl rfl ?_
        refine fx_iload_n (n := 52) dd_M_read_51 rfl 1 rfl rfl ?_
        obtain ⟨q9, h⟩ := h
        refine fx_callV (n := 55) (vs := [_]) dd_M_read_52 mw_M_sizeOf ⟨wd_817, wd_819, wp_59⟩ rfl (by decide) q9.1 q9.2 rfl rfl ⟨Nat.le_of_ble_eq_true rfl, Nat.le_of_ble_eq_true rfl, Nat.le_of_ble_eq_true rfl, fx_nx, rfl⟩ rfl h (fx_qi_k fun x10 S8 h => ?_) (fun _ _ h => h)
        refine fx_icmp_lt (n := 58) (tg := 60) dd_M_read_55 rfl rfl (fun hc => ?_) (fun hc => ?_)
        · replace h := h.1 hc
          refine fx_aload_n (n := 61) dd_M_read_60 rfl 0 rfl rfl ?_
          refine fx_iload_n (n := 62) dd_M_read_61 rfl 1 rfl rfl ?_
          obtain ⟨q12, h⟩ := h
          refine fx_callV (n := 65) (vs := [_]) dd_M_read_62 mw_M_isInside ⟨wd_821, wd_823, wp_60⟩ rfl (by decide) q12.1 q12.2 rfl rfl ⟨Nat.le_of_ble_eq_true rfl, Nat.le_of_ble_eq_true rfl, Nat.le_of_ble_eq_true rfl, fx_nx, rfl⟩ rfl h (fx_qi_k fun x13 S11 h => ?_) (fun _ _ h => h)
          refine fx_if_eq (n := 68) (tg := 84) dd_M_read_65 rfl rfl (fun hc => ?_) (fun hc => ?_)
          · replace h := h.1 hc
            refine fx_aload_n (n := 85) dd_M_read_84 rfl 0 rfl rfl ?_
            refine fx_iload_n (n := 86) dd_M_read_85 rfl 1 rfl rfl ?_
            obtain ⟨q15, h⟩ := h
            refine fx_callV (n := 89) (vs := [_]) dd_M_read_86 mw_M_loadMap ⟨wd_793, wd_795, wp_55⟩ rfl (by decide) q15.1 q15.2 rfl rfl ⟨Nat.le_of_ble_eq_true rfl, Nat.le_of_ble_eq_true rfl, Nat.le_of_ble_eq_true rfl, fx_nx, rfl⟩ rfl h (fx_qv_k fun S14 h => ?_) (fun _ _ h => h)
            refine fx_aload_n (n := 90) dd_M_read_89 rfl 0 rfl rfl ?_
            obtain ⟨q16, h⟩ := h
            obtain ⟨r17, hr17, h⟩ := h
            refine fx_getP (n := 93) dd_M_read_90 fw_M_27 (by decide) rfl rfl q16.1 q16.2 hr17 ?_
            refine fx_iload_n (n := 94) dd_M_read_93 rfl 2 rfl rfl ?_
            refine fx_bipush (n := 96) (v := 16) dd_M_read_94 (by decide) rfl ?_
            refine fx_idiv (n := 97) dd_M_read_96 (by decide) rfl ?_
            obtain ⟨q18, h⟩ := h
            obtain ⟨q19, h⟩ := h
            refine fx_iald (n := 98) dd_M_read_97 rfl q18.1 q18.2 q19 ?_
            refine fx_if_ge (n := 101) (tg := 105) dd_M_read_98 rfl rfl (fun hc => ?_) (fun hc => ?_)
            · replace h := h.1 hc
              refine fx_aload_n (n := 106) dd_M_read_105 rfl 0 rfl rfl ?_
              obtain ⟨r20, hr20, h⟩ := h
              refine fx_getP (n := 109) dd_M_read_106 fw_M_7 (by decide) rfl rfl q16.1 q16.2 hr20 ?_
              refine fx_bipush (n := 111) (v := 16) dd_M_read_109 (by decide) rfl ?_
              refine fx_aload_n (n := 112) dd_M_read_111 rfl 0 rfl rfl ?_
              obtain ⟨r21, hr21, h⟩ := h
              refine fx_getP (n := 115) dd_M_read_112 fw_M_27 (by decide) rfl rfl q16.1 q16.2 hr21 ?_
              refine fx_iload_n (n := 116) dd_M_read_115 rfl 2 rfl rfl ?_
              refine fx_bipush (n := 118) (v := 16) dd_M_read_116 (by decide) rfl ?_
              refine fx_idiv (n := 119) dd_M_read_118 (by decide) rfl ?_
              obtain ⟨q22, h⟩ := h
              obtain ⟨q23, h⟩ := h
              refine fx_iald (n := 120) dd_M_read_119 rfl q22.1 q22.2 q23 ?_
              refine fx_imul (n := 121) dd_M_read_120 rfl ?_
              refine fx_iload_n (n := 122) dd_M_read_121 rfl 2 rfl rfl ?_
              refine fx_bipush (n := 124) (v := 16) dd_M_read_122 (by decide) rfl ?_
              refine fx_irem (n := 125) dd_M_read_124 (by decide) rfl ?_
              refine fx_iadd (n := 126) dd_M_read_125 rfl ?_
              obtain ⟨q24, h⟩ := h
              obtain ⟨q25, h⟩ := h
              refine fx_iald (n := 127) dd_M_read_126 rfl q24.1 q24.2 q25 ?_
              exact fx_iret dd_M_read_127 rfl h
            · replace h := h.2 hc
              refine fx_iconst (n := 102) (v := 0) dd_M_read_101 (by decide) rfl ?_
              refine fx_goto (n := 127) dd_M_read_102 rfl ?_
              exact fx_iret dd_M_read_127 rfl h
          · replace h := h.2 hc
            refine fx_aload_n (n := 69) dd_M_read_68 rfl 0 rfl rfl ?_
            refine fx_iload_n (n := 70) dd_M_read_69 rfl 1 rfl rfl ?_
            refine fx_aload_n (n := 71) dd_M_read_70 rfl 0 rfl rfl ?_
            refine fx_iload_n (n := 72) dd_M_read_71 rfl 1 rfl rfl ?_
            refine fx_iconst (n := 73) (v := 2) dd_M_read_72 (by decide) rfl ?_
            obtain ⟨q27, h⟩ := h
            refine fx_callV (n := 76) (vs := [_, _]) dd_M_read_73 mw_M_attribute ⟨wd_741, wd_743, wp_43⟩ rfl (by decide) q27.1 q27.2 rfl rfl ⟨Nat.le_of_ble_eq_true rfl, Nat.le_of_ble_eq_true rfl, Nat.le_of_ble_eq_true rfl, fx_nx, rfl⟩ rfl h (fx_qi_k fun x28 S26 h => ?_) (fun _ _ h => h)
            refine fx_iconst (n := 77) (v := 2) dd_M_read_76 (by decide) rfl ?_
            refine fx_iadd (n := 78) dd_M_read_77 rfl ?_
            refine fx_iload_n (n := 79) dd_M_read_78 rfl 2 rfl rfl ?_
            refine fx_iadd (n := 80) dd_M_read_79 rfl ?_
            obtain ⟨q30, h⟩ := h
            refine fx_callV (n := 83) (vs := [_, _]) dd_M_read_80 mw_M_byteOf ⟨wd_729, wd_731, wp_40⟩ rfl (by decide) q30.1 q30.2 rfl rfl ⟨Nat.le_of_ble_eq_true rfl, Nat.le_of_ble_eq_true rfl, Nat.le_of_ble_eq_true rfl, fx_nx, rfl⟩ rfl h (fx_qi_k fun x31 S29 h => ?_) (fun _ _ h => h)
            exact fx_iret dd_M_read_83 rfl h
        · replace h := h.2 hc
          refine fx_iconst (n := 59) (v := (-1)) dd_M_read_58 (by decide) rfl ?_
          exact fx_iret dd_M_read_59 rfl h
      · replace h := h.2 hc
        refine fx_iload_n (n := 30) dd_M_read_29 rfl 2 rfl rfl ?_
        refine fx_aload_n (n := 31) dd_M_read_30 rfl 0 rfl rfl ?_
        refine fx_iload_n (n := 32) dd_M_read_31 rfl 1 rfl rfl ?_
        obtain ⟨q33, h⟩ := h
        refine fx_callV (n := 35) (vs := [_]) dd_M_read_32 mw_M_listLength ⟨wd_737, wd_739, wp_42⟩ rfl (by decide) q33.1 q33.2 rfl rfl ⟨Nat.le_of_ble_eq_true rfl, Nat.le_of_ble_eq_true rfl, Nat.le_of_ble_eq_true rfl, fx_nx, rfl⟩ rfl h (fx_qi_k fun x34 S32 h => ?_) (fun _ _ h => h)
        refine fx_icmp_ge (n := 38) (tg := 47) dd_M_read_35 rfl rfl (fun hc => ?_) (fun hc => ?_)
        · replace h := h.1 hc
          refine fx_iconst (n := 48) (v := (-1)) dd_M_read_47 (by decide) rfl ?_
          exact fx_iret dd_M_read_48 rfl h
        · replace h := h.2 hc
          refine fx_aload_n (n := 39) dd_M_read_38 rfl 0 rfl rfl ?_
          refine fx_iload_n (n := 40) dd_M_read_39 rfl 1 rfl rfl ?_
          refine fx_iload_n (n := 41) dd_M_read_40 rfl 2 rfl rfl ?_
          obtain ⟨q36, h⟩ := h
          refine fx_callV (n := 44) (vs := [_, _]) dd_M_read_41 mw_M_entry ⟨wd_745, wd_747, wp_44⟩ rfl (by decide) q36.1 q36.2 rfl rfl ⟨Nat.le_of_ble_eq_true rfl, Nat.le_of_ble_eq_true rfl, Nat.le_of_ble_eq_true rfl, fx_nx, rfl⟩ rfl h (fx_qi_k fun x37 S35 h => ?_) (fun _ _ h => h)
          refine fx_goto (n := 48) dd_M_read_44 rfl ?_
          exact fx_iret dd_M_read_48 rfl h
    · replace h := h.2 hc
      refine fx_iconst (n := 18) (v := (-1)) dd_M_read_17 (by decide) rfl ?_
      exact fx_iret dd_M_read_18 rfl h
theorem bk_M_run_0 {G : fx_G} {S : fx_S} {Q : fx_R → fx_S → Prop} (v0 : Nat) (v1 : Int32) (v2 : Int32) (v3 : Int32) (h : fx_is S v0 5 ∧ ∀ S2, S2 = fx_setI S v0 0 0 → fx_Go G (1, 15) mm_M_isKind 0 [(0, fx_r G v0), (1, .int v1), (2, .int 1)] [] S2 (fx_qi (fun x4 S3 => (x4 = 0 → Q (.inl (some (.int (-1)))) S3) ∧ (¬ x4 = 0 → (v2 < 0 → Q (.inl (some (.int (-1)))) S3) ∧ (¬ v2 < 0 → (v3 < 0 → Q (.inl (some (.int (-1)))) S3) ∧ (¬ v3 < 0 → (v3 ≤ 1 → fx_is S3 v0 5 ∧ fx_Go G (2, 32) mm_M_runsOf 0 [(0, fx_r G v0), (1, .int v1)] [] S3 (fx_qi (fun x7 S5 => (v2 < x7 → fx_is S5 v0 5 ∧ fx_Go G (1, 16) mm_M_attribute 0 [(0, fx_r G v0), (1, .int v1), (2, .int 3)] [] S5 (fx_qi (fun x10 S8 => fx_Go G (3, 48) mm_M_run 57 [(0, fx_r G v0), (1, .int v1), (2, .int v2), (3, .int v3), (4, .int (x10 + 4)), (5, .int 48), (6, .int 0)] [] S8 Q) Q)) ∧ (¬ v2 < x7 → Q (.inl (some (.int (-1)))) S5)) Q)) ∧ (¬ v3 ≤ 1 → Q (.inl (some (.int (-1)))) S3))))) Q)) :
    fx_Go G (3, 48) mm_M_run 0 [(0, fx_r G v0), (1, .int v1), (2, .int v2), (3, .int v3)] [] S Q := by
  refine fx_aload_n (n := 1) dd_M_run_0 rfl 0 rfl rfl ?_
  refine fx_iconst (n := 2) (v := 0) dd_M_run_1 (by decide) rfl ?_
  obtain ⟨q1, h⟩ := h
  replace h := h _ rfl
  refine fx_putI (n := 5) dd_M_run_2 fw_M_54 (by decide) rfl rfl rfl rfl q1.1 q1.2 ?_
  refine fx_aload_n (n := 6) dd_M_run_5 rfl 0 rfl rfl ?_
  refine fx_iload_n (n := 7) dd_M_run_6 rfl 1 rfl rfl ?_
  refine fx_iconst (n := 8) (v := 1) dd_M_run_7 (by decide) rfl ?_
  refine fx_callV (n := 11) (vs := [_, _]) dd_M_run_8 mw_M_isKind ⟨wd_721, wd_723, wp_38⟩ rfl (by decide) q1.1 q1.2 rfl rfl ⟨Nat.le_of_ble_eq_true rfl, Nat.le_of_ble_eq_true rfl, Nat.le_of_ble_eq_true rfl, fx_nx, rfl⟩ rfl h (fx_qi_k fun x4 S3 h => ?_) (fun _ _ h => h)
  refine fx_if_eq (n := 14) (tg := 27) dd_M_run_11 rfl rfl (fun hc => ?_) (fun hc => ?_)
  · replace h := h.1 hc
    refine fx_iconst (n := 28) (v := (-1)) dd_M_run_27 (by decide) rfl ?_
    exact fx_iret dd_M_run_28 rfl h
  · replace h := h.2 hc
    refine fx_iload_n (n := 15) dd_M_run_14 rfl 2 rfl rfl ?_
    refine fx_if_lt (n := 18) (tg := 27) dd_M_run_15 rfl rfl (fun hc => ?_) (fun hc => ?_)
    · replace h := h.1 hc
      refine fx_iconst (n := 28) (v := (-1)) dd_M_run_27 (by decide) rfl ?_
      exact fx_iret dd_M_run_28 rfl h
    · replace h := h.2 hc
      refine fx_iload_n (n := 19) dd_M_run_18 rfl 3 rfl rfl ?_
      refine fx_if_lt (n := 22) (tg := 27) dd_M_run_19 rfl rfl (fun hc => ?_) (fun hc => ?_)
      · replace h := h.1 hc
        refine fx_iconst (n := 28) (v := (-1)) dd_M_run_27 (by decide) rfl ?_
        exact fx_iret dd_M_run_28 rfl h
      · replace h := h.2 hc
        refine fx_iload_n (n := 23) dd_M_run_22 rfl 3 rfl rfl ?_
        refine fx_iconst (n := 24) (v := 1) dd_M_run_23 (by decide) rfl ?_
        refine fx_icmp_le (n := 27) (tg := 29) dd_M_run_24 rfl rfl (fun hc => ?_) (fun hc => ?_)
        · replace h := h.1 hc
          refine fx_iload_n (n := 30) dd_M_run_29 rfl 2 rfl rfl ?_
          refine fx_aload_n (n := 31) dd_M_run_30 rfl 0 rfl rfl ?_
          refine fx_iload_n (n := 32) dd_M_run_31 rfl 1 rfl rfl ?_
          obtain ⟨q6, h⟩ := h
          refine fx_callV (n := 35) (vs := [_]) dd_M_run_32 mw_M_runsOf ⟨wd_903, wd_905, wp_73⟩ rfl (by decide) q6.1 q6.2 rfl rfl ⟨Nat.le_of_ble_eq_true rfl, Nat.le_of_ble_eq_true rfl, Nat.le_of_ble_eq_true rfl, fx_nx, rfl⟩ rfl h (fx_qi_k fun x7 S5 h => ?_) (fun _ _ h => h)
          refine fx_icmp_lt (n := 38) (tg := 40) dd_M_run_35 rfl rfl (fun hc => ?_) (fun hc => ?_)
          · replace h := h.1 hc
            refine fx_aload_n (n := 41) dd_M_run_40 rfl 0 rfl rfl ?_
            refine fx_iload_n (n := 42) dd_M_run_41 rfl 1 rfl rfl ?_
            refine fx_iconst (n := 43) (v := 3) dd_M_run_42 (by decide) rfl ?_
            obtain ⟨q9, h⟩ := h
            refine fx_callV (n := 46) (vs := [_, _]) dd_M_run_43 mw_M_attribute ⟨wd_741, wd_743, wp_43⟩ rfl (by decide) q9.1 q9.2 rfl rfl ⟨Nat.le_of_ble_eq_true rfl, Nat.le_of_ble_eq_true rfl, Nat.le_of_ble_eq_true rfl, fx_nx, rfl⟩ rfl h (fx_qi_k fun x10 S8 h => ?_) (fun _ _ h => h)
            refine fx_iconst (n := 47) (v := 4) dd_M_run_46 (by decide) rfl ?_
            refine fx_iadd (n := 48) dd_M_run_47 rfl ?_
            refine fx_istore (n := 50) (L' := [(4, _), (0, _), (1, _), (2, _), (3, _)]) dd_M_run_48 (by decide) rfl rfl ?_
            refine fx_bipush (n := 52) (v := 48) dd_M_run_50 (by decide) rfl ?_
            refine fx_istore (n := 54) (L' := [(5, _), (4, _), (0, _), (1, _), (2, _), (3, _)]) dd_M_run_52 (by decide) rfl rfl ?_
            refine fx_iconst (n := 55) (v := 0) dd_M_run_54 (by decide) rfl ?_
            refine fx_istore (n := 57) (L' := [(6, _), (5, _), (4, _), (0, _), (1, _), (2, _), (3, _)]) dd_M_run_55 (by decide) rfl rfl ?_
            refine fx_sub (L' := [(0, _), (1, _), (2, _), (3, _), (4, _), (5, _), (6, _)]) [3, 4, 5, 6, 2, 1, 0] rfl ?_
            exact h
          · replace h := h.2 hc
            refine fx_iconst (n := 39) (v := (-1)) dd_M_run_38 (by decide) rfl ?_
            exact fx_iret dd_M_run_39 rfl h
        · replace h := h.2 hc
          refine fx_iconst (n := 28) (v := (-1)) dd_M_run_27 (by decide) rfl ?_
          exact fx_iret dd_M_run_28 rfl h
theorem bk_M_run_57 {G : fx_G} {S : fx_S} {Q : fx_R → fx_S → Prop} (v0 : Nat) (v1 : Int32) (v2 : Int32) (v3 : Int32) (v4 : Int32) (v5 : Int32) (v6 : Int32) (h : fx_is S v0 5 ∧ fx_Go G (0, 0) mm_M_byteOf 0 [(0, fx_r G v0), (1, .int v1), (2, .int v4)] [] S (fx_qi (fun x3 S1 => (¬ x3 = 1 → (¬ (0 : Int32) = 0 → fx_Go G (3, 48) mm_M_run 98 [(0, fx_r G v0), (1, .int v1), (2, .int v2), (3, .int v3), (4, .int v4), (5, .int v5), (6, .int v6), (7, .int 0)] [] S1 Q) ∧ ((0 : Int32) = 0 → fx_is S1 v0 5 ∧ fx_Go G (0, 0) mm_M_byteOf 0 [(0, fx_r G v0), (1, .int v1), (2, .int (v4 + 2))] [] S1 (fx_qi (fun x6 S4 => fx_Go G (3, 48) mm_M_run 98 [(0, fx_r G v0), (1, .int v1), (2, .int v2), (3, .int v3), (4, .int v4), (5, .int ((v5 + x6) &&& 255)), (6, .int v6), (7, .int 0)] [] S4 Q) Q))) ∧ (x3 = 1 → (¬ (1 : Int32) = 0 → fx_Go G (3, 48) mm_M_run 98 [(0, fx_r G v0), (1, .int v1), (2, .int v2), (3, .int v3), (4, .int v4), (5, .int v5), (6, .int v6), (7, .int 1)] [] S1 Q) ∧ ((1 : Int32) = 0 → fx_is S1 v0 5 ∧ fx_Go G (0, 0) mm_M_byteOf 0 [(0, fx_r G v0), (1, .int v1), (2, .int (v4 + 2))] [] S1 (fx_qi (fun x9 S7 => fx_Go G (3, 48) mm_M_run 98 [(0, fx_r G v0), (1, .int v1), (2, .int v2), (3, .int v3), (4, .int v4), (5, .int ((v5 + x9) &&& 255)), (6, .int v6), (7, .int 1)] [] S7 Q) Q)))) Q)) :
    fx_Go G (3, 48) mm_M_run 57 [(0, fx_r G v0), (1, .int v1), (2, .int v2), (3, .int v3), (4, .int v4), (5, .int v5), (6, .int v6)] [] S Q := by
  refine fx_aload_n (n := 58) dd_M_run_57 rfl 0 rfl rfl ?_
  refine fx_iload_n (n := 59) dd_M_run_58 rfl 1 rfl rfl ?_
  refine fx_iload (n := 61) dd_M_run_59 4 rfl rfl ?_
  obtain ⟨q2, h⟩ := h
  refine fx_callV (n := 64) (vs := [_, _]) dd_M_run_61 mw_M_byteOf ⟨wd_729, wd_731, wp_40⟩ rfl (by decide) q2.1 q2.2 rfl rfl ⟨Nat.le_of_ble_eq_true rfl, Nat.le_of_ble_eq_true rfl, Nat.le_of_ble_eq_true rfl, fx_nx, rfl⟩ rfl h (fx_qi_k fun x3 S1 h => ?_) (fun _ _ h => h)
  refine fx_iconst (n := 65) (v := 1) dd_M_run_64 (by decide) rfl ?_
  refine fx_icmp_ne (n := 68) (tg := 72) dd_M_run_65 rfl rfl (fun hc => ?_) (fun hc => ?_)
  · replace h := h.1 hc
    refine fx_iconst (n := 73) (v := 0) dd_M_run_72 (by decide) rfl ?_
    refine fx_istore (n := 75) (L' := [(7, _), (0, _), (1, _), (2, _), (3, _), (4, _), (5, _), (6, _)]) dd_M_run_73 (by decide) rfl rfl ?_
    refine fx_iload (n := 77) dd_M_run_75 0 rfl rfl ?_
    refine fx_if_ne (n := 80) (tg := 98) dd_M_run_77 rfl rfl (fun hc => ?_) (fun hc => ?_)
    · replace h := h.1 hc
      refine fx_sub (L' := [(0, _), (1, _), (2, _), (3, _), (4, _), (5, _), (6, _), (7, _)]) [1, 2, 3, 4, 5, 6, 7, 0] rfl ?_
      exact h
    · replace h := h.2 hc
      refine fx_iload (n := 82) dd_M_run_80 6 rfl rfl ?_
      refine fx_aload_n (n := 83) dd_M_run_82 rfl 1 rfl rfl ?_
      refine fx_iload_n (n := 84) dd_M_run_83 rfl 2 rfl rfl ?_
      refine fx_iload (n := 86) dd_M_run_84 5 rfl rfl ?_
      refine fx_iconst (n := 87) (v := 2) dd_M_run_86 (by decide) rfl ?_
      refine fx_iadd (n := 88) dd_M_run_87 rfl ?_
      obtain ⟨q5, h⟩ := h
      refine fx_callV (n := 91) (vs := [_, _]) dd_M_run_88 mw_M_byteOf ⟨wd_729, wd_731, wp_40⟩ rfl (by decide) q5.1 q5.2 rfl rfl ⟨Nat.le_of_ble_eq_true rfl, Nat.le_of_ble_eq_true rfl, Nat.le_of_ble_eq_true rfl, fx_nx, rfl⟩ rfl h (fx_qi_k fun x6 S4 h => ?_) (fun _ _ h => h)
      refine fx_iadd (n := 92) dd_M_run_91 rfl ?_
      refine fx_sipush (n := 95) (v := 255) dd_M_run_92 (by decide) rfl ?_
      refine fx_iand (n := 96) dd_M_run_95 rfl ?_
      refine fx_istore (n := 98) (L' := [(5, _), (7, _), (0, _), (1, _), (2, _), (3, _), (4, _), (6, _)]) dd_M_run_96 (by decide) rfl rfl ?_
      refine fx_sub (L' := [(0, _), (1, _), (2, _), (3, _), (4, _), (5, _), (6, _), (7, _)]) [2, 3, 4, 5, 6, 0, 7, 1] rfl ?_
      exact h
  · replace h := h.2 hc
    refine fx_iconst (n := 69) (v := 1) dd_M_run_68 (by decide) rfl ?_
    refine fx_goto (n := 73) dd_M_run_69 rfl ?_
    refine fx_istore (n := 75) (L' := [(7, _), (0, _), (1, _), (2, _), (3, _), (4, _), (5, _), (6, _)]) dd_M_run_73 (by decide) rfl rfl ?_
    refine fx_iload (n := 77) dd_M_run_75 0 rfl rfl ?_
    refine fx_if_ne (n := 80) (tg := 98) dd_M_run_77 rfl rfl (fun hc => ?_) (fun hc => ?_)
    · replace h := h.1 hc
      refine fx_sub (L' := [(0, _), (1, _), (2, _), (3, _), (4, _), (5, _), (6, _), (7, _)]) [1, 2, 3, 4, 5, 6, 7, 0] rfl ?_
      exact h
    · replace h := h.2 hc
      refine fx_iload (n := 82) dd_M_run_80 6 rfl rfl ?_
      refine fx_aload_n (n := 83) dd_M_run_82 rfl 1 rfl rfl ?_
      refine fx_iload_n (n := 84) dd_M_run_83 rfl 2 rfl rfl ?_
      refine fx_iload (n := 86) dd_M_run_84 5 rfl rfl ?_
      refine fx_iconst (n := 87) (v := 2) dd_M_run_86 (by decide) rfl ?_
      refine fx_iadd (n := 88) dd_M_run_87 rfl ?_
      obtain ⟨q8, h⟩ := h
      refine fx_callV (n := 91) (vs := [_, _]) dd_M_run_88 mw_M_byteOf ⟨wd_729, wd_731, wp_40⟩ rfl (by decide) q8.1 q8.2 rfl rfl ⟨Nat.le_of_ble_eq_true rfl, Nat.le_of_ble_eq_true rfl, Nat.le_of_ble_eq_true rfl, fx_nx, rfl⟩ rfl h (fx_qi_k fun x9 S7 h => ?_) (fun _ _ h => h)
      refine fx_iadd (n := 92) dd_M_run_91 rfl ?_
      refine fx_sipush (n := 95) (v := 255) dd_M_run_92 (by decide) rfl ?_
      refine fx_iand (n := 96) dd_M_run_95 rfl ?_
      refine fx_istore (n := 98) (L' := [(5, _), (7, _), (0, _), (1, _), (2, _), (3, _), (4, _), (6, _)]) dd_M_run_96 (by decide) rfl rfl ?_
      refine fx_sub (L' := [(0, _), (1, _), (2, _), (3, _), (4, _), (5, _), (6, _), (7, _)]) [2, 3, 4, 5, 6, 0, 7, 1] rfl ?_
      exact h
theorem bk_M_run_98 {G : fx_G} {S : fx_S} {Q : fx_R → fx_S → Prop} (v0 : Nat) (v1 : Int32) (v2 : Int32) (v3 : Int32) (v4 : Int32) (v5 : Int32) (v6 : Int32) (v7 : Int32) (h : (¬ v6 = v2 → (v7 = 0 → fx_Go G (3, 48) mm_M_run 57 [(0, fx_r G v0), (1, .int v1), (2, .int v2), (3, .int v3), (4, .int (v4 + 3)), (5, .int v5), (6, .int (v6 + Int32.ofInt 1))] [] S Q) ∧ (¬ v7 = 0 → fx_Go G (3, 48) mm_M_run 57 [(0, fx_r G v0), (1, .int v1), (2, .int v2), (3, .int v3), (4, .int (v4 + 2)), (5, .int v5), (6, .int (v6 + Int32.ofInt 1))] [] S Q)) ∧ (v6 = v2 → (¬ v3 = 0 → (v7 = 0 → Q (.inl (some (.int v5))) S) ∧ (¬ v7 = 0 → Q (.inl (some (.int (-1)))) S)) ∧ (v3 = 0 → fx_is S v0 5 ∧ fx_Go G (0, 0) mm_M_byteOf 0 [(0, fx_r G v0), (1, .int v1), (2, .int (v4 + 1))] [] S (fx_qi (fun x3 S1 => Q (.inl (some (.int x3))) S1) Q)))) :
    fx_Go G (3, 48) mm_M_run 98 [(0, fx_r G v0), (1, .int v1), (2, .int v2), (3, .int v3), (4, .int v4), (5, .int v5), (6, .int v6), (7, .int v7)] [] S Q := by
  refine fx_iload (n := 100) dd_M_run_98 6 rfl rfl ?_
  refine fx_iload_n (n := 101) dd_M_run_100 rfl 2 rfl rfl ?_
  refine fx_icmp_ne (n := 104) (tg := 132) dd_M_run_101 rfl rfl (fun hc => ?_) (fun hc => ?_)
  · replace h := h.1 hc
    refine fx_iinc (n := 135) (L' := [(6, _), (0, _), (1, _), (2, _), (3, _), (4, _), (5, _), (7, _)]) dd_M_run_132 6 rfl rfl (by decide) rfl rfl ?_
    refine fx_iload (n := 137) dd_M_run_135 5 rfl rfl ?_
    refine fx_iload (n := 139) dd_M_run_137 7 rfl rfl ?_
    refine fx_if_eq (n := 142) (tg := 146) dd_M_run_139 rfl rfl (fun hc => ?_) (fun hc => ?_)
    · replace h := h.1 hc
      refine fx_iconst (n := 147) (v := 3) dd_M_run_146 (by decide) rfl ?_
      refine fx_iadd (n := 148) dd_M_run_147 rfl ?_
      refine fx_istore (n := 150) (L' := [(4, _), (6, _), (0, _), (1, _), (2, _), (3, _), (5, _), (7, _)]) dd_M_run_148 (by decide) rfl rfl ?_
      refine fx_goto (n := 57) dd_M_run_150 rfl ?_
      refine fx_sub (L' := [(0, _), (1, _), (2, _), (3, _), (4, _), (5, _), (6, _)]) [2, 3, 4, 5, 0, 6, 1] rfl ?_
      exact h
    · replace h := h.2 hc
      refine fx_iconst (n := 143) (v := 2) dd_M_run_142 (by decide) rfl ?_
      refine fx_goto (n := 147) dd_M_run_143 rfl ?_
      refine fx_iadd (n := 148) dd_M_run_147 rfl ?_
      refine fx_istore (n := 150) (L' := [(4, _), (6, _), (0, _), (1, _), (2, _), (3, _), (5, _), (7, _)]) dd_M_run_148 (by decide) rfl rfl ?_
      refine fx_goto (n := 57) dd_M_run_150 rfl ?_
      refine fx_sub (L' := [(0, _), (1, _), (2, _), (3, _), (4, _), (5, _), (6, _)]) [2, 3, 4, 5, 0, 6, 1] rfl ?_
      exact h
  · replace h := h.2 hc
    refine fx_iload_n (n := 105) dd_M_run_104 rfl 3 rfl rfl ?_
    refine fx_if_ne (n := 108) (tg := 120) dd_M_run_105 rfl rfl (fun hc => ?_) (fun hc => ?_)
    · replace h := h.1 hc
      refine fx_iload (n := 122) dd_M_run_120 7 rfl rfl ?_
      refine fx_if_eq (n := 125) (tg := 129) dd_M_run_122 rfl rfl (fun hc => ?_) (fun hc => ?_)
      · replace h := h.1 hc
        refine fx_iload (n := 131) dd_M_run_129 5 rfl rfl ?_
        exact fx_iret dd_M_run_131 rfl h
      · replace h := h.2 hc
        refine fx_iconst (n := 126) (v := (-1)) dd_M_run_125 (by decide) rfl ?_
        refine fx_goto (n := 131) dd_M_run_126 rfl ?_
        exact fx_iret dd_M_run_131 rfl h
    · replace h := h.2 hc
      refine fx_aload_n (n := 109) dd_M_run_108 rfl 0 rfl rfl ?_
      refine fx_iload_n (n := 110) dd_M_run_109 rfl 1 rfl rfl ?_
      refine fx_iload (n := 112) dd_M_run_110 4 rfl rfl ?_
      refine fx_iconst (n := 113) (v := 1) dd_M_run_112 (by decide) rfl ?_
      refine fx_iadd (n := 114) dd_M_run_113 rfl ?_
      obtain ⟨q2, h⟩ := h
      refine fx_callV (n := 117) (vs := [_, _]) dd_M_run_114 mw_M_byteOf ⟨wd_729, wd_731, wp_40⟩ rfl (by decide) q2.1 q2.2 rfl rfl ⟨Nat.le_of_ble_eq_true rfl, Nat.le_of_ble_eq_true rfl, Nat.le_of_ble_eq_true rfl, fx_nx, rfl⟩ rfl h (fx_qi_k fun x3 S1 h => ?_) (fun _ _ h => h)
      refine fx_goto (n := 131) dd_M_run_117 rfl ?_
      exact fx_iret dd_M_run_131 rfl h
theorem bk_M_free_0 {G : fx_G} {S : fx_S} {Q : fx_R → fx_S → Prop} (v0 : Nat) (h : fx_is S v0 5 ∧ ∀ S2, S2 = fx_setI S v0 0 0 → ((fx_I S2 v0 4) = 0 → Q (.inl (some (.int 0))) S2) ∧ (¬ (fx_I S2 v0 4) = 0 → fx_Go G (0, 0) mm_M_freeClusters 0 [(0, fx_r G v0)] [] S2 (fx_qi (fun x4 S3 => Q (.inl (some (.int x4))) S3) Q))) :
    fx_Go G (1, 14) mm_M_free 0 [(0, fx_r G v0)] [] S Q := by
  refine fx_aload_n (n := 1) dd_M_free_0 rfl 0 rfl rfl ?_
  refine fx_iconst (n := 2) (v := 0) dd_M_free_1 (by decide) rfl ?_
  obtain ⟨q1, h⟩ := h
  replace h := h _ rfl
  refine fx_putI (n := 5) dd_M_free_2 fw_M_54 (by decide) rfl rfl rfl rfl q1.1 q1.2 ?_
  refine fx_aload_n (n := 6) dd_M_free_5 rfl 0 rfl rfl ?_
  refine fx_getI (n := 9) dd_M_free_6 fw_M_50 (by decide) rfl rfl q1.1 q1.2 ?_
  refine fx_if_eq (n := 12) (tg := 19) dd_M_free_9 rfl rfl (fun hc => ?_) (fun hc => ?_)
  · replace h := h.1 hc
    refine fx_iconst (n := 20) (v := 0) dd_M_free_19 (by decide) rfl ?_
    exact fx_iret dd_M_free_20 rfl h
  · replace h := h.2 hc
    refine fx_aload_n (n := 13) dd_M_free_12 rfl 0 rfl rfl ?_
    refine fx_callV (n := 16) (vs := []) dd_M_free_13 mw_M_freeClusters ⟨wd_839, wd_841, wp_63⟩ rfl (by decide) q1.1 q1.2 rfl rfl ⟨Nat.le_of_ble_eq_true rfl, Nat.le_of_ble_eq_true rfl, Nat.le_of_ble_eq_true rfl, fx_nx, rfl⟩ rfl h (fx_qi_k fun x4 S3 h => ?_) (fun _ _ h => h)
    refine fx_goto (n := 20) dd_M_free_16 rfl ?_
    exact fx_iret dd_M_free_20 rfl h
theorem bk_M_at_0 {G : fx_G} {S : fx_S} {Q : fx_R → fx_S → Prop} (v0 : Nat) (v1 : Int32) (h : fx_is S v0 5 ∧ ∀ S2, S2 = fx_setI S v0 0 0 → (v1 < 0 → Q (.inl (some (.int (-1)))) S2) ∧ (¬ v1 < 0 → (v1 ≤ 2047 → ∃ r3, fx_P S2 v0 1 = some r3 ∧ fx_is S2 r3 100 ∧ vp_in v1 (fx_ln S2 r3) ∧ Q (.inl (some (.int (fx_I S2 r3 (v1.toNatClampNeg))))) S2) ∧ (¬ v1 ≤ 2047 → Q (.inl (some (.int (-1)))) S2))) :
    fx_Go G (0, 0) mm_M_at 0 [(0, fx_r G v0), (1, .int v1)] [] S Q := by
  refine fx_aload_n (n := 1) dd_M_at_0 rfl 0 rfl rfl ?_
  refine fx_iconst (n := 2) (v := 0) dd_M_at_1 (by decide) rfl ?_
  obtain ⟨q1, h⟩ := h
  replace h := h _ rfl
  refine fx_putI (n := 5) dd_M_at_2 fw_M_54 (by decide) rfl rfl rfl rfl q1.1 q1.2 ?_
  refine fx_iload_n (n := 6) dd_M_at_5 rfl 1 rfl rfl ?_
  refine fx_if_lt (n := 9) (tg := 16) dd_M_at_6 rfl rfl (fun hc => ?_) (fun hc => ?_)
  · replace h := h.1 hc
    refine fx_iconst (n := 17) (v := (-1)) dd_M_at_16 (by decide) rfl ?_
    refine fx_goto (n := 26) dd_M_at_17 rfl ?_
    exact fx_iret dd_M_at_26 rfl h
  · replace h := h.2 hc
    refine fx_iload_n (n := 10) dd_M_at_9 rfl 1 rfl rfl ?_
    refine fx_sipush (n := 13) (v := 2047) dd_M_at_10 (by decide) rfl ?_
    refine fx_icmp_le (n := 16) (tg := 20) dd_M_at_13 rfl rfl (fun hc => ?_) (fun hc => ?_)
    · replace h := h.1 hc
      refine fx_aload_n (n := 21) dd_M_at_20 rfl 0 rfl rfl ?_
      obtain ⟨r3, hr3, h⟩ := h
      refine fx_getP (n := 24) dd_M_at_21 fw_M_7 (by decide) rfl rfl q1.1 q1.2 hr3 ?_
      refine fx_iload_n (n := 25) dd_M_at_24 rfl 1 rfl rfl ?_
      obtain ⟨q4, h⟩ := h
      obtain ⟨q5, h⟩ := h
      refine fx_iald (n := 26) dd_M_at_25 rfl q4.1 q4.2 q5 ?_
      exact fx_iret dd_M_at_26 rfl h
    · replace h := h.2 hc
      refine fx_iconst (n := 17) (v := (-1)) dd_M_at_16 (by decide) rfl ?_
      refine fx_goto (n := 26) dd_M_at_17 rfl ?_
      exact fx_iret dd_M_at_26 rfl h
