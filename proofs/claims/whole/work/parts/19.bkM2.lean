theorem bk_M_loadMap_82 {G : fx_G} {S : fx_S} {Q : fx_R → fx_S → Prop} (v0 : Nat) (v1 : Int32) (v2 : Int32) (v3 : Int32) (v4 : Int32) (v5 : Int32) (v6 : Int32) (h : (v5 ≤ v6 → fx_is S v0 5 ∧ ∀ S2, S2 = fx_setI S v0 10 ((fx_I S v0 10) + v5) → (v4 = 0 → fx_Go G (2, 32) mm_M_loadMap 23 [(0, fx_r G v0), (1, .int v1), (2, .int (v2 + 3)), (3, .int v3)] [] S2 Q) ∧ (¬ v4 = 0 → fx_Go G (2, 32) mm_M_loadMap 23 [(0, fx_r G v0), (1, .int v1), (2, .int (v2 + 2)), (3, .int v3)] [] S2 Q)) ∧ (¬ v5 ≤ v6 → fx_is S v0 5 ∧ ∃ r4, fx_P S v0 11 = some r4 ∧ (v4 = 0 → fx_is S r4 100 ∧ vp_in ((fx_I S v0 10) + v6) (fx_ln S r4) ∧ ∀ S7, S7 = fx_setI S r4 (((fx_I S v0 10) + v6).toNatClampNeg) (v3 + v6) → fx_Go G (2, 32) mm_M_loadMap 82 [(0, fx_r G v0), (1, .int v1), (2, .int v2), (3, .int v3), (4, .int v4), (5, .int v5), (6, .int (v6 + Int32.ofInt 1))] [] S7 Q) ∧ (¬ v4 = 0 → fx_is S r4 100 ∧ vp_in ((fx_I S v0 10) + v6) (fx_ln S r4) ∧ ∀ S10, S10 = fx_setI S r4 (((fx_I S v0 10) + v6).toNatClampNeg) (-1) → fx_Go G (2, 32) mm_M_loadMap 82 [(0, fx_r G v0), (1, .int v1), (2, .int v2), (3, .int v3), (4, .int v4), (5, .int v5), (6, .int (v6 + Int32.ofInt 1))] [] S10 Q))) :
    fx_Go G (2, 32) mm_M_loadMap 82 [(0, fx_r G v0), (1, .int v1), (2, .int v2), (3, .int v3), (4, .int v4), (5, .int v5), (6, .int v6)] [] S Q := by
  refine fx_iload (n := 84) dd_M_loadMap_82 6 rfl rfl ?_
  refine fx_iload (n := 86) dd_M_loadMap_84 5 rfl rfl ?_
  refine fx_icmp_ge (n := 89) (tg := 120) dd_M_loadMap_86 rfl rfl (fun hc => ?_) (fun hc => ?_)
  · replace h := h.1 hc
    refine fx_aload_n (n := 121) dd_M_loadMap_120 rfl 0 rfl rfl ?_
    refine fx_dup (n := 122) dd_M_loadMap_121 rfl rfl ?_
    obtain ⟨q1, h⟩ := h
    refine fx_getI (n := 125) dd_M_loadMap_122 fw_M_91 (by decide) rfl rfl q1.1 q1.2 ?_
    refine fx_iload (n := 127) dd_M_loadMap_125 5 rfl rfl ?_
    refine fx_iadd (n := 128) dd_M_loadMap_127 rfl ?_
    replace h := h _ rfl
    refine fx_putI (n := 131) dd_M_loadMap_128 fw_M_91 (by decide) rfl rfl rfl rfl q1.1 q1.2 ?_
    refine fx_iload_n (n := 132) dd_M_loadMap_131 rfl 2 rfl rfl ?_
    refine fx_iload (n := 134) dd_M_loadMap_132 4 rfl rfl ?_
    refine fx_if_eq (n := 137) (tg := 141) dd_M_loadMap_134 rfl rfl (fun hc => ?_) (fun hc => ?_)
    · replace h := h.1 hc
      refine fx_iconst (n := 142) (v := 3) dd_M_loadMap_141 (by decide) rfl ?_
      refine fx_iadd (n := 143) dd_M_loadMap_142 rfl ?_
      refine fx_istore_n (n := 144) (L' := [(2, _), (0, _), (1, _), (3, _), (4, _), (5, _), (6, _)]) dd_M_loadMap_143 rfl (by decide) rfl rfl ?_
      refine fx_goto (n := 23) dd_M_loadMap_144 rfl ?_
      refine fx_sub (L' := [(0, _), (1, _), (2, _), (3, _)]) [1, 2, 0, 3] rfl ?_
      exact h
    · replace h := h.2 hc
      refine fx_iconst (n := 138) (v := 2) dd_M_loadMap_137 (by decide) rfl ?_
      refine fx_goto (n := 142) dd_M_loadMap_138 rfl ?_
      refine fx_iadd (n := 143) dd_M_loadMap_142 rfl ?_
      refine fx_istore_n (n := 144) (L' := [(2, _), (0, _), (1, _), (3, _), (4, _), (5, _), (6, _)]) dd_M_loadMap_143 rfl (by decide) rfl rfl ?_
      refine fx_goto (n := 23) dd_M_loadMap_144 rfl ?_
      refine fx_sub (L' := [(0, _), (1, _), (2, _), (3, _)]) [1, 2, 0, 3] rfl ?_
      exact h
  · replace h := h.2 hc
    refine fx_aload_n (n := 90) dd_M_loadMap_89 rfl 0 rfl rfl ?_
    obtain ⟨q3, h⟩ := h
    obtain ⟨r4, hr4, h⟩ := h
    refine fx_getP (n := 93) dd_M_loadMap_90 fw_M_27 (by decide) rfl rfl q3.1 q3.2 hr4 ?_
    refine fx_aload_n (n := 94) dd_M_loadMap_93 rfl 0 rfl rfl ?_
    refine fx_getI (n := 97) dd_M_loadMap_94 fw_M_91 (by decide) rfl rfl q3.1 q3.2 ?_
    refine fx_iload (n := 99) dd_M_loadMap_97 6 rfl rfl ?_
    refine fx_iadd (n := 100) dd_M_loadMap_99 rfl ?_
    refine fx_iload (n := 102) dd_M_loadMap_100 4 rfl rfl ?_
    refine fx_if_eq (n := 105) (tg := 109) dd_M_loadMap_102 rfl rfl (fun hc => ?_) (fun hc => ?_)
    · replace h := h.1 hc
      refine fx_iload_n (n := 110) dd_M_loadMap_109 rfl 3 rfl rfl ?_
      refine fx_iload (n := 112) dd_M_loadMap_110 6 rfl rfl ?_
      refine fx_iadd (n := 113) dd_M_loadMap_112 rfl ?_
      obtain ⟨q5, h⟩ := h
      obtain ⟨q6, h⟩ := h
      replace h := h _ rfl
      refine fx_iast (n := 114) dd_M_loadMap_113 rfl q5.1 q5.2 q6 ?_
      refine fx_iinc (n := 117) (L' := [(6, _), (0, _), (1, _), (2, _), (3, _), (4, _), (5, _)]) dd_M_loadMap_114 6 rfl rfl (by decide) rfl rfl ?_
      refine fx_goto (n := 82) dd_M_loadMap_117 rfl ?_
      refine fx_sub (L' := [(0, _), (1, _), (2, _), (3, _), (4, _), (5, _), (6, _)]) [1, 2, 3, 4, 5, 6, 0] rfl ?_
      exact h
    · replace h := h.2 hc
      refine fx_iconst (n := 106) (v := (-1)) dd_M_loadMap_105 (by decide) rfl ?_
      refine fx_goto (n := 113) dd_M_loadMap_106 rfl ?_
      obtain ⟨q8, h⟩ := h
      obtain ⟨q9, h⟩ := h
      replace h := h _ rfl
      refine fx_iast (n := 114) dd_M_loadMap_113 rfl q8.1 q8.2 q9 ?_
      refine fx_iinc (n := 117) (L' := [(6, _), (0, _), (1, _), (2, _), (3, _), (4, _), (5, _)]) dd_M_loadMap_114 6 rfl rfl (by decide) rfl rfl ?_
      refine fx_goto (n := 82) dd_M_loadMap_117 rfl ?_
      refine fx_sub (L' := [(0, _), (1, _), (2, _), (3, _), (4, _), (5, _), (6, _)]) [1, 2, 3, 4, 5, 6, 0] rfl ?_
      exact h
theorem bk_M_remove_0 {G : fx_G} {S : fx_S} {Q : fx_R → fx_S → Prop} (v0 : Nat) (v1 : Int32) (h : fx_is S v0 5 ∧ ∀ S2, S2 = fx_setI S v0 0 0 → (¬ (fx_I S2 v0 4) = 0 → fx_Go G (0, 0) mm_M_isRecord 0 [(0, fx_r G v0), (1, .int v1)] [] S2 (fx_qi (fun x4 S3 => (x4 = 0 → fx_is S3 v0 5 ∧ fx_Go G (0, 0) mm_M_refuse 0 [(0, fx_r G v0), (1, .int 2)] [] S3 (fx_qi (fun x7 S5 => Q (.inl (some (.int x7))) S5) Q)) ∧ (¬ x4 = 0 → (¬ v1 = 0 → fx_is S3 v0 5 ∧ fx_Go G (0, 0) mm_M_byteOf 0 [(0, fx_r G v0), (1, .int v1), (2, .int 0)] [] S3 (fx_qi (fun x10 S8 => (¬ x10 = 2 → fx_Go G (5, 74) mm_M_remove 60 [(0, fx_r G v0), (1, .int v1)] [] S8 Q) ∧ (x10 = 2 → fx_is S8 v0 5 ∧ fx_Go G (2, 34) mm_M_listLength 0 [(0, fx_r G v0), (1, .int v1)] [] S8 (fx_qi (fun x13 S11 => (x13 ≤ 0 → fx_Go G (5, 74) mm_M_remove 60 [(0, fx_r G v0), (1, .int v1)] [] S11 Q) ∧ (¬ x13 ≤ 0 → fx_is S11 v0 5 ∧ fx_Go G (0, 0) mm_M_refuse 0 [(0, fx_r G v0), (1, .int 2)] [] S11 (fx_qi (fun x16 S14 => Q (.inl (some (.int x16))) S14) Q))) Q))) Q)) ∧ (v1 = 0 → fx_is S3 v0 5 ∧ fx_Go G (0, 0) mm_M_refuse 0 [(0, fx_r G v0), (1, .int 2)] [] S3 (fx_qi (fun x19 S17 => Q (.inl (some (.int x19))) S17) Q)))) Q)) ∧ ((fx_I S2 v0 4) = 0 → fx_Go G (0, 0) mm_M_refuse 0 [(0, fx_r G v0), (1, .int 1)] [] S2 (fx_qi (fun x21 S20 => Q (.inl (some (.int x21))) S20) Q))) :
    fx_Go G (5, 74) mm_M_remove 0 [(0, fx_r G v0), (1, .int v1)] [] S Q := by
  refine fx_aload_n (n := 1) dd_M_remove_0 rfl 0 rfl rfl ?_
  refine fx_iconst (n := 2) (v := 0) dd_M_remove_1 (by decide) rfl ?_
  obtain ⟨q1, h⟩ := h
  replace h := h _ rfl
  refine fx_putI (n := 5) dd_M_remove_2 fw_M_54 (by decide) rfl rfl rfl rfl q1.1 q1.2 ?_
  refine fx_aload_n (n := 6) dd_M_remove_5 rfl 0 rfl rfl ?_
  refine fx_getI (n := 9) dd_M_remove_6 fw_M_50 (by decide) rfl rfl q1.1 q1.2 ?_
  refine fx_if_ne (n := 12) (tg := 18) dd_M_remove_9 rfl rfl (fun hc => ?_) (fun hc => ?_)
  · replace h := h.1 hc
    refine fx_aload_n (n := 19) dd_M_remove_18 rfl 0 rfl rfl ?_
    refine fx_iload_n (n := 20) dd_M_remove_19 rfl 1 rfl rfl ?_
    refine fx_callV (n := 23) (vs := [_]) dd_M_remove_20 mw_M_isRecord ⟨wd_725, wd_727, wp_39⟩ rfl (by decide) q1.1 q1.2 rfl rfl ⟨Nat.le_of_ble_eq_true rfl, Nat.le_of_ble_eq_true rfl, Nat.le_of_ble_eq_true rfl, fx_nx, rfl⟩ rfl h (fx_qi_k fun x4 S3 h => ?_) (fun _ _ h => h)
    refine fx_if_eq (n := 26) (tg := 30) dd_M_remove_23 rfl rfl (fun hc => ?_) (fun hc => ?_)
    · replace h := h.1 hc
      refine fx_aload_n (n := 31) dd_M_remove_30 rfl 0 rfl rfl ?_
      refine fx_iconst (n := 32) (v := 2) dd_M_remove_31 (by decide) rfl ?_
      obtain ⟨q6, h⟩ := h
      refine fx_callV (n := 35) (vs := [_]) dd_M_remove_32 mw_M_refuse ⟨wd_717, wd_719, wp_37⟩ rfl (by decide) q6.1 q6.2 rfl rfl ⟨Nat.le_of_ble_eq_true rfl, Nat.le_of_ble_eq_true rfl, Nat.le_of_ble_eq_true rfl, fx_nx, rfl⟩ rfl h (fx_qi_k fun x7 S5 h => ?_) (fun _ _ h => h)
      exact fx_iret dd_M_remove_35 rfl h
    · replace h := h.2 hc
      refine fx_iload_n (n := 27) dd_M_remove_26 rfl 1 rfl rfl ?_
      refine fx_if_ne (n := 30) (tg := 36) dd_M_remove_27 rfl rfl (fun hc => ?_) (fun hc => ?_)
      · replace h := h.1 hc
        refine fx_aload_n (n := 37) dd_M_remove_36 rfl 0 rfl rfl ?_
        refine fx_iload_n (n := 38) dd_M_remove_37 rfl 1 rfl rfl ?_
        refine fx_iconst (n := 39) (v := 0) dd_M_remove_38 (by decide) rfl ?_
        obtain ⟨q9, h⟩ := h
        refine fx_callV (n := 42) (vs := [_, _]) dd_M_remove_39 mw_M_byteOf ⟨wd_729, wd_731, wp_40⟩ rfl (by decide) q9.1 q9.2 rfl rfl ⟨Nat.le_of_ble_eq_true rfl, Nat.le_of_ble_eq_true rfl, Nat.le_of_ble_eq_true rfl, fx_nx, rfl⟩ rfl h (fx_qi_k fun x10 S8 h => ?_) (fun _ _ h => h)
        refine fx_iconst (n := 43) (v := 2) dd_M_remove_42 (by decide) rfl ?_
        refine fx_icmp_ne (n := 46) (tg := 60) dd_M_remove_43 rfl rfl (fun hc => ?_) (fun hc => ?_)
        · replace h := h.1 hc
          exact h
        · replace h := h.2 hc
          refine fx_aload_n (n := 47) dd_M_remove_46 rfl 0 rfl rfl ?_
          refine fx_iload_n (n := 48) dd_M_remove_47 rfl 1 rfl rfl ?_
          obtain ⟨q12, h⟩ := h
          refine fx_callV (n := 51) (vs := [_]) dd_M_remove_48 mw_M_listLength ⟨wd_737, wd_739, wp_42⟩ rfl (by decide) q12.1 q12.2 rfl rfl ⟨Nat.le_of_ble_eq_true rfl, Nat.le_of_ble_eq_true rfl, Nat.le_of_ble_eq_true rfl, fx_nx, rfl⟩ rfl h (fx_qi_k fun x13 S11 h => ?_) (fun _ _ h => h)
          refine fx_if_le (n := 54) (tg := 60) dd_M_remove_51 rfl rfl (fun hc => ?_) (fun hc => ?_)
          · replace h := h.1 hc
            exact h
          · replace h := h.2 hc
            refine fx_aload_n (n := 55) dd_M_remove_54 rfl 0 rfl rfl ?_
            refine fx_iconst (n := 56) (v := 2) dd_M_remove_55 (by decide) rfl ?_
            obtain ⟨q15, h⟩ := h
            refine fx_callV (n := 59) (vs := [_]) dd_M_remove_56 mw_M_refuse ⟨wd_717, wd_719, wp_37⟩ rfl (by decide) q15.1 q15.2 rfl rfl ⟨Nat.le_of_ble_eq_true rfl, Nat.le_of_ble_eq_true rfl, Nat.le_of_ble_eq_true rfl, fx_nx, rfl⟩ rfl h (fx_qi_k fun x16 S14 h => ?_) (fun _ _ h => h)
            exact fx_iret dd_M_remove_59 rfl h
      · replace h := h.2 hc
        refine fx_aload_n (n := 31) dd_M_remove_30 rfl 0 rfl rfl ?_
        refine fx_iconst (n := 32) (v := 2) dd_M_remove_31 (by decide) rfl ?_
        obtain ⟨q18, h⟩ := h
        refine fx_callV (n := 35) (vs := [_]) dd_M_remove_32 mw_M_refuse ⟨wd_717, wd_719, wp_37⟩ rfl (by decide) q18.1 q18.2 rfl rfl ⟨Nat.le_of_ble_eq_true rfl, Nat.le_of_ble_eq_true rfl, Nat.le_of_ble_eq_true rfl, fx_nx, rfl⟩ rfl h (fx_qi_k fun x19 S17 h => ?_) (fun _ _ h => h)
        exact fx_iret dd_M_remove_35 rfl h
  · replace h := h.2 hc
    refine fx_aload_n (n := 13) dd_M_remove_12 rfl 0 rfl rfl ?_
    refine fx_iconst (n := 14) (v := 1) dd_M_remove_13 (by decide) rfl ?_
    refine fx_callV (n := 17) (vs := [_]) dd_M_remove_14 mw_M_refuse ⟨wd_717, wd_719, wp_37⟩ rfl (by decide) q1.1 q1.2 rfl rfl ⟨Nat.le_of_ble_eq_true rfl, Nat.le_of_ble_eq_true rfl, Nat.le_of_ble_eq_true rfl, fx_nx, rfl⟩ rfl h (fx_qi_k fun x21 S20 h => ?_) (fun _ _ h => h)
    exact fx_iret dd_M_remove_17 rfl h
theorem bk_M_remove_60 {G : fx_G} {S : fx_S} {Q : fx_R → fx_S → Prop} (v0 : Nat) (v1 : Int32) (h : fx_is S v0 5 ∧ fx_Go G (0, 0) mm_M_byteOf 0 [(0, fx_r G v0), (1, .int v1), (2, .int 1)] [] S (fx_qi (fun x3 S1 => fx_is S1 v0 5 ∧ fx_Go G (2, 32) mm_M_loadMap 0 [(0, fx_r G v0), (1, .int v1)] [] S1 (fx_qv (fun S4 => fx_is S4 v0 5 ∧ fx_Go G (3, 50) mm_M_takeList 0 [(0, fx_r G v0), (1, .int x3), (2, .int v1)] [] S4 (fx_qv (fun S6 => fx_is S6 v0 5 ∧ fx_Go G (0, 0) mm_M_byteOf 0 [(0, fx_r G v0), (1, .int x3), (2, .int 1)] [] S6 (fx_qi (fun x10 S8 => fx_is S8 v0 5 ∧ fx_Go G (4, 60) mm_M_storeList 0 [(0, fx_r G v0), (1, .int x3), (2, .int x10)] [] S8 (fx_qi (fun x13 S11 => (¬ x13 = 0 → fx_is S11 v0 5 ∧ fx_Go G (0, 0) mm_M_begin 0 [(0, fx_r G v0), (1, .int 0), (2, .int 0)] [] S11 (fx_qv (fun S14 => fx_is S14 v0 5 ∧ fx_Go G (1, 15) mm_M_store 0 [(0, fx_r G v0), (1, .int v1)] [] S14 (fx_qi (fun x18 S16 => (¬ x18 = 0 → fx_is S16 v0 5 ∧ fx_Go G (0, 0) mm_M_release 0 [(0, fx_r G v0), (1, .int 0)] [] S16 (fx_qi (fun x21 S19 => Q (.inl (some (.int x21))) S19) Q)) ∧ (x18 = 0 → fx_is S16 v0 5 ∧ fx_Go G (0, 0) mm_M_refuse 0 [(0, fx_r G v0), (1, .int 1)] [] S16 (fx_qi (fun x24 S22 => Q (.inl (some (.int x24))) S22) Q))) Q)) Q)) ∧ (x13 = 0 → fx_is S11 v0 5 ∧ fx_Go G (0, 0) mm_M_refuse 0 [(0, fx_r G v0), (1, .int 1)] [] S11 (fx_qi (fun x27 S25 => Q (.inl (some (.int x27))) S25) Q))) Q)) Q)) Q)) Q)) Q)) :
    fx_Go G (5, 74) mm_M_remove 60 [(0, fx_r G v0), (1, .int v1)] [] S Q := by
  refine fx_aload_n (n := 61) dd_M_remove_60 rfl 0 rfl rfl ?_
  refine fx_iload_n (n := 62) dd_M_remove_61 rfl 1 rfl rfl ?_
  refine fx_iconst (n := 63) (v := 1) dd_M_remove_62 (by decide) rfl ?_
  obtain ⟨q2, h⟩ := h
  refine fx_callV (n := 66) (vs := [_, _]) dd_M_remove_63 mw_M_byteOf ⟨wd_729, wd_731, wp_40⟩ rfl (by decide) q2.1 q2.2 rfl rfl ⟨Nat.le_of_ble_eq_true rfl, Nat.le_of_ble_eq_true rfl, Nat.le_of_ble_eq_true rfl, fx_nx, rfl⟩ rfl h (fx_qi_k fun x3 S1 h => ?_) (fun _ _ h => h)
  refine fx_istore_n (n := 67) (L' := [(2, _), (0, _), (1, _)]) dd_M_remove_66 rfl (by decide) rfl rfl ?_
  refine fx_aload_n (n := 68) dd_M_remove_67 rfl 1 rfl rfl ?_
  refine fx_iload_n (n := 69) dd_M_remove_68 rfl 2 rfl rfl ?_
  obtain ⟨q5, h⟩ := h
  refine fx_callV (n := 72) (vs := [_]) dd_M_remove_69 mw_M_loadMap ⟨wd_793, wd_795, wp_55⟩ rfl (by decide) q5.1 q5.2 rfl rfl ⟨Nat.le_of_ble_eq_true rfl, Nat.le_of_ble_eq_true rfl, Nat.le_of_ble_eq_true rfl, fx_nx, rfl⟩ rfl h (fx_qv_k fun S4 h => ?_) (fun _ _ h => h)
  refine fx_aload_n (n := 73) dd_M_remove_72 rfl 1 rfl rfl ?_
  refine fx_iload_n (n := 74) dd_M_remove_73 rfl 0 rfl rfl ?_
  refine fx_iload_n (n := 75) dd_M_remove_74 rfl 2 rfl rfl ?_
  obtain ⟨q7, h⟩ := h
  refine fx_callV (n := 78) (vs := [_, _]) dd_M_remove_75 mw_M_takeList ⟨wd_769, wd_771, wp_50⟩ rfl (by decide) q7.1 q7.2 rfl rfl ⟨Nat.le_of_ble_eq_true rfl, Nat.le_of_ble_eq_true rfl, Nat.le_of_ble_eq_true rfl, fx_nx, rfl⟩ rfl h (fx_qv_k fun S6 h => ?_) (fun _ _ h => h)
  refine fx_aload_n (n := 79) dd_M_remove_78 rfl 1 rfl rfl ?_
  refine fx_iload_n (n := 80) dd_M_remove_79 rfl 0 rfl rfl ?_
  refine fx_aload_n (n := 81) dd_M_remove_80 rfl 1 rfl rfl ?_
  refine fx_iload_n (n := 82) dd_M_remove_81 rfl 0 rfl rfl ?_
  refine fx_iconst (n := 83) (v := 1) dd_M_remove_82 (by decide) rfl ?_
  obtain ⟨q9, h⟩ := h
  refine fx_callV (n := 86) (vs := [_, _]) dd_M_remove_83 mw_M_byteOf ⟨wd_729, wd_731, wp_40⟩ rfl (by decide) q9.1 q9.2 rfl rfl ⟨Nat.le_of_ble_eq_true rfl, Nat.le_of_ble_eq_true rfl, Nat.le_of_ble_eq_true rfl, fx_nx, rfl⟩ rfl h (fx_qi_k fun x10 S8 h => ?_) (fun _ _ h => h)
  obtain ⟨q12, h⟩ := h
  refine fx_callV (n := 89) (vs := [_, _]) dd_M_remove_86 mw_M_storeList ⟨wd_781, wd_783, wp_53⟩ rfl (by decide) q12.1 q12.2 rfl rfl ⟨Nat.le_of_ble_eq_true rfl, Nat.le_of_ble_eq_true rfl, Nat.le_of_ble_eq_true rfl, fx_nx, rfl⟩ rfl h (fx_qi_k fun x13 S11 h => ?_) (fun _ _ h => h)
  refine fx_if_ne (n := 92) (tg := 98) dd_M_remove_89 rfl rfl (fun hc => ?_) (fun hc => ?_)
  · replace h := h.1 hc
    refine fx_aload_n (n := 99) dd_M_remove_98 rfl 1 rfl rfl ?_
    refine fx_iconst (n := 100) (v := 0) dd_M_remove_99 (by decide) rfl ?_
    refine fx_iconst (n := 101) (v := 0) dd_M_remove_100 (by decide) rfl ?_
    obtain ⟨q15, h⟩ := h
    refine fx_callV (n := 104) (vs := [_, _]) dd_M_remove_101 mw_M_begin ⟨wd_623, wd_625, wp_30⟩ rfl (by decide) q15.1 q15.2 rfl rfl ⟨Nat.le_of_ble_eq_true rfl, Nat.le_of_ble_eq_true rfl, Nat.le_of_ble_eq_true rfl, fx_nx, rfl⟩ rfl h (fx_qv_k fun S14 h => ?_) (fun _ _ h => h)
    refine fx_aload_n (n := 105) dd_M_remove_104 rfl 1 rfl rfl ?_
    refine fx_iload_n (n := 106) dd_M_remove_105 rfl 2 rfl rfl ?_
    obtain ⟨q17, h⟩ := h
    refine fx_callV (n := 109) (vs := [_]) dd_M_remove_106 mw_M_store ⟨wd_635, wd_637, wp_33⟩ rfl (by decide) q17.1 q17.2 rfl rfl ⟨Nat.le_of_ble_eq_true rfl, Nat.le_of_ble_eq_true rfl, Nat.le_of_ble_eq_true rfl, fx_nx, rfl⟩ rfl h (fx_qi_k fun x18 S16 h => ?_) (fun _ _ h => h)
    refine fx_if_ne (n := 112) (tg := 118) dd_M_remove_109 rfl rfl (fun hc => ?_) (fun hc => ?_)
    · replace h := h.1 hc
      refine fx_aload_n (n := 119) dd_M_remove_118 rfl 1 rfl rfl ?_
      refine fx_iconst (n := 120) (v := 0) dd_M_remove_119 (by decide) rfl ?_
      obtain ⟨q20, h⟩ := h
      refine fx_callV (n := 123) (vs := [_]) dd_M_remove_120 mw_M_release ⟨wd_797, wd_799, wp_56⟩ rfl (by decide) q20.1 q20.2 rfl rfl ⟨Nat.le_of_ble_eq_true rfl, Nat.le_of_ble_eq_true rfl, Nat.le_of_ble_eq_true rfl, fx_nx, rfl⟩ rfl h (fx_qi_k fun x21 S19 h => ?_) (fun _ _ h => h)
      exact fx_iret dd_M_remove_123 rfl h
    · replace h := h.2 hc
      refine fx_aload_n (n := 113) dd_M_remove_112 rfl 1 rfl rfl ?_
      refine fx_iconst (n := 114) (v := 1) dd_M_remove_113 (by decide) rfl ?_
      obtain ⟨q23, h⟩ := h
      refine fx_callV (n := 117) (vs := [_]) dd_M_remove_114 mw_M_refuse ⟨wd_717, wd_719, wp_37⟩ rfl (by decide) q23.1 q23.2 rfl rfl ⟨Nat.le_of_ble_eq_true rfl, Nat.le_of_ble_eq_true rfl, Nat.le_of_ble_eq_true rfl, fx_nx, rfl⟩ rfl h (fx_qi_k fun x24 S22 h => ?_) (fun _ _ h => h)
      exact fx_iret dd_M_remove_117 rfl h
  · replace h := h.2 hc
    refine fx_aload_n (n := 93) dd_M_remove_92 rfl 1 rfl rfl ?_
    refine fx_iconst (n := 94) (v := 1) dd_M_remove_93 (by decide) rfl ?_
    obtain ⟨q26, h⟩ := h
    refine fx_callV (n := 97) (vs := [_]) dd_M_remove_94 mw_M_refuse ⟨wd_717, wd_719, wp_37⟩ rfl (by decide) q26.1 q26.2 rfl rfl ⟨Nat.le_of_ble_eq_true rfl, Nat.le_of_ble_eq_true rfl, Nat.le_of_ble_eq_true rfl, fx_nx, rfl⟩ rfl h (fx_qi_k fun x27 S25 h => ?_) (fun _ _ h => h)
    exact fx_iret dd_M_remove_97 rfl h
theorem bk_M_release_0 {G : fx_G} {S : fx_S} {Q : fx_R → fx_S → Prop} (v0 : Nat) (v1 : Int32) (h : fx_Go G (0, 0) mm_M_release 4 [(0, fx_r G v0), (2, .int 0), (3, .int v1)] [] S Q) :
    fx_Go G (0, 0) mm_M_release 0 [(0, fx_r G v0), (1, .int v1)] [] S Q := by
  refine fx_iconst (n := 1) (v := 0) dd_M_release_0 (by decide) rfl ?_
  refine fx_istore_n (n := 2) (L' := [(2, _), (0, _), (1, _)]) dd_M_release_1 rfl (by decide) rfl rfl ?_
  refine fx_iload_n (n := 3) dd_M_release_2 rfl 2 rfl rfl ?_
  refine fx_istore_n (n := 4) (L' := [(3, _), (2, _), (0, _), (1, _)]) dd_M_release_3 rfl (by decide) rfl rfl ?_
  refine fx_sub (L' := [(0, _), (2, _), (3, _)]) [2, 1, 0] rfl ?_
  exact h
theorem bk_M_release_4 {G : fx_G} {S : fx_S} {Q : fx_R → fx_S → Prop} (v0 : Nat) (v2 : Int32) (v3 : Int32) (h : fx_is S v0 5 ∧ ((fx_I S v0 10) ≤ v3 → Q (.inl (some (.int v2))) S) ∧ (¬ (fx_I S v0 10) ≤ v3 → ∃ r2, fx_P S v0 11 = some r2 ∧ fx_is S r2 100 ∧ vp_in v3 (fx_ln S r2) ∧ (0 ≤ (fx_I S r2 (v3.toNatClampNeg)) → ∃ r5, fx_P S v0 3 = some r5 ∧ ∃ r6, fx_P S v0 11 = some r6 ∧ fx_is S r6 100 ∧ vp_in v3 (fx_ln S r6) ∧ fx_is S r5 101 ∧ vp_in (fx_I S r6 (v3.toNatClampNeg)) (fx_ln S r5) ∧ ∀ S11, S11 = fx_setI S r5 ((fx_I S r6 (v3.toNatClampNeg)).toNatClampNeg) (vp_nar .boolean 0) → fx_Go G (0, 0) mm_M_release 4 [(0, fx_r G v0), (2, .int (v2 + Int32.ofInt 1)), (3, .int (v3 + Int32.ofInt 1))] [] S11 Q) ∧ (¬ 0 ≤ (fx_I S r2 (v3.toNatClampNeg)) → fx_Go G (0, 0) mm_M_release 4 [(0, fx_r G v0), (2, .int v2), (3, .int (v3 + Int32.ofInt 1))] [] S Q))) :
    fx_Go G (0, 0) mm_M_release 4 [(0, fx_r G v0), (2, .int v2), (3, .int v3)] [] S Q := by
  refine fx_iload_n (n := 5) dd_M_release_4 rfl 2 rfl rfl ?_
  refine fx_aload_n (n := 6) dd_M_release_5 rfl 0 rfl rfl ?_
  obtain ⟨q1, h⟩ := h
  refine fx_getI (n := 9) dd_M_release_6 fw_M_91 (by decide) rfl rfl q1.1 q1.2 ?_
  refine fx_icmp_ge (n := 12) (tg := 45) dd_M_release_9 rfl rfl (fun hc => ?_) (fun hc => ?_)
  · replace h := h.1 hc
    refine fx_iload_n (n := 46) dd_M_release_45 rfl 1 rfl rfl ?_
    exact fx_iret dd_M_release_46 rfl h
  · replace h := h.2 hc
    refine fx_aload_n (n := 13) dd_M_release_12 rfl 0 rfl rfl ?_
    obtain ⟨r2, hr2, h⟩ := h
    refine fx_getP (n := 16) dd_M_release_13 fw_M_27 (by decide) rfl rfl q1.1 q1.2 hr2 ?_
    refine fx_iload_n (n := 17) dd_M_release_16 rfl 2 rfl rfl ?_
    obtain ⟨q3, h⟩ := h
    obtain ⟨q4, h⟩ := h
    refine fx_iald (n := 18) dd_M_release_17 rfl q3.1 q3.2 q4 ?_
    refine fx_if_ge (n := 21) (tg := 24) dd_M_release_18 rfl rfl (fun hc => ?_) (fun hc => ?_)
    · replace h := h.1 hc
      refine fx_aload_n (n := 25) dd_M_release_24 rfl 0 rfl rfl ?_
      obtain ⟨r5, hr5, h⟩ := h
      refine fx_getP (n := 28) dd_M_release_25 fw_M_17 (by decide) rfl rfl q1.1 q1.2 hr5 ?_
      refine fx_aload_n (n := 29) dd_M_release_28 rfl 0 rfl rfl ?_
      obtain ⟨r6, hr6, h⟩ := h
      refine fx_getP (n := 32) dd_M_release_29 fw_M_27 (by decide) rfl rfl q1.1 q1.2 hr6 ?_
      refine fx_iload_n (n := 33) dd_M_release_32 rfl 2 rfl rfl ?_
      obtain ⟨q7, h⟩ := h
      obtain ⟨q8, h⟩ := h
      refine fx_iald (n := 34) dd_M_release_33 rfl q7.1 q7.2 q8 ?_
      refine fx_iconst (n := 35) (v := 0) dd_M_release_34 (by decide) rfl ?_
      obtain ⟨q9, h⟩ := h
      obtain ⟨q10, h⟩ := h
      replace h := h _ rfl
      refine fx_zast (n := 36) dd_M_release_35 rfl q9.1 q9.2 q10 ?_
      refine fx_iinc (n := 39) (L' := [(2, _), (0, _), (3, _)]) dd_M_release_36 1 rfl rfl (by decide) rfl rfl ?_
      refine fx_iinc (n := 42) (L' := [(3, _), (2, _), (0, _)]) dd_M_release_39 2 rfl rfl (by decide) rfl rfl ?_
      refine fx_goto (n := 4) dd_M_release_42 rfl ?_
      refine fx_sub (L' := [(0, _), (2, _), (3, _)]) [2, 1, 0] rfl ?_
      exact h
    · replace h := h.2 hc
      refine fx_goto (n := 39) dd_M_release_21 rfl ?_
      refine fx_iinc (n := 42) (L' := [(3, _), (0, _), (2, _)]) dd_M_release_39 2 rfl rfl (by decide) rfl rfl ?_
      refine fx_goto (n := 4) dd_M_release_42 rfl ?_
      refine fx_sub (L' := [(0, _), (2, _), (3, _)]) [1, 2, 0] rfl ?_
      exact h
theorem bk_M_isBelow_0 {G : fx_G} {S : fx_S} {Q : fx_R → fx_S → Prop} (v0 : Nat) (v1 : Int32) (v2 : Int32) (h : fx_Go G (1, 15) mm_M_isBelow 2 [(0, fx_r G v0), (2, .int v2), (3, .int v1)] [] S Q) :
    fx_Go G (1, 15) mm_M_isBelow 0 [(0, fx_r G v0), (1, .int v1), (2, .int v2)] [] S Q := by
  refine fx_iload_n (n := 1) dd_M_isBelow_0 rfl 1 rfl rfl ?_
  refine fx_istore_n (n := 2) (L' := [(3, _), (0, _), (1, _), (2, _)]) dd_M_isBelow_1 rfl (by decide) rfl rfl ?_
  refine fx_sub (L' := [(0, _), (2, _), (3, _)]) [1, 3, 0] rfl ?_
  exact h
theorem bk_M_isBelow_2 {G : fx_G} {S : fx_S} {Q : fx_R → fx_S → Prop} (v0 : Nat) (v2 : Int32) (v3 : Int32) (h : (v3 = v2 → (¬ v3 = v2 → Q (.inl (some (.int 0))) S) ∧ (v3 = v2 → Q (.inl (some (.int 1))) S)) ∧ (¬ v3 = v2 → (v3 = 0 → (¬ v3 = v2 → Q (.inl (some (.int 0))) S) ∧ (v3 = v2 → Q (.inl (some (.int 1))) S)) ∧ (¬ v3 = 0 → fx_is S v0 5 ∧ fx_Go G (0, 0) mm_M_byteOf 0 [(0, fx_r G v0), (1, .int v3), (2, .int 1)] [] S (fx_qi (fun x3 S1 => fx_Go G (1, 15) mm_M_isBelow 2 [(0, fx_r G v0), (2, .int v2), (3, .int x3)] [] S1 Q) Q)))) :
    fx_Go G (1, 15) mm_M_isBelow 2 [(0, fx_r G v0), (2, .int v2), (3, .int v3)] [] S Q := by
  refine fx_iload_n (n := 3) dd_M_isBelow_2 rfl 2 rfl rfl ?_
  refine fx_iload_n (n := 4) dd_M_isBelow_3 rfl 1 rfl rfl ?_
  refine fx_icmp_eq (n := 7) (tg := 21) dd_M_isBelow_4 rfl rfl (fun hc => ?_) (fun hc => ?_)
  · replace h := h.1 hc
    refine fx_iload_n (n := 22) dd_M_isBelow_21 rfl 2 rfl rfl ?_
    refine fx_iload_n (n := 23) dd_M_isBelow_22 rfl 1 rfl rfl ?_
    refine fx_icmp_ne (n := 26) (tg := 30) dd_M_isBelow_23 rfl rfl (fun hc => ?_) (fun hc => ?_)
    · replace h := h.1 hc
      refine fx_iconst (n := 31) (v := 0) dd_M_isBelow_30 (by decide) rfl ?_
      exact fx_zret dd_M_isBelow_31 rfl rfl h
    · replace h := h.2 hc
      refine fx_iconst (n := 27) (v := 1) dd_M_isBelow_26 (by decide) rfl ?_
      refine fx_goto (n := 31) dd_M_isBelow_27 rfl ?_
      exact fx_zret dd_M_isBelow_31 rfl rfl h
  · replace h := h.2 hc
    refine fx_iload_n (n := 8) dd_M_isBelow_7 rfl 2 rfl rfl ?_
    refine fx_if_eq (n := 11) (tg := 21) dd_M_isBelow_8 rfl rfl (fun hc => ?_) (fun hc => ?_)
    · replace h := h.1 hc
      refine fx_iload_n (n := 22) dd_M_isBelow_21 rfl 2 rfl rfl ?_
      refine fx_iload_n (n := 23) dd_M_isBelow_22 rfl 1 rfl rfl ?_
      refine fx_icmp_ne (n := 26) (tg := 30) dd_M_isBelow_23 rfl rfl (fun hc => ?_) (fun hc => ?_)
      · replace h := h.1 hc
        refine fx_iconst (n := 31) (v := 0) dd_M_isBelow_30 (by decide) rfl ?_
        exact fx_zret dd_M_isBelow_31 rfl rfl h
      · replace h := h.2 hc
        refine fx_iconst (n := 27) (v := 1) dd_M_isBelow_26 (by decide) rfl ?_
        refine fx_goto (n := 31) dd_M_isBelow_27 rfl ?_
        exact fx_zret dd_M_isBelow_31 rfl rfl h
    · replace h := h.2 hc
      refine fx_aload_n (n := 12) dd_M_isBelow_11 rfl 0 rfl rfl ?_
      refine fx_iload_n (n := 13) dd_M_isBelow_12 rfl 2 rfl rfl ?_
      refine fx_iconst (n := 14) (v := 1) dd_M_isBelow_13 (by decide) rfl ?_
      obtain ⟨q2, h⟩ := h
      refine fx_callV (n := 17) (vs := [_, _]) dd_M_isBelow_14 mw_M_byteOf ⟨wd_729, wd_731, wp_40⟩ rfl (by decide) q2.1 q2.2 rfl rfl ⟨Nat.le_of_ble_eq_true rfl, Nat.le_of_ble_eq_true rfl, Nat.le_of_ble_eq_true rfl, fx_nx, rfl⟩ rfl h (fx_qi_k fun x3 S1 h => ?_) (fun _ _ h => h)
      refine fx_istore_n (n := 18) (L' := [(3, _), (0, _), (2, _)]) dd_M_isBelow_17 rfl (by decide) rfl rfl ?_
      refine fx_goto (n := 2) dd_M_isBelow_18 rfl ?_
      refine fx_sub (L' := [(0, _), (2, _), (3, _)]) [1, 2, 0] rfl ?_
      exact h
theorem bk_M_hasName_0 {G : fx_G} {S : fx_S} {Q : fx_R → fx_S → Prop} (v0 : Nat) (v1 : Int32) (v2 : Int32) (h : fx_Go G (5, 76) mm_M_hasName 5 [(0, fx_r G v0), (1, .int v1), (2, .int v2), (3, .int 0), (4, .int 0)] [] S Q) :
    fx_Go G (5, 76) mm_M_hasName 0 [(0, fx_r G v0), (1, .int v1), (2, .int v2)] [] S Q := by
  refine fx_iconst (n := 1) (v := 0) dd_M_hasName_0 (by decide) rfl ?_
  refine fx_istore_n (n := 2) (L' := [(3, _), (0, _), (1, _), (2, _)]) dd_M_hasName_1 rfl (by decide) rfl rfl ?_
  refine fx_iconst (n := 3) (v := 0) dd_M_hasName_2 (by decide) rfl ?_
  refine fx_istore (n := 5) (L' := [(4, _), (3, _), (0, _), (1, _), (2, _)]) dd_M_hasName_3 (by decide) rfl rfl ?_
  refine fx_sub (L' := [(0, _), (1, _), (2, _), (3, _), (4, _)]) [2, 3, 4, 1, 0] rfl ?_
  exact h
theorem bk_M_hasName_5 {G : fx_G} {S : fx_S} {Q : fx_R → fx_S → Prop} (v0 : Nat) (v1 : Int32) (v2 : Int32) (v3 : Int32) (v4 : Int32) (h : fx_is S v0 5 ∧ fx_Go G (2, 34) mm_M_listLength 0 [(0, fx_r G v0), (1, .int v1)] [] S (fx_qi (fun x3 S1 => (x3 ≤ v4 → narrow .boolean (.int v3) = .int v3 ∧ Q (.inl (some (.int v3))) S1) ∧ (¬ x3 ≤ v4 → (¬ v3 = 0 → fx_Go G (5, 76) mm_M_hasName 5 [(0, fx_r G v0), (1, .int v1), (2, .int v2), (3, .int 1), (4, .int (v4 + Int32.ofInt 1))] [] S1 Q) ∧ (v3 = 0 → fx_is S1 v0 5 ∧ fx_Go G (2, 34) mm_M_entry 0 [(0, fx_r G v0), (1, .int v1), (2, .int v4)] [] S1 (fx_qi (fun x6 S4 => fx_is S4 v0 5 ∧ fx_Go G (4, 61) mm_M_compareNames 0 [(0, fx_r G v0), (1, .int x6), (2, .int v2)] [] S4 (fx_qi (fun x9 S7 => (¬ x9 = 0 → fx_Go G (5, 76) mm_M_hasName 5 [(0, fx_r G v0), (1, .int v1), (2, .int v2), (3, .int 0), (4, .int (v4 + Int32.ofInt 1))] [] S7 Q) ∧ (x9 = 0 → fx_Go G (5, 76) mm_M_hasName 5 [(0, fx_r G v0), (1, .int v1), (2, .int v2), (3, .int 1), (4, .int (v4 + Int32.ofInt 1))] [] S7 Q)) Q)) Q)))) Q)) :
    fx_Go G (5, 76) mm_M_hasName 5 [(0, fx_r G v0), (1, .int v1), (2, .int v2), (3, .int v3), (4, .int v4)] [] S Q := by
  refine fx_iload (n := 7) dd_M_hasName_5 4 rfl rfl ?_
  refine fx_aload_n (n := 8) dd_M_hasName_7 rfl 0 rfl rfl ?_
  refine fx_iload_n (n := 9) dd_M_hasName_8 rfl 1 rfl rfl ?_
  obtain ⟨q2, h⟩ := h
  refine fx_callV (n := 12) (vs := [_]) dd_M_hasName_9 mw_M_listLength ⟨wd_737, wd_739, wp_42⟩ rfl (by decide) q2.1 q2.2 rfl rfl ⟨Nat.le_of_ble_eq_true rfl, Nat.le_of_ble_eq_true rfl, Nat.le_of_ble_eq_true rfl, fx_nx, rfl⟩ rfl h (fx_qi_k fun x3 S1 h => ?_) (fun _ _ h => h)
  refine fx_icmp_ge (n := 15) (tg := 46) dd_M_hasName_12 rfl rfl (fun hc => ?_) (fun hc => ?_)
  · replace h := h.1 hc
    refine fx_iload_n (n := 47) dd_M_hasName_46 rfl 3 rfl rfl ?_
    exact fx_zret dd_M_hasName_47 rfl h.1 h.2
  · replace h := h.2 hc
    refine fx_iload_n (n := 16) dd_M_hasName_15 rfl 3 rfl rfl ?_
    refine fx_if_ne (n := 19) (tg := 34) dd_M_hasName_16 rfl rfl (fun hc => ?_) (fun hc => ?_)
    · replace h := h.1 hc
      refine fx_iconst (n := 35) (v := 1) dd_M_hasName_34 (by decide) rfl ?_
      refine fx_goto (n := 39) dd_M_hasName_35 rfl ?_
      refine fx_istore_n (n := 40) (L' := [(3, _), (0, _), (1, _), (2, _), (4, _)]) dd_M_hasName_39 rfl (by decide) rfl rfl ?_
      refine fx_iinc (n := 43) (L' := [(4, _), (3, _), (0, _), (1, _), (2, _)]) dd_M_hasName_40 4 rfl rfl (by decide) rfl rfl ?_
      refine fx_goto (n := 5) dd_M_hasName_43 rfl ?_
      refine fx_sub (L' := [(0, _), (1, _), (2, _), (3, _), (4, _)]) [2, 3, 4, 1, 0] rfl ?_
      exact h
    · replace h := h.2 hc
      refine fx_aload_n (n := 20) dd_M_hasName_19 rfl 0 rfl rfl ?_
      refine fx_aload_n (n := 21) dd_M_hasName_20 rfl 0 rfl rfl ?_
      refine fx_iload_n (n := 22) dd_M_hasName_21 rfl 1 rfl rfl ?_
      refine fx_iload (n := 24) dd_M_hasName_22 4 rfl rfl ?_
      obtain ⟨q5, h⟩ := h
      refine fx_callV (n := 27) (vs := [_, _]) dd_M_hasName_24 mw_M_entry ⟨wd_745, wd_747, wp_44⟩ rfl (by decide) q5.1 q5.2 rfl rfl ⟨Nat.le_of_ble_eq_true rfl, Nat.le_of_ble_eq_true rfl, Nat.le_of_ble_eq_true rfl, fx_nx, rfl⟩ rfl h (fx_qi_k fun x6 S4 h => ?_) (fun _ _ h => h)
      refine fx_iload_n (n := 28) dd_M_hasName_27 rfl 2 rfl rfl ?_
      obtain ⟨q8, h⟩ := h
      refine fx_callV (n := 31) (vs := [_, _]) dd_M_hasName_28 mw_M_compareNames ⟨wd_777, wd_779, wp_52⟩ rfl (by decide) q8.1 q8.2 rfl rfl ⟨Nat.le_of_ble_eq_true rfl, Nat.le_of_ble_eq_true rfl, Nat.le_of_ble_eq_true rfl, fx_nx, rfl⟩ rfl h (fx_qi_k fun x9 S7 h => ?_) (fun _ _ h => h)
      refine fx_if_ne (n := 34) (tg := 38) dd_M_hasName_31 rfl rfl (fun hc => ?_) (fun hc => ?_)
      · replace h := h.1 hc
        refine fx_iconst (n := 39) (v := 0) dd_M_hasName_38 (by decide) rfl ?_
        refine fx_istore_n (n := 40) (L' := [(3, _), (0, _), (1, _), (2, _), (4, _)]) dd_M_hasName_39 rfl (by decide) rfl rfl ?_
        refine fx_iinc (n := 43) (L' := [(4, _), (3, _), (0, _), (1, _), (2, _)]) dd_M_hasName_40 4 rfl rfl (by decide) rfl rfl ?_
        refine fx_goto (n := 5) dd_M_hasName_43 rfl ?_
        refine fx_sub (L' := [(0, _), (1, _), (2, _), (3, _), (4, _)]) [2, 3, 4, 1, 0] rfl ?_
        exact h
      · replace h := h.2 hc
        refine fx_iconst (n := 35) (v := 1) dd_M_hasName_34 (by decide) rfl ?_
        refine fx_goto (n := 39) dd_M_hasName_35 rfl ?_
        refine fx_istore_n (n := 40) (L' := [(3, _), (0, _), (1, _), (2, _), (4, _)]) dd_M_hasName_39 rfl (by decide) rfl rfl ?_
        refine fx_iinc (n := 43) (L' := [(4, _), (3, _), (0, _), (1, _), (2, _)]) dd_M_hasName_40 4 rfl rfl (by decide) rfl rfl ?_
        refine fx_goto (n := 5) dd_M_hasName_43 rfl ?_
        refine fx_sub (L' := [(0, _), (1, _), (2, _), (3, _), (4, _)]) [2, 3, 4, 1, 0] rfl ?_
        exact h
theorem bk_M_move_0 {G : fx_G} {S : fx_S} {Q : fx_R → fx_S → Prop} (v0 : Nat) (v1 : Int32) (v2 : Int32) (h : fx_is S v0 5 ∧ ∀ S2, S2 = fx_setI S v0 0 0 → (¬ (fx_I S2 v0 4) = 0 → fx_Go G (0, 0) mm_M_isRecord 0 [(0, fx_r G v0), (1, .int v1)] [] S2 (fx_qi (fun x4 S3 => (x4 = 0 → fx_Go G (6, 92) mm_M_move 44 [(0, fx_r G v0), (1, .int v1), (2, .int v2)] [.int 0] S3 Q) ∧ (¬ x4 = 0 → (v1 = 0 → fx_Go G (6, 92) mm_M_move 44 [(0, fx_r G v0), (1, .int v1), (2, .int v2)] [.int 0] S3 Q) ∧ (¬ v1 = 0 → fx_is S3 v0 5 ∧ fx_Go G (1, 15) mm_M_isKind 0 [(0, fx_r G v0), (1, .int v2), (2, .int 2)] [] S3 (fx_qi (fun x7 S5 => (x7 = 0 → fx_Go G (6, 92) mm_M_move 44 [(0, fx_r G v0), (1, .int v1), (2, .int v2)] [.int 0] S5 Q) ∧ (¬ x7 = 0 → fx_Go G (6, 92) mm_M_move 44 [(0, fx_r G v0), (1, .int v1), (2, .int v2)] [.int 1] S5 Q)) Q)))) Q)) ∧ ((fx_I S2 v0 4) = 0 → ∀ S8, S8 = fx_setI S2 v0 0 1 → Q (.inl none) S8)) :
    fx_Go G (6, 92) mm_M_move 0 [(0, fx_r G v0), (1, .int v1), (2, .int v2)] [] S Q := by
  refine fx_aload_n (n := 1) dd_M_move_0 rfl 0 rfl rfl ?_
  refine fx_iconst (n := 2) (v := 0) dd_M_move_1 (by decide) rfl ?_
  obtain ⟨q1, h⟩ := h
  replace h := h _ rfl
  refine fx_putI (n := 5) dd_M_move_2 fw_M_54 (by decide) rfl rfl rfl rfl q1.1 q1.2 ?_
  refine fx_aload_n (n := 6) dd_M_move_5 rfl 0 rfl rfl ?_
  refine fx_getI (n := 9) dd_M_move_6 fw_M_50 (by decide) rfl rfl q1.1 q1.2 ?_
  refine fx_if_ne (n := 12) (tg := 18) dd_M_move_9 rfl rfl (fun hc => ?_) (fun hc => ?_)
  · replace h := h.1 hc
    refine fx_aload_n (n := 19) dd_M_move_18 rfl 0 rfl rfl ?_
    refine fx_iload_n (n := 20) dd_M_move_19 rfl 1 rfl rfl ?_
    refine fx_callV (n := 23) (vs := [_]) dd_M_move_20 mw_M_isRecord ⟨wd_725, wd_727, wp_39⟩ rfl (by decide) q1.1 q1.2 rfl rfl ⟨Nat.le_of_ble_eq_true rfl, Nat.le_of_ble_eq_true rfl, Nat.le_of_ble_eq_true rfl, fx_nx, rfl⟩ rfl h (fx_qi_k fun x4 S3 h => ?_) (fun _ _ h => h)
    refine fx_if_eq (n := 26) (tg := 43) dd_M_move_23 rfl rfl (fun hc => ?_) (fun hc => ?_)
    · replace h := h.1 hc
      refine fx_iconst (n := 44) (v := 0) dd_M_move_43 (by decide) rfl ?_
      exact h
    · replace h := h.2 hc
      refine fx_iload_n (n := 27) dd_M_move_26 rfl 1 rfl rfl ?_
      refine fx_if_eq (n := 30) (tg := 43) dd_M_move_27 rfl rfl (fun hc => ?_) (fun hc => ?_)
      · replace h := h.1 hc
        refine fx_iconst (n := 44) (v := 0) dd_M_move_43 (by decide) rfl ?_
        exact h
      · replace h := h.2 hc
        refine fx_aload_n (n := 31) dd_M_move_30 rfl 0 rfl rfl ?_
        refine fx_iload_n (n := 32) dd_M_move_31 rfl 2 rfl rfl ?_
        refine fx_iconst (n := 33) (v := 2) dd_M_move_32 (by decide) rfl ?_
        obtain ⟨q6, h⟩ := h
        refine fx_callV (n := 36) (vs := [_, _]) dd_M_move_33 mw_M_isKind ⟨wd_721, wd_723, wp_38⟩ rfl (by decide) q6.1 q6.2 rfl rfl ⟨Nat.le_of_ble_eq_true rfl, Nat.le_of_ble_eq_true rfl, Nat.le_of_ble_eq_true rfl, fx_nx, rfl⟩ rfl h (fx_qi_k fun x7 S5 h => ?_) (fun _ _ h => h)
        refine fx_if_eq (n := 39) (tg := 43) dd_M_move_36 rfl rfl (fun hc => ?_) (fun hc => ?_)
        · replace h := h.1 hc
          refine fx_iconst (n := 44) (v := 0) dd_M_move_43 (by decide) rfl ?_
          exact h
        · replace h := h.2 hc
          refine fx_iconst (n := 40) (v := 1) dd_M_move_39 (by decide) rfl ?_
          refine fx_goto (n := 44) dd_M_move_40 rfl ?_
          exact h
  · replace h := h.2 hc
    refine fx_aload_n (n := 13) dd_M_move_12 rfl 0 rfl rfl ?_
    refine fx_iconst (n := 14) (v := 1) dd_M_move_13 (by decide) rfl ?_
    replace h := h _ rfl
    refine fx_putI (n := 17) dd_M_move_14 fw_M_54 (by decide) rfl rfl rfl rfl q1.1 q1.2 ?_
    exact fx_vret dd_M_move_17 rfl h
theorem bk_M_move_44 {G : fx_G} {S : fx_S} {Q : fx_R → fx_S → Prop} (v0 : Nat) (v1 : Int32) (v2 : Int32) (z0 : Int32) (h : (z0 = 0 → fx_is S v0 5 ∧ ∀ S2, S2 = fx_setI S v0 0 2 → Q (.inl none) S2) ∧ (¬ z0 = 0 → fx_is S v0 5 ∧ fx_Go G (1, 15) mm_M_isBelow 0 [(0, fx_r G v0), (1, .int v2), (2, .int v1)] [] S (fx_qi (fun x5 S3 => (¬ x5 = 0 → fx_is S3 v0 5 ∧ ∀ S7, S7 = fx_setI S3 v0 0 2 → Q (.inl none) S7) ∧ (x5 = 0 → fx_is S3 v0 5 ∧ fx_Go G (5, 76) mm_M_hasName 0 [(0, fx_r G v0), (1, .int v2), (2, .int v1)] [] S3 (fx_qi (fun x10 S8 => (x10 = 0 → fx_is S8 v0 5 ∧ fx_Go G (0, 0) mm_M_byteOf 0 [(0, fx_r G v0), (1, .int v1), (2, .int 1)] [] S8 (fx_qi (fun x13 S11 => fx_Go G (6, 92) mm_M_move 84 [(0, fx_r G v0), (1, .int v1), (2, .int v2), (4, .int x13), (5, .int 0)] [] S11 Q) Q)) ∧ (¬ x10 = 0 → fx_is S8 v0 5 ∧ ∀ S15, S15 = fx_setI S8 v0 0 2 → Q (.inl none) S15)) Q))) Q))) :
    fx_Go G (6, 92) mm_M_move 44 [(0, fx_r G v0), (1, .int v1), (2, .int v2)] [.int z0] S Q := by
  refine fx_istore_n (n := 45) (L' := [(3, _), (0, _), (1, _), (2, _)]) dd_M_move_44 rfl (by decide) rfl rfl ?_
  refine fx_iload_n (n := 46) dd_M_move_45 rfl 0 rfl rfl ?_
  refine fx_if_eq (n := 49) (tg := 67) dd_M_move_46 rfl rfl (fun hc => ?_) (fun hc => ?_)
  · replace h := h.1 hc
    refine fx_aload_n (n := 68) dd_M_move_67 rfl 1 rfl rfl ?_
    refine fx_iconst (n := 69) (v := 2) dd_M_move_68 (by decide) rfl ?_
    obtain ⟨q1, h⟩ := h
    replace h := h _ rfl
    refine fx_putI (n := 72) dd_M_move_69 fw_M_54 (by decide) rfl rfl rfl rfl q1.1 q1.2 ?_
    exact fx_vret dd_M_move_72 rfl h
  · replace h := h.2 hc
    refine fx_aload_n (n := 50) dd_M_move_49 rfl 1 rfl rfl ?_
    refine fx_iload_n (n := 51) dd_M_move_50 rfl 3 rfl rfl ?_
    refine fx_iload_n (n := 52) dd_M_move_51 rfl 2 rfl rfl ?_
    obtain ⟨q4, h⟩ := h
    refine fx_callV (n := 55) (vs := [_, _]) dd_M_move_52 mw_M_isBelow ⟨wd_805, wd_807, wp_57⟩ rfl (by decide) q4.1 q4.2 rfl rfl ⟨Nat.le_of_ble_eq_true rfl, Nat.le_of_ble_eq_true rfl, Nat.le_of_ble_eq_true rfl, fx_nx, rfl⟩ rfl h (fx_qi_k fun x5 S3 h => ?_) (fun _ _ h => h)
    refine fx_if_ne (n := 58) (tg := 67) dd_M_move_55 rfl rfl (fun hc => ?_) (fun hc => ?_)
    · replace h := h.1 hc
      refine fx_aload_n (n := 68) dd_M_move_67 rfl 1 rfl rfl ?_
      refine fx_iconst (n := 69) (v := 2) dd_M_move_68 (by decide) rfl ?_
      obtain ⟨q6, h⟩ := h
      replace h := h _ rfl
      refine fx_putI (n := 72) dd_M_move_69 fw_M_54 (by decide) rfl rfl rfl rfl q6.1 q6.2 ?_
      exact fx_vret dd_M_move_72 rfl h
    · replace h := h.2 hc
      refine fx_aload_n (n := 59) dd_M_move_58 rfl 1 rfl rfl ?_
      refine fx_iload_n (n := 60) dd_M_move_59 rfl 3 rfl rfl ?_
      refine fx_iload_n (n := 61) dd_M_move_60 rfl 2 rfl rfl ?_
      obtain ⟨q9, h⟩ := h
      refine fx_callV (n := 64) (vs := [_, _]) dd_M_move_61 mw_M_hasName ⟨wd_809, wd_811, wp_58⟩ rfl (by decide) q9.1 q9.2 rfl rfl ⟨Nat.le_of_ble_eq_true rfl, Nat.le_of_ble_eq_true rfl, Nat.le_of_ble_eq_true rfl, fx_nx, rfl⟩ rfl h (fx_qi_k fun x10 S8 h => ?_) (fun _ _ h => h)
      refine fx_if_eq (n := 67) (tg := 73) dd_M_move_64 rfl rfl (fun hc => ?_) (fun hc => ?_)
      · replace h := h.1 hc
        refine fx_aload_n (n := 74) dd_M_move_73 rfl 1 rfl rfl ?_
        refine fx_iload_n (n := 75) dd_M_move_74 rfl 2 rfl rfl ?_
        refine fx_iconst (n := 76) (v := 1) dd_M_move_75 (by decide) rfl ?_
        obtain ⟨q12, h⟩ := h
        refine fx_callV (n := 79) (vs := [_, _]) dd_M_move_76 mw_M_byteOf ⟨wd_729, wd_731, wp_40⟩ rfl (by decide) q12.1 q12.2 rfl rfl ⟨Nat.le_of_ble_eq_true rfl, Nat.le_of_ble_eq_true rfl, Nat.le_of_ble_eq_true rfl, fx_nx, rfl⟩ rfl h (fx_qi_k fun x13 S11 h => ?_) (fun _ _ h => h)
        refine fx_istore (n := 81) (L' := [(4, _), (3, _), (0, _), (1, _), (2, _)]) dd_M_move_79 (by decide) rfl rfl ?_
        refine fx_iconst (n := 82) (v := 0) dd_M_move_81 (by decide) rfl ?_
        refine fx_istore (n := 84) (L' := [(5, _), (4, _), (3, _), (0, _), (1, _), (2, _)]) dd_M_move_82 (by decide) rfl rfl ?_
        refine fx_sub (L' := [(0, _), (1, _), (2, _), (4, _), (5, _)]) [3, 4, 5, 1, 0] rfl ?_
        exact h
      · replace h := h.2 hc
        refine fx_aload_n (n := 68) dd_M_move_67 rfl 1 rfl rfl ?_
        refine fx_iconst (n := 69) (v := 2) dd_M_move_68 (by decide) rfl ?_
        obtain ⟨q14, h⟩ := h
        replace h := h _ rfl
        refine fx_putI (n := 72) dd_M_move_69 fw_M_54 (by decide) rfl rfl rfl rfl q14.1 q14.2 ?_
        exact fx_vret dd_M_move_72 rfl h
theorem bk_M_move_84 {G : fx_G} {S : fx_S} {Q : fx_R → fx_S → Prop} (v0 : Nat) (v1 : Int32) (v2 : Int32) (v4 : Int32) (v5 : Int32) (h : (64 ≤ v5 → fx_is S v0 5 ∧ ∃ r2, fx_P S v0 8 = some r2 ∧ fx_is S r2 100 ∧ vp_in 1 (fx_ln S r2) ∧ ∀ S5, S5 = fx_setI S r2 ((1 : Int32).toNatClampNeg) v2 → ∃ r6, fx_P S5 v0 8 = some r6 ∧ fx_is S5 r6 100 ∧ vp_in 8 (fx_ln S5 r6) ∧ ∀ S9, S9 = fx_setI S5 v0 9 (10 + (fx_I S5 r6 ((8 : Int32).toNatClampNeg))) → fx_Go G (1, 15) mm_M_store 0 [(0, fx_r G v0), (1, .int v1)] [] S9 (fx_qi (fun x11 S10 => (x11 = 0 → fx_Go G (6, 92) mm_M_move 166 [(0, fx_r G v0), (1, .int v1), (2, .int v2), (5, .int x11)] [] S10 Q) ∧ (¬ x11 = 0 → fx_is S10 v0 5 ∧ fx_Go G (3, 50) mm_M_takeList 0 [(0, fx_r G v0), (1, .int v4), (2, .int v1)] [] S10 (fx_qv (fun S12 => fx_is S12 v0 5 ∧ fx_Go G (0, 0) mm_M_byteOf 0 [(0, fx_r G v0), (1, .int v4), (2, .int 1)] [] S12 (fx_qi (fun x16 S14 => fx_is S14 v0 5 ∧ fx_Go G (4, 60) mm_M_storeList 0 [(0, fx_r G v0), (1, .int v4), (2, .int x16)] [] S14 (fx_qi (fun x19 S17 => fx_Go G (6, 92) mm_M_move 166 [(0, fx_r G v0), (1, .int v1), (2, .int v2), (5, .int x19)] [] S17 Q) Q)) Q)) Q))) Q)) ∧ (¬ 64 ≤ v5 → fx_is S v0 5 ∧ ∃ r21, fx_P S v0 8 = some r21 ∧ fx_Go G (0, 0) mm_M_byteOf 0 [(0, fx_r G v0), (1, .int v1), (2, .int v5)] [] S (fx_qi (fun x23 S22 => fx_is S22 r21 100 ∧ vp_in v5 (fx_ln S22 r21) ∧ ∀ S26, S26 = fx_setI S22 r21 (v5.toNatClampNeg) x23 → fx_Go G (6, 92) mm_M_move 84 [(0, fx_r G v0), (1, .int v1), (2, .int v2), (4, .int v4), (5, .int (v5 + Int32.ofInt 1))] [] S26 Q) Q))) :
    fx_Go G (6, 92) mm_M_move 84 [(0, fx_r G v0), (1, .int v1), (2, .int v2), (4, .int v4), (5, .int v5)] [] S Q := by
  refine fx_iload (n := 86) dd_M_move_84 4 rfl rfl ?_
  refine fx_bipush (n := 88) (v := 64) dd_M_move_86 (by decide) rfl ?_
  refine fx_icmp_ge (n := 91) (tg := 111) dd_M_move_88 rfl rfl (fun hc => ?_) (fun hc => ?_)
  · replace h := h.1 hc
    refine fx_aload_n (n := 112) dd_M_move_111 rfl 0 rfl rfl ?_
    obtain ⟨q1, h⟩ := h
    obtain ⟨r2, hr2, h⟩ := h
    refine fx_getP (n := 115) dd_M_move_112 fw_M_24 (by decide) rfl rfl q1.1 q1.2 hr2 ?_
    refine fx_iconst (n := 116) (v := 1) dd_M_move_115 (by decide) rfl ?_
    refine fx_iload_n (n := 117) dd_M_move_116 rfl 2 rfl rfl ?_
    obtain ⟨q3, h⟩ := h
    obtain ⟨q4, h⟩ := h
    replace h := h _ rfl
    refine fx_iast (n := 118) dd_M_move_117 rfl q3.1 q3.2 q4 ?_
    refine fx_aload_n (n := 119) dd_M_move_118 rfl 0 rfl rfl ?_
    refine fx_bipush (n := 121) (v := 10) dd_M_move_119 (by decide) rfl ?_
    refine fx_aload_n (n := 122) dd_M_move_121 rfl 0 rfl rfl ?_
    obtain ⟨r6, hr6, h⟩ := h
    refine fx_getP (n := 125) dd_M_move_122 fw_M_24 (by decide) rfl rfl q1.1 q1.2 hr6 ?_
    refine fx_bipush (n := 127) (v := 8) dd_M_move_125 (by decide) rfl ?_
    obtain ⟨q7, h⟩ := h
    obtain ⟨q8, h⟩ := h
    refine fx_iald (n := 128) dd_M_move_127 rfl q7.1 q7.2 q8 ?_
    refine fx_iadd (n := 129) dd_M_move_128 rfl ?_
    replace h := h _ rfl
    refine fx_putI (n := 132) dd_M_move_129 fw_M_81 (by decide) rfl rfl rfl rfl q1.1 q1.2 ?_
    refine fx_aload_n (n := 133) dd_M_move_132 rfl 0 rfl rfl ?_
    refine fx_iload_n (n := 134) dd_M_move_133 rfl 1 rfl rfl ?_
    refine fx_callV (n := 137) (vs := [_]) dd_M_move_134 mw_M_store ⟨wd_635, wd_637, wp_33⟩ rfl (by decide) q1.1 q1.2 rfl rfl ⟨Nat.le_of_ble_eq_true rfl, Nat.le_of_ble_eq_true rfl, Nat.le_of_ble_eq_true rfl, fx_nx, rfl⟩ rfl h (fx_qi_k fun x11 S10 h => ?_) (fun _ _ h => h)
    refine fx_istore (n := 139) (L' := [(5, _), (0, _), (1, _), (2, _), (4, _)]) dd_M_move_137 (by decide) rfl rfl ?_
    refine fx_iload (n := 141) dd_M_move_139 0 rfl rfl ?_
    refine fx_if_eq (n := 144) (tg := 166) dd_M_move_141 rfl rfl (fun hc => ?_) (fun hc => ?_)
    · replace h := h.1 hc
      refine fx_sub (L' := [(0, _), (1, _), (2, _), (5, _)]) [1, 2, 3, 0] rfl ?_
      exact h
    · replace h := h.2 hc
      refine fx_aload_n (n := 145) dd_M_move_144 rfl 1 rfl rfl ?_
      refine fx_iload (n := 147) dd_M_move_145 4 rfl rfl ?_
      refine fx_iload_n (n := 148) dd_M_move_147 rfl 2 rfl rfl ?_
      obtain ⟨q13, h⟩ := h
      refine fx_callV (n := 151) (vs := [_, _]) dd_M_move_148 mw_M_takeList ⟨wd_769, wd_771, wp_50⟩ rfl (by decide) q13.1 q13.2 rfl rfl ⟨Nat.le_of_ble_eq_true rfl, Nat.le_of_ble_eq_true rfl, Nat.le_of_ble_eq_true rfl, fx_nx, rfl⟩ rfl h (fx_qv_k fun S12 h => ?_) (fun _ _ h => h)
      refine fx_aload_n (n := 152) dd_M_move_151 rfl 1 rfl rfl ?_
      refine fx_iload (n := 154) dd_M_move_152 4 rfl rfl ?_
      refine fx_aload_n (n := 155) dd_M_move_154 rfl 1 rfl rfl ?_
      refine fx_iload (n := 157) dd_M_move_155 4 rfl rfl ?_
      refine fx_iconst (n := 158) (v := 1) dd_M_move_157 (by decide) rfl ?_
      obtain ⟨q15, h⟩ := h
      refine fx_callV (n := 161) (vs := [_, _]) dd_M_move_158 mw_M_byteOf ⟨wd_729, wd_731, wp_40⟩ rfl (by decide) q15.1 q15.2 rfl rfl ⟨Nat.le_of_ble_eq_true rfl, Nat.le_of_ble_eq_true rfl, Nat.le_of_ble_eq_true rfl, fx_nx, rfl⟩ rfl h (fx_qi_k fun x16 S14 h => ?_) (fun _ _ h => h)
      obtain ⟨q18, h⟩ := h
      refine fx_callV (n := 164) (vs := [_, _]) dd_M_move_161 mw_M_storeList ⟨wd_781, wd_783, wp_53⟩ rfl (by decide) q18.1 q18.2 rfl rfl ⟨Nat.le_of_ble_eq_true rfl, Nat.le_of_ble_eq_true rfl, Nat.le_of_ble_eq_true rfl, fx_nx, rfl⟩ rfl h (fx_qi_k fun x19 S17 h => ?_) (fun _ _ h => h)
      refine fx_istore (n := 166) (L' := [(5, _), (0, _), (1, _), (2, _), (4, _)]) dd_M_move_164 (by decide) rfl rfl ?_
      refine fx_sub (L' := [(0, _), (1, _), (2, _), (5, _)]) [1, 2, 3, 0] rfl ?_
      exact h
  · replace h := h.2 hc
    refine fx_aload_n (n := 92) dd_M_move_91 rfl 0 rfl rfl ?_
    obtain ⟨q20, h⟩ := h
    obtain ⟨r21, hr21, h⟩ := h
    refine fx_getP (n := 95) dd_M_move_92 fw_M_24 (by decide) rfl rfl q20.1 q20.2 hr21 ?_
    refine fx_iload (n := 97) dd_M_move_95 4 rfl rfl ?_
    refine fx_aload_n (n := 98) dd_M_move_97 rfl 0 rfl rfl ?_
    refine fx_iload_n (n := 99) dd_M_move_98 rfl 1 rfl rfl ?_
    refine fx_iload (n := 101) dd_M_move_99 4 rfl rfl ?_
    refine fx_callV (n := 104) (vs := [_, _]) dd_M_move_101 mw_M_byteOf ⟨wd_729, wd_731, wp_40⟩ rfl (by decide) q20.1 q20.2 rfl rfl ⟨Nat.le_of_ble_eq_true rfl, Nat.le_of_ble_eq_true rfl, Nat.le_of_ble_eq_true rfl, fx_nx, rfl⟩ rfl h (fx_qi_k fun x23 S22 h => ?_) (fun _ _ h => h)
    obtain ⟨q24, h⟩ := h
    obtain ⟨q25, h⟩ := h
    replace h := h _ rfl
    refine fx_iast (n := 105) dd_M_move_104 rfl q24.1 q24.2 q25 ?_
    refine fx_iinc (n := 108) (L' := [(5, _), (0, _), (1, _), (2, _), (4, _)]) dd_M_move_105 4 rfl rfl (by decide) rfl rfl ?_
    refine fx_goto (n := 84) dd_M_move_108 rfl ?_
    refine fx_sub (L' := [(0, _), (1, _), (2, _), (4, _), (5, _)]) [1, 2, 3, 4, 0] rfl ?_
    exact h
theorem bk_M_move_166 {G : fx_G} {S : fx_S} {Q : fx_R → fx_S → Prop} (v0 : Nat) (v1 : Int32) (v2 : Int32) (v5 : Int32) (h : (v5 = 0 → (¬ v5 = 0 → Q (.inl none) S) ∧ (v5 = 0 → fx_is S v0 5 ∧ ∀ S2, S2 = fx_setI S v0 0 1 → Q (.inl none) S2)) ∧ (¬ v5 = 0 → fx_is S v0 5 ∧ fx_Go G (3, 50) mm_M_takeList 0 [(0, fx_r G v0), (1, .int v2), (2, .int (-1))] [] S (fx_qv (fun S3 => fx_is S3 v0 5 ∧ fx_Go G (5, 76) mm_M_join 0 [(0, fx_r G v0), (1, .int v1)] [] S3 (fx_qv (fun S5 => fx_is S5 v0 5 ∧ fx_Go G (0, 0) mm_M_byteOf 0 [(0, fx_r G v0), (1, .int v2), (2, .int 1)] [] S5 (fx_qi (fun x9 S7 => fx_is S7 v0 5 ∧ fx_Go G (4, 60) mm_M_storeList 0 [(0, fx_r G v0), (1, .int v2), (2, .int x9)] [] S7 (fx_qi (fun x12 S10 => (¬ x12 = 0 → Q (.inl none) S10) ∧ (x12 = 0 → fx_is S10 v0 5 ∧ ∀ S14, S14 = fx_setI S10 v0 0 1 → Q (.inl none) S14)) Q)) Q)) Q)) Q))) :
    fx_Go G (6, 92) mm_M_move 166 [(0, fx_r G v0), (1, .int v1), (2, .int v2), (5, .int v5)] [] S Q := by
  refine fx_iload (n := 168) dd_M_move_166 3 rfl rfl ?_
  refine fx_if_eq (n := 171) (tg := 195) dd_M_move_168 rfl rfl (fun hc => ?_) (fun hc => ?_)
  · replace h := h.1 hc
    refine fx_iload (n := 197) dd_M_move_195 3 rfl rfl ?_
    refine fx_if_ne (n := 200) (tg := 205) dd_M_move_197 rfl rfl (fun hc => ?_) (fun hc => ?_)
    · replace h := h.1 hc
      exact fx_vret dd_M_move_205 rfl h
    · replace h := h.2 hc
      refine fx_aload_n (n := 201) dd_M_move_200 rfl 0 rfl rfl ?_
      refine fx_iconst (n := 202) (v := 1) dd_M_move_201 (by decide) rfl ?_
      obtain ⟨q1, h⟩ := h
      replace h := h _ rfl
      refine fx_putI (n := 205) dd_M_move_202 fw_M_54 (by decide) rfl rfl rfl rfl q1.1 q1.2 ?_
      exact fx_vret dd_M_move_205 rfl h
  · replace h := h.2 hc
    refine fx_aload_n (n := 172) dd_M_move_171 rfl 0 rfl rfl ?_
    refine fx_iload_n (n := 173) dd_M_move_172 rfl 2 rfl rfl ?_
    refine fx_iconst (n := 174) (v := (-1)) dd_M_move_173 (by decide) rfl ?_
    obtain ⟨q4, h⟩ := h
    refine fx_callV (n := 177) (vs := [_, _]) dd_M_move_174 mw_M_takeList ⟨wd_769, wd_771, wp_50⟩ rfl (by decide) q4.1 q4.2 rfl rfl ⟨Nat.le_of_ble_eq_true rfl, Nat.le_of_ble_eq_true rfl, Nat.le_of_ble_eq_true rfl, fx_nx, rfl⟩ rfl h (fx_qv_k fun S3 h => ?_) (fun _ _ h => h)
    refine fx_aload_n (n := 178) dd_M_move_177 rfl 0 rfl rfl ?_
    refine fx_iload_n (n := 179) dd_M_move_178 rfl 1 rfl rfl ?_
    obtain ⟨q6, h⟩ := h
    refine fx_callV (n := 182) (vs := [_]) dd_M_move_179 mw_M_join ⟨wd_773, wd_775, wp_51⟩ rfl (by decide) q6.1 q6.2 rfl rfl ⟨Nat.le_of_ble_eq_true rfl, Nat.le_of_ble_eq_true rfl, Nat.le_of_ble_eq_true rfl, fx_nx, rfl⟩ rfl h (fx_qv_k fun S5 h => ?_) (fun _ _ h => h)
    refine fx_aload_n (n := 183) dd_M_move_182 rfl 0 rfl rfl ?_
    refine fx_iload_n (n := 184) dd_M_move_183 rfl 2 rfl rfl ?_
    refine fx_aload_n (n := 185) dd_M_move_184 rfl 0 rfl rfl ?_
    refine fx_iload_n (n := 186) dd_M_move_185 rfl 2 rfl rfl ?_
    refine fx_iconst (n := 187) (v := 1) dd_M_move_186 (by decide) rfl ?_
    obtain ⟨q8, h⟩ := h
    refine fx_callV (n := 190) (vs := [_, _]) dd_M_move_187 mw_M_byteOf ⟨wd_729, wd_731, wp_40⟩ rfl (by decide) q8.1 q8.2 rfl rfl ⟨Nat.le_of_ble_eq_true rfl, Nat.le_of_ble_eq_true rfl, Nat.le_of_ble_eq_true rfl, fx_nx, rfl⟩ rfl h (fx_qi_k fun x9 S7 h => ?_) (fun _ _ h => h)
    obtain ⟨q11, h⟩ := h
    refine fx_callV (n := 193) (vs := [_, _]) dd_M_move_190 mw_M_storeList ⟨wd_781, wd_783, wp_53⟩ rfl (by decide) q11.1 q11.2 rfl rfl ⟨Nat.le_of_ble_eq_true rfl, Nat.le_of_ble_eq_true rfl, Nat.le_of_ble_eq_true rfl, fx_nx, rfl⟩ rfl h (fx_qi_k fun x12 S10 h => ?_) (fun _ _ h => h)
    refine fx_istore (n := 195) (L' := [(5, _), (0, _), (1, _), (2, _)]) dd_M_move_193 (by decide) rfl rfl ?_
    refine fx_iload (n := 197) dd_M_move_195 0 rfl rfl ?_
    refine fx_if_ne (n := 200) (tg := 205) dd_M_move_197 rfl rfl (fun hc => ?_) (fun hc => ?_)
    · replace h := h.1 hc
      exact fx_vret dd_M_move_205 rfl h
    · replace h := h.2 hc
      refine fx_aload_n (n := 201) dd_M_move_200 rfl 1 rfl rfl ?_
      refine fx_iconst (n := 202) (v := 1) dd_M_move_201 (by decide) rfl ?_
      obtain ⟨q13, h⟩ := h
      replace h := h _ rfl
      refine fx_putI (n := 205) dd_M_move_202 fw_M_54 (by decide) rfl rfl rfl rfl q13.1 q13.2 ?_
      exact fx_vret dd_M_move_205 rfl h
theorem bk_M_lowestFree_0 {G : fx_G} {S : fx_S} {Q : fx_R → fx_S → Prop} (v0 : Nat) (h : fx_Go G (0, 0) mm_M_lowestFree 3 [(0, fx_r G v0), (1, .int 48)] [] S Q) :
    fx_Go G (0, 0) mm_M_lowestFree 0 [(0, fx_r G v0)] [] S Q := by
  refine fx_bipush (n := 2) (v := 48) dd_M_lowestFree_0 (by decide) rfl ?_
  refine fx_istore_n (n := 3) (L' := [(1, _), (0, _)]) dd_M_lowestFree_2 rfl (by decide) rfl rfl ?_
  refine fx_sub (L' := [(0, _), (1, _)]) [1, 0] rfl ?_
  exact h
theorem bk_M_lowestFree_3 {G : fx_G} {S : fx_S} {Q : fx_R → fx_S → Prop} (v0 : Nat) (v1 : Int32) (h : (128 ≤ v1 → (128 ≤ v1 → Q (.inl (some (.int (-1)))) S) ∧ (¬ 128 ≤ v1 → Q (.inl (some (.int v1))) S)) ∧ (¬ 128 ≤ v1 → fx_is S v0 5 ∧ ∃ r2, fx_P S v0 3 = some r2 ∧ fx_is S r2 101 ∧ vp_in v1 (fx_ln S r2) ∧ ((fx_I S r2 (v1.toNatClampNeg)) = 0 → (128 ≤ v1 → Q (.inl (some (.int (-1)))) S) ∧ (¬ 128 ≤ v1 → Q (.inl (some (.int v1))) S)) ∧ (¬ (fx_I S r2 (v1.toNatClampNeg)) = 0 → fx_Go G (0, 0) mm_M_lowestFree 3 [(0, fx_r G v0), (1, .int (v1 + Int32.ofInt 1))] [] S Q))) :
    fx_Go G (0, 0) mm_M_lowestFree 3 [(0, fx_r G v0), (1, .int v1)] [] S Q := by
  refine fx_iload_n (n := 4) dd_M_lowestFree_3 rfl 1 rfl rfl ?_
  refine fx_sipush (n := 7) (v := 128) dd_M_lowestFree_4 (by decide) rfl ?_
  refine fx_icmp_ge (n := 10) (tg := 25) dd_M_lowestFree_7 rfl rfl (fun hc => ?_) (fun hc => ?_)
  · replace h := h.1 hc
    refine fx_iload_n (n := 26) dd_M_lowestFree_25 rfl 1 rfl rfl ?_
    refine fx_sipush (n := 29) (v := 128) dd_M_lowestFree_26 (by decide) rfl ?_
    refine fx_icmp_ge (n := 32) (tg := 36) dd_M_lowestFree_29 rfl rfl (fun hc => ?_) (fun hc => ?_)
    · replace h := h.1 hc
      refine fx_iconst (n := 37) (v := (-1)) dd_M_lowestFree_36 (by decide) rfl ?_
      exact fx_iret dd_M_lowestFree_37 rfl h
    · replace h := h.2 hc
      refine fx_iload_n (n := 33) dd_M_lowestFree_32 rfl 1 rfl rfl ?_
      refine fx_goto (n := 37) dd_M_lowestFree_33 rfl ?_
      exact fx_iret dd_M_lowestFree_37 rfl h
  · replace h := h.2 hc
    refine fx_aload_n (n := 11) dd_M_lowestFree_10 rfl 0 rfl rfl ?_
    obtain ⟨q1, h⟩ := h
    obtain ⟨r2, hr2, h⟩ := h
    refine fx_getP (n := 14) dd_M_lowestFree_11 fw_M_17 (by decide) rfl rfl q1.1 q1.2 hr2 ?_
    refine fx_iload_n (n := 15) dd_M_lowestFree_14 rfl 1 rfl rfl ?_
    obtain ⟨q3, h⟩ := h
    obtain ⟨q4, h⟩ := h
    refine fx_zald (n := 16) dd_M_lowestFree_15 rfl q3.1 q3.2 q4 ?_
    refine fx_if_eq (n := 19) (tg := 25) dd_M_lowestFree_16 rfl rfl (fun hc => ?_) (fun hc => ?_)
    · replace h := h.1 hc
      refine fx_iload_n (n := 26) dd_M_lowestFree_25 rfl 1 rfl rfl ?_
      refine fx_sipush (n := 29) (v := 128) dd_M_lowestFree_26 (by decide) rfl ?_
      refine fx_icmp_ge (n := 32) (tg := 36) dd_M_lowestFree_29 rfl rfl (fun hc => ?_) (fun hc => ?_)
      · replace h := h.1 hc
        refine fx_iconst (n := 37) (v := (-1)) dd_M_lowestFree_36 (by decide) rfl ?_
        exact fx_iret dd_M_lowestFree_37 rfl h
      · replace h := h.2 hc
        refine fx_iload_n (n := 33) dd_M_lowestFree_32 rfl 1 rfl rfl ?_
        refine fx_goto (n := 37) dd_M_lowestFree_33 rfl ?_
        exact fx_iret dd_M_lowestFree_37 rfl h
    · replace h := h.2 hc
      refine fx_iinc (n := 22) (L' := [(1, _), (0, _)]) dd_M_lowestFree_19 1 rfl rfl (by decide) rfl rfl ?_
      refine fx_goto (n := 3) dd_M_lowestFree_22 rfl ?_
      refine fx_sub (L' := [(0, _), (1, _)]) [1, 0] rfl ?_
      exact h
theorem bk_M_freeClusters_0 {G : fx_G} {S : fx_S} {Q : fx_R → fx_S → Prop} (v0 : Nat) (h : fx_Go G (0, 0) mm_M_freeClusters 5 [(0, fx_r G v0), (1, .int 0), (2, .int 48)] [] S Q) :
    fx_Go G (0, 0) mm_M_freeClusters 0 [(0, fx_r G v0)] [] S Q := by
  refine fx_iconst (n := 1) (v := 0) dd_M_freeClusters_0 (by decide) rfl ?_
  refine fx_istore_n (n := 2) (L' := [(1, _), (0, _)]) dd_M_freeClusters_1 rfl (by decide) rfl rfl ?_
  refine fx_bipush (n := 4) (v := 48) dd_M_freeClusters_2 (by decide) rfl ?_
  refine fx_istore_n (n := 5) (L' := [(2, _), (1, _), (0, _)]) dd_M_freeClusters_4 rfl (by decide) rfl rfl ?_
  refine fx_sub (L' := [(0, _), (1, _), (2, _)]) [2, 1, 0] rfl ?_
  exact h
theorem bk_M_freeClusters_5 {G : fx_G} {S : fx_S} {Q : fx_R → fx_S → Prop} (v0 : Nat) (v1 : Int32) (v2 : Int32) (h : (128 ≤ v2 → Q (.inl (some (.int v1))) S) ∧ (¬ 128 ≤ v2 → fx_is S v0 5 ∧ ∃ r2, fx_P S v0 3 = some r2 ∧ fx_is S r2 101 ∧ vp_in v2 (fx_ln S r2) ∧ ((fx_I S r2 (v2.toNatClampNeg)) = 0 → fx_Go G (0, 0) mm_M_freeClusters 5 [(0, fx_r G v0), (1, .int (v1 + 1)), (2, .int (v2 + Int32.ofInt 1))] [] S Q) ∧ (¬ (fx_I S r2 (v2.toNatClampNeg)) = 0 → fx_Go G (0, 0) mm_M_freeClusters 5 [(0, fx_r G v0), (1, .int v1), (2, .int (v2 + Int32.ofInt 1))] [] S Q))) :
    fx_Go G (0, 0) mm_M_freeClusters 5 [(0, fx_r G v0), (1, .int v1), (2, .int v2)] [] S Q := by
  refine fx_iload_n (n := 6) dd_M_freeClusters_5 rfl 2 rfl rfl ?_
  refine fx_sipush (n := 9) (v := 128) dd_M_freeClusters_6 (by decide) rfl ?_
  refine fx_icmp_ge (n := 12) (tg := 35) dd_M_freeClusters_9 rfl rfl (fun hc => ?_) (fun hc => ?_)
  · replace h := h.1 hc
    refine fx_iload_n (n := 36) dd_M_freeClusters_35 rfl 1 rfl rfl ?_
    exact fx_iret dd_M_freeClusters_36 rfl h
  · replace h := h.2 hc
    refine fx_aload_n (n := 13) dd_M_freeClusters_12 rfl 0 rfl rfl ?_
    obtain ⟨q1, h⟩ := h
    obtain ⟨r2, hr2, h⟩ := h
    refine fx_getP (n := 16) dd_M_freeClusters_13 fw_M_17 (by decide) rfl rfl q1.1 q1.2 hr2 ?_
    refine fx_iload_n (n := 17) dd_M_freeClusters_16 rfl 2 rfl rfl ?_
    obtain ⟨q3, h⟩ := h
    obtain ⟨q4, h⟩ := h
    refine fx_zald (n := 18) dd_M_freeClusters_17 rfl q3.1 q3.2 q4 ?_
    refine fx_if_eq (n := 21) (tg := 25) dd_M_freeClusters_18 rfl rfl (fun hc => ?_) (fun hc => ?_)
    · replace h := h.1 hc
      refine fx_iload_n (n := 26) dd_M_freeClusters_25 rfl 1 rfl rfl ?_
      refine fx_iconst (n := 27) (v := 1) dd_M_freeClusters_26 (by decide) rfl ?_
      refine fx_iadd (n := 28) dd_M_freeClusters_27 rfl ?_
      refine fx_istore_n (n := 29) (L' := [(1, _), (0, _), (2, _)]) dd_M_freeClusters_28 rfl (by decide) rfl rfl ?_
      refine fx_iinc (n := 32) (L' := [(2, _), (1, _), (0, _)]) dd_M_freeClusters_29 2 rfl rfl (by decide) rfl rfl ?_
      refine fx_goto (n := 5) dd_M_freeClusters_32 rfl ?_
      refine fx_sub (L' := [(0, _), (1, _), (2, _)]) [2, 1, 0] rfl ?_
      exact h
    · replace h := h.2 hc
      refine fx_iload_n (n := 22) dd_M_freeClusters_21 rfl 1 rfl rfl ?_
      refine fx_goto (n := 28) dd_M_freeClusters_22 rfl ?_
      refine fx_istore_n (n := 29) (L' := [(1, _), (0, _), (2, _)]) dd_M_freeClusters_28 rfl (by decide) rfl rfl ?_
      refine fx_iinc (n := 32) (L' := [(2, _), (1, _), (0, _)]) dd_M_freeClusters_29 2 rfl rfl (by decide) rfl rfl ?_
      refine fx_goto (n := 5) dd_M_freeClusters_32 rfl ?_
      refine fx_sub (L' := [(0, _), (1, _), (2, _)]) [2, 1, 0] rfl ?_
      exact h
theorem bk_M_clustersOf_0 {G : fx_G} {S : fx_S} {Q : fx_R → fx_S → Prop} (v0 : Int32) (h : Q (.inl (some (.int ((v0 + 15) / 16)))) S) :
    fx_Go G (0, 0) mm_M_clustersOf 0 [(0, .int v0)] [] S Q := by
  refine fx_iload_n (n := 1) dd_M_clustersOf_0 rfl 0 rfl rfl ?_
  refine fx_bipush (n := 3) (v := 15) dd_M_clustersOf_1 (by decide) rfl ?_
  refine fx_iadd (n := 4) dd_M_clustersOf_3 rfl ?_
  refine fx_bipush (n := 6) (v := 16) dd_M_clustersOf_4 (by decide) rfl ?_
  refine fx_idiv (n := 7) dd_M_clustersOf_6 (by decide) rfl ?_
  exact fx_iret dd_M_clustersOf_7 rfl h
theorem bk_M_meets_0 {G : fx_G} {S : fx_S} {Q : fx_R → fx_S → Prop} (v0 : Int32) (v1 : Int32) (v2 : Int32) (h : (v2 ≤ (16 * v0) → Q (.inl (some (.int 0))) S) ∧ (¬ v2 ≤ (16 * v0) → (((16 * v0) + 16) ≤ v1 → Q (.inl (some (.int 0))) S) ∧ (¬ ((16 * v0) + 16) ≤ v1 → Q (.inl (some (.int 1))) S))) :
    fx_Go G (0, 0) mm_M_meets 0 [(0, .int v0), (1, .int v1), (2, .int v2)] [] S Q := by
  refine fx_bipush (n := 2) (v := 16) dd_M_meets_0 (by decide) rfl ?_
  refine fx_iload_n (n := 3) dd_M_meets_2 rfl 0 rfl rfl ?_
  refine fx_imul (n := 4) dd_M_meets_3 rfl ?_
  refine fx_iload_n (n := 5) dd_M_meets_4 rfl 2 rfl rfl ?_
  refine fx_icmp_ge (n := 8) (tg := 23) dd_M_meets_5 rfl rfl (fun hc => ?_) (fun hc => ?_)
  · replace h := h.1 hc
    refine fx_iconst (n := 24) (v := 0) dd_M_meets_23 (by decide) rfl ?_
    exact fx_zret dd_M_meets_24 rfl rfl h
  · replace h := h.2 hc
    refine fx_iload_n (n := 9) dd_M_meets_8 rfl 1 rfl rfl ?_
    refine fx_bipush (n := 11) (v := 16) dd_M_meets_9 (by decide) rfl ?_
    refine fx_iload_n (n := 12) dd_M_meets_11 rfl 0 rfl rfl ?_
    refine fx_imul (n := 13) dd_M_meets_12 rfl ?_
    refine fx_bipush (n := 15) (v := 16) dd_M_meets_13 (by decide) rfl ?_
    refine fx_iadd (n := 16) dd_M_meets_15 rfl ?_
    refine fx_icmp_ge (n := 19) (tg := 23) dd_M_meets_16 rfl rfl (fun hc => ?_) (fun hc => ?_)
    · replace h := h.1 hc
      refine fx_iconst (n := 24) (v := 0) dd_M_meets_23 (by decide) rfl ?_
      exact fx_zret dd_M_meets_24 rfl rfl h
    · replace h := h.2 hc
      refine fx_iconst (n := 20) (v := 1) dd_M_meets_19 (by decide) rfl ?_
      refine fx_goto (n := 24) dd_M_meets_20 rfl ?_
      exact fx_zret dd_M_meets_24 rfl rfl h
theorem bk_M_give_0 {G : fx_G} {S : fx_S} {Q : fx_R → fx_S → Prop} (v0 : Nat) (v1 : Int32) (v2 : Int32) (v3 : Int32) (h : fx_Go G (1, 16) mm_M_give 6 [(0, fx_r G v0), (1, .int v1), (2, .int v2), (3, .int v3), (4, .int 0), (5, .int 0)] [] S Q) :
    fx_Go G (1, 16) mm_M_give 0 [(0, fx_r G v0), (1, .int v1), (2, .int v2), (3, .int v3)] [] S Q := by
  refine fx_iconst (n := 1) (v := 0) dd_M_give_0 (by decide) rfl ?_
  refine fx_istore (n := 3) (L' := [(4, _), (0, _), (1, _), (2, _), (3, _)]) dd_M_give_1 (by decide) rfl rfl ?_
  refine fx_iconst (n := 4) (v := 0) dd_M_give_3 (by decide) rfl ?_
  refine fx_istore (n := 6) (L' := [(5, _), (4, _), (0, _), (1, _), (2, _), (3, _)]) dd_M_give_4 (by decide) rfl rfl ?_
  refine fx_sub (L' := [(0, _), (1, _), (2, _), (3, _), (4, _), (5, _)]) [2, 3, 4, 5, 1, 0] rfl ?_
  exact h
theorem bk_M_give_6 {G : fx_G} {S : fx_S} {Q : fx_R → fx_S → Prop} (v0 : Nat) (v1 : Int32) (v2 : Int32) (v3 : Int32) (v4 : Int32) (v5 : Int32) (h : fx_is S v0 5 ∧ ((fx_I S v0 10) ≤ v5 → fx_Go G (0, 0) mm_M_freeClusters 0 [(0, fx_r G v0)] [] S (fx_qi (fun x3 S2 => (v4 ≤ x3 → fx_Go G (1, 16) mm_M_give 100 [(0, fx_r G v0), (5, .int 0)] [] S2 Q) ∧ (¬ v4 ≤ x3 → Q (.inl (some (.int 0))) S2)) Q)) ∧ (¬ (fx_I S v0 10) ≤ v5 → ∃ r4, fx_P S v0 12 = some r4 ∧ ∃ r5, fx_P S v0 11 = some r5 ∧ fx_is S r5 100 ∧ vp_in v5 (fx_ln S r5) ∧ (0 ≤ (fx_I S r5 (v5.toNatClampNeg)) → fx_Go G (1, 16) mm_M_give 58 [(0, fx_r G v0), (1, .int v1), (2, .int v2), (3, .int v3), (4, .int v4), (5, .int v5)] [.int 0, .int v5, fx_r G r4] S Q) ∧ (¬ 0 ≤ (fx_I S r5 (v5.toNatClampNeg)) → fx_Go G (0, 0) mm_M_meets 0 [(0, .int v5), (1, .int v2), (2, .int (v2 + v3))] [] S (fx_qi (fun x9 S8 => (¬ x9 = 0 → fx_Go G (1, 16) mm_M_give 58 [(0, fx_r G v0), (1, .int v1), (2, .int v2), (3, .int v3), (4, .int v4), (5, .int v5)] [.int 1, .int v5, fx_r G r4] S8 Q) ∧ (x9 = 0 → fx_Go G (0, 0) mm_M_meets 0 [(0, .int v5), (1, .int 0), (2, .int v1)] [] S8 (fx_qi (fun x11 S10 => (x11 = 0 → fx_Go G (1, 16) mm_M_give 58 [(0, fx_r G v0), (1, .int v1), (2, .int v2), (3, .int v3), (4, .int v4), (5, .int v5)] [.int 0, .int v5, fx_r G r4] S10 Q) ∧ (¬ x11 = 0 → fx_Go G (1, 16) mm_M_give 58 [(0, fx_r G v0), (1, .int v1), (2, .int v2), (3, .int v3), (4, .int v4), (5, .int v5)] [.int 1, .int v5, fx_r G r4] S10 Q)) Q))) Q)))) :
    fx_Go G (1, 16) mm_M_give 6 [(0, fx_r G v0), (1, .int v1), (2, .int v2), (3, .int v3), (4, .int v4), (5, .int v5)] [] S Q := by
  refine fx_iload (n := 8) dd_M_give_6 5 rfl rfl ?_
  refine fx_aload_n (n := 9) dd_M_give_8 rfl 0 rfl rfl ?_
  obtain ⟨q1, h⟩ := h
  refine fx_getI (n := 12) dd_M_give_9 fw_M_91 (by decide) rfl rfl q1.1 q1.2 ?_
  refine fx_icmp_ge (n := 15) (tg := 86) dd_M_give_12 rfl rfl (fun hc => ?_) (fun hc => ?_)
  · replace h := h.1 hc
    refine fx_iload (n := 88) dd_M_give_86 4 rfl rfl ?_
    refine fx_aload_n (n := 89) dd_M_give_88 rfl 0 rfl rfl ?_
    refine fx_callV (n := 92) (vs := []) dd_M_give_89 mw_M_freeClusters ⟨wd_839, wd_841, wp_63⟩ rfl (by decide) q1.1 q1.2 rfl rfl ⟨Nat.le_of_ble_eq_true rfl, Nat.le_of_ble_eq_true rfl, Nat.le_of_ble_eq_true rfl, fx_nx, rfl⟩ rfl h (fx_qi_k fun x3 S2 h => ?_) (fun _ _ h => h)
    refine fx_icmp_le (n := 95) (tg := 97) dd_M_give_92 rfl rfl (fun hc => ?_) (fun hc => ?_)
    · replace h := h.1 hc
      refine fx_iconst (n := 98) (v := 0) dd_M_give_97 (by decide) rfl ?_
      refine fx_istore (n := 100) (L' := [(5, _), (0, _), (1, _), (2, _), (3, _), (4, _)]) dd_M_give_98 (by decide) rfl rfl ?_
      refine fx_sub (L' := [(0, _), (5, _)]) [1, 0] rfl ?_
      exact h
    · replace h := h.2 hc
      refine fx_iconst (n := 96) (v := 0) dd_M_give_95 (by decide) rfl ?_
      exact fx_zret dd_M_give_96 rfl rfl h
  · replace h := h.2 hc
    refine fx_aload_n (n := 16) dd_M_give_15 rfl 0 rfl rfl ?_
    obtain ⟨r4, hr4, h⟩ := h
    refine fx_getP (n := 19) dd_M_give_16 fw_M_30 (by decide) rfl rfl q1.1 q1.2 hr4 ?_
    refine fx_iload (n := 21) dd_M_give_19 5 rfl rfl ?_
    refine fx_aload_n (n := 22) dd_M_give_21 rfl 0 rfl rfl ?_
    obtain ⟨r5, hr5, h⟩ := h
    refine fx_getP (n := 25) dd_M_give_22 fw_M_27 (by decide) rfl rfl q1.1 q1.2 hr5 ?_
    refine fx_iload (n := 27) dd_M_give_25 5 rfl rfl ?_
    obtain ⟨q6, h⟩ := h
    obtain ⟨q7, h⟩ := h
    refine fx_iald (n := 28) dd_M_give_27 rfl q6.1 q6.2 q7 ?_
    refine fx_if_ge (n := 31) (tg := 57) dd_M_give_28 rfl rfl (fun hc => ?_) (fun hc => ?_)
    · replace h := h.1 hc
      refine fx_iconst (n := 58) (v := 0) dd_M_give_57 (by decide) rfl ?_
      exact h
    · replace h := h.2 hc
      refine fx_iload (n := 33) dd_M_give_31 5 rfl rfl ?_
      refine fx_iload_n (n := 34) dd_M_give_33 rfl 2 rfl rfl ?_
      refine fx_iload_n (n := 35) dd_M_give_34 rfl 2 rfl rfl ?_
      refine fx_iload_n (n := 36) dd_M_give_35 rfl 3 rfl rfl ?_
      refine fx_iadd (n := 37) dd_M_give_36 rfl ?_
      refine fx_callS (n := 40) (vs := [_, _, _]) dd_M_give_37 mw_M_meets ⟨wd_836, wd_837, wd_8⟩ rfl rfl ⟨Nat.le_of_ble_eq_true rfl, Nat.le_of_ble_eq_true rfl, Nat.le_of_ble_eq_true rfl, fx_nx, rfl⟩ rfl h (fx_qi_k fun x9 S8 h => ?_) (fun _ _ h => h)
      refine fx_if_ne (n := 43) (tg := 53) dd_M_give_40 rfl rfl (fun hc => ?_) (fun hc => ?_)
      · replace h := h.1 hc
        refine fx_iconst (n := 54) (v := 1) dd_M_give_53 (by decide) rfl ?_
        refine fx_goto (n := 58) dd_M_give_54 rfl ?_
        exact h
      · replace h := h.2 hc
        refine fx_iload (n := 45) dd_M_give_43 5 rfl rfl ?_
        refine fx_iconst (n := 46) (v := 0) dd_M_give_45 (by decide) rfl ?_
        refine fx_iload_n (n := 47) dd_M_give_46 rfl 1 rfl rfl ?_
        refine fx_callS (n := 50) (vs := [_, _, _]) dd_M_give_47 mw_M_meets ⟨wd_836, wd_837, wd_8⟩ rfl rfl ⟨Nat.le_of_ble_eq_true rfl, Nat.le_of_ble_eq_true rfl, Nat.le_of_ble_eq_true rfl, fx_nx, rfl⟩ rfl h (fx_qi_k fun x11 S10 h => ?_) (fun _ _ h => h)
        refine fx_if_eq (n := 53) (tg := 57) dd_M_give_50 rfl rfl (fun hc => ?_) (fun hc => ?_)
        · replace h := h.1 hc
          refine fx_iconst (n := 58) (v := 0) dd_M_give_57 (by decide) rfl ?_
          exact h
        · replace h := h.2 hc
          refine fx_iconst (n := 54) (v := 1) dd_M_give_53 (by decide) rfl ?_
          refine fx_goto (n := 58) dd_M_give_54 rfl ?_
          exact h
theorem bk_M_give_58 {G : fx_G} {S : fx_S} {Q : fx_R → fx_S → Prop} (v0 : Nat) (v1 : Int32) (v2 : Int32) (v3 : Int32) (v4 : Int32) (v5 : Int32) (z0 : Int32) (z1 : Int32) (z2 : Nat) (h : fx_is S z2 101 ∧ vp_in z1 (fx_ln S z2) ∧ ∀ S3, S3 = fx_setI S z2 (z1.toNatClampNeg) (vp_nar .boolean z0) → fx_is S3 v0 5 ∧ ∃ r5, fx_P S3 v0 12 = some r5 ∧ fx_is S3 r5 101 ∧ vp_in v5 (fx_ln S3 r5) ∧ ((fx_I S3 r5 (v5.toNatClampNeg)) = 0 → fx_Go G (1, 16) mm_M_give 6 [(0, fx_r G v0), (1, .int v1), (2, .int v2), (3, .int v3), (4, .int v4), (5, .int (v5 + Int32.ofInt 1))] [] S3 Q) ∧ (¬ (fx_I S3 r5 (v5.toNatClampNeg)) = 0 → fx_Go G (1, 16) mm_M_give 6 [(0, fx_r G v0), (1, .int v1), (2, .int v2), (3, .int v3), (4, .int (v4 + 1)), (5, .int (v5 + Int32.ofInt 1))] [] S3 Q)) :
    fx_Go G (1, 16) mm_M_give 58 [(0, fx_r G v0), (1, .int v1), (2, .int v2), (3, .int v3), (4, .int v4), (5, .int v5)] [.int z0, .int z1, fx_r G z2] S Q := by
  obtain ⟨q1, h⟩ := h
  obtain ⟨q2, h⟩ := h
  replace h := h _ rfl
  refine fx_zast (n := 59) dd_M_give_58 rfl q1.1 q1.2 q2 ?_
  refine fx_aload_n (n := 60) dd_M_give_59 rfl 0 rfl rfl ?_
  obtain ⟨q4, h⟩ := h
  obtain ⟨r5, hr5, h⟩ := h
  refine fx_getP (n := 63) dd_M_give_60 fw_M_30 (by decide) rfl rfl q4.1 q4.2 hr5 ?_
  refine fx_iload (n := 65) dd_M_give_63 5 rfl rfl ?_
  obtain ⟨q6, h⟩ := h
  obtain ⟨q7, h⟩ := h
  refine fx_zald (n := 66) dd_M_give_65 rfl q6.1 q6.2 q7 ?_
  refine fx_if_eq (n := 69) (tg := 76) dd_M_give_66 rfl rfl (fun hc => ?_) (fun hc => ?_)
  · replace h := h.1 hc
    refine fx_iload (n := 78) dd_M_give_76 4 rfl rfl ?_
    refine fx_istore (n := 80) (L' := [(4, _), (0, _), (1, _), (2, _), (3, _), (5, _)]) dd_M_give_78 (by decide) rfl rfl ?_
    refine fx_iinc (n := 83) (L' := [(5, _), (4, _), (0, _), (1, _), (2, _), (3, _)]) dd_M_give_80 5 rfl rfl (by decide) rfl rfl ?_
    refine fx_goto (n := 6) dd_M_give_83 rfl ?_
    refine fx_sub (L' := [(0, _), (1, _), (2, _), (3, _), (4, _), (5, _)]) [2, 3, 4, 5, 1, 0] rfl ?_
    exact h
  · replace h := h.2 hc
    refine fx_iload (n := 71) dd_M_give_69 4 rfl rfl ?_
    refine fx_iconst (n := 72) (v := 1) dd_M_give_71 (by decide) rfl ?_
    refine fx_iadd (n := 73) dd_M_give_72 rfl ?_
    refine fx_goto (n := 78) dd_M_give_73 rfl ?_
    refine fx_istore (n := 80) (L' := [(4, _), (0, _), (1, _), (2, _), (3, _), (5, _)]) dd_M_give_78 (by decide) rfl rfl ?_
    refine fx_iinc (n := 83) (L' := [(5, _), (4, _), (0, _), (1, _), (2, _), (3, _)]) dd_M_give_80 5 rfl rfl (by decide) rfl rfl ?_
    refine fx_goto (n := 6) dd_M_give_83 rfl ?_
    refine fx_sub (L' := [(0, _), (1, _), (2, _), (3, _), (4, _), (5, _)]) [2, 3, 4, 5, 1, 0] rfl ?_
    exact h
theorem bk_M_give_100 {G : fx_G} {S : fx_S} {Q : fx_R → fx_S → Prop} (v0 : Nat) (v5 : Int32) (h : fx_is S v0 5 ∧ ((fx_I S v0 10) ≤ v5 → Q (.inl (some (.int 1))) S) ∧ (¬ (fx_I S v0 10) ≤ v5 → ∃ r2, fx_P S v0 12 = some r2 ∧ fx_is S r2 101 ∧ vp_in v5 (fx_ln S r2) ∧ (¬ (fx_I S r2 (v5.toNatClampNeg)) = 0 → ∃ r5, fx_P S v0 11 = some r5 ∧ fx_Go G (0, 0) mm_M_lowestFree 0 [(0, fx_r G v0)] [] S (fx_qi (fun x7 S6 => fx_is S6 r5 100 ∧ vp_in v5 (fx_ln S6 r5) ∧ ∀ S10, S10 = fx_setI S6 r5 (v5.toNatClampNeg) x7 → fx_is S10 v0 5 ∧ ∃ r12, fx_P S10 v0 3 = some r12 ∧ ∃ r13, fx_P S10 v0 11 = some r13 ∧ fx_is S10 r13 100 ∧ vp_in v5 (fx_ln S10 r13) ∧ fx_is S10 r12 101 ∧ vp_in (fx_I S10 r13 (v5.toNatClampNeg)) (fx_ln S10 r12) ∧ ∀ S18, S18 = fx_setI S10 r12 ((fx_I S10 r13 (v5.toNatClampNeg)).toNatClampNeg) (vp_nar .boolean 1) → fx_Go G (1, 16) mm_M_give 100 [(0, fx_r G v0), (5, .int (v5 + Int32.ofInt 1))] [] S18 Q) Q)) ∧ ((fx_I S r2 (v5.toNatClampNeg)) = 0 → fx_Go G (1, 16) mm_M_give 100 [(0, fx_r G v0), (5, .int (v5 + Int32.ofInt 1))] [] S Q))) :
    fx_Go G (1, 16) mm_M_give 100 [(0, fx_r G v0), (5, .int v5)] [] S Q := by
  refine fx_iload (n := 102) dd_M_give_100 1 rfl rfl ?_
  refine fx_aload_n (n := 103) dd_M_give_102 rfl 0 rfl rfl ?_
  obtain ⟨q1, h⟩ := h
  refine fx_getI (n := 106) dd_M_give_103 fw_M_91 (by decide) rfl rfl q1.1 q1.2 ?_
  refine fx_icmp_ge (n := 109) (tg := 152) dd_M_give_106 rfl rfl (fun hc => ?_) (fun hc => ?_)
  · replace h := h.1 hc
    refine fx_iconst (n := 153) (v := 1) dd_M_give_152 (by decide) rfl ?_
    exact fx_zret dd_M_give_153 rfl rfl h
  · replace h := h.2 hc
    refine fx_aload_n (n := 110) dd_M_give_109 rfl 0 rfl rfl ?_
    obtain ⟨r2, hr2, h⟩ := h
    refine fx_getP (n := 113) dd_M_give_110 fw_M_30 (by decide) rfl rfl q1.1 q1.2 hr2 ?_
    refine fx_iload (n := 115) dd_M_give_113 1 rfl rfl ?_
    obtain ⟨q3, h⟩ := h
    obtain ⟨q4, h⟩ := h
    refine fx_zald (n := 116) dd_M_give_115 rfl q3.1 q3.2 q4 ?_
    refine fx_if_ne (n := 119) (tg := 122) dd_M_give_116 rfl rfl (fun hc => ?_) (fun hc => ?_)
    · replace h := h.1 hc
      refine fx_aload_n (n := 123) dd_M_give_122 rfl 0 rfl rfl ?_
      obtain ⟨r5, hr5, h⟩ := h
      refine fx_getP (n := 126) dd_M_give_123 fw_M_27 (by decide) rfl rfl q1.1 q1.2 hr5 ?_
      refine fx_iload (n := 128) dd_M_give_126 1 rfl rfl ?_
      refine fx_aload_n (n := 129) dd_M_give_128 rfl 0 rfl rfl ?_
      refine fx_callV (n := 132) (vs := []) dd_M_give_129 mw_M_lowestFree ⟨wd_843, wd_845, wp_64⟩ rfl (by decide) q1.1 q1.2 rfl rfl ⟨Nat.le_of_ble_eq_true rfl, Nat.le_of_ble_eq_true rfl, Nat.le_of_ble_eq_true rfl, fx_nx, rfl⟩ rfl h (fx_qi_k fun x7 S6 h => ?_) (fun _ _ h => h)
      obtain ⟨q8, h⟩ := h
      obtain ⟨q9, h⟩ := h
      replace h := h _ rfl
      refine fx_iast (n := 133) dd_M_give_132 rfl q8.1 q8.2 q9 ?_
      refine fx_aload_n (n := 134) dd_M_give_133 rfl 0 rfl rfl ?_
      obtain ⟨q11, h⟩ := h
      obtain ⟨r12, hr12, h⟩ := h
      refine fx_getP (n := 137) dd_M_give_134 fw_M_17 (by decide) rfl rfl q11.1 q11.2 hr12 ?_
      refine fx_aload_n (n := 138) dd_M_give_137 rfl 0 rfl rfl ?_
      obtain ⟨r13, hr13, h⟩ := h
      refine fx_getP (n := 141) dd_M_give_138 fw_M_27 (by decide) rfl rfl q11.1 q11.2 hr13 ?_
      refine fx_iload (n := 143) dd_M_give_141 1 rfl rfl ?_
      obtain ⟨q14, h⟩ := h
      obtain ⟨q15, h⟩ := h
      refine fx_iald (n := 144) dd_M_give_143 rfl q14.1 q14.2 q15 ?_
      refine fx_iconst (n := 145) (v := 1) dd_M_give_144 (by decide) rfl ?_
      obtain ⟨q16, h⟩ := h
      obtain ⟨q17, h⟩ := h
      replace h := h _ rfl
      refine fx_zast (n := 146) dd_M_give_145 rfl q16.1 q16.2 q17 ?_
      refine fx_iinc (n := 149) (L' := [(5, _), (0, _)]) dd_M_give_146 1 rfl rfl (by decide) rfl rfl ?_
      refine fx_goto (n := 100) dd_M_give_149 rfl ?_
      refine fx_sub (L' := [(0, _), (5, _)]) [1, 0] rfl ?_
      exact h
    · replace h := h.2 hc
      refine fx_goto (n := 146) dd_M_give_119 rfl ?_
      refine fx_iinc (n := 149) (L' := [(5, _), (0, _)]) dd_M_give_146 1 rfl rfl (by decide) rfl rfl ?_
      refine fx_goto (n := 100) dd_M_give_149 rfl ?_
      refine fx_sub (L' := [(0, _), (5, _)]) [1, 0] rfl ?_
      exact h
theorem bk_M_takeBack_0 {G : fx_G} {S : fx_S} {Q : fx_R → fx_S → Prop} (v0 : Nat) (h : fx_Go G (0, 0) mm_M_takeBack 2 [(0, fx_r G v0), (1, .int 0)] [] S Q) :
    fx_Go G (0, 0) mm_M_takeBack 0 [(0, fx_r G v0)] [] S Q := by
  refine fx_iconst (n := 1) (v := 0) dd_M_takeBack_0 (by decide) rfl ?_
  refine fx_istore_n (n := 2) (L' := [(1, _), (0, _)]) dd_M_takeBack_1 rfl (by decide) rfl rfl ?_
  refine fx_sub (L' := [(0, _), (1, _)]) [1, 0] rfl ?_
  exact h
theorem bk_M_takeBack_2 {G : fx_G} {S : fx_S} {Q : fx_R → fx_S → Prop} (v0 : Nat) (v1 : Int32) (h : fx_is S v0 5 ∧ ((fx_I S v0 10) ≤ v1 → Q (.inl none) S) ∧ (¬ (fx_I S v0 10) ≤ v1 → ∃ r2, fx_P S v0 12 = some r2 ∧ fx_is S r2 101 ∧ vp_in v1 (fx_ln S r2) ∧ ((fx_I S r2 (v1.toNatClampNeg)) = 0 → fx_Go G (0, 0) mm_M_takeBack 2 [(0, fx_r G v0), (1, .int (v1 + Int32.ofInt 1))] [] S Q) ∧ (¬ (fx_I S r2 (v1.toNatClampNeg)) = 0 → ∃ r5, fx_P S v0 3 = some r5 ∧ ∃ r6, fx_P S v0 11 = some r6 ∧ fx_is S r6 100 ∧ vp_in v1 (fx_ln S r6) ∧ fx_is S r5 101 ∧ vp_in (fx_I S r6 (v1.toNatClampNeg)) (fx_ln S r5) ∧ ∀ S11, S11 = fx_setI S r5 ((fx_I S r6 (v1.toNatClampNeg)).toNatClampNeg) (vp_nar .boolean 0) → fx_Go G (0, 0) mm_M_takeBack 2 [(0, fx_r G v0), (1, .int (v1 + Int32.ofInt 1))] [] S11 Q))) :
    fx_Go G (0, 0) mm_M_takeBack 2 [(0, fx_r G v0), (1, .int v1)] [] S Q := by
  refine fx_iload_n (n := 3) dd_M_takeBack_2 rfl 1 rfl rfl ?_
  refine fx_aload_n (n := 4) dd_M_takeBack_3 rfl 0 rfl rfl ?_
  obtain ⟨q1, h⟩ := h
  refine fx_getI (n := 7) dd_M_takeBack_4 fw_M_91 (by decide) rfl rfl q1.1 q1.2 ?_
  refine fx_icmp_ge (n := 10) (tg := 37) dd_M_takeBack_7 rfl rfl (fun hc => ?_) (fun hc => ?_)
  · replace h := h.1 hc
    exact fx_vret dd_M_takeBack_37 rfl h
  · replace h := h.2 hc
    refine fx_aload_n (n := 11) dd_M_takeBack_10 rfl 0 rfl rfl ?_
    obtain ⟨r2, hr2, h⟩ := h
    refine fx_getP (n := 14) dd_M_takeBack_11 fw_M_30 (by decide) rfl rfl q1.1 q1.2 hr2 ?_
    refine fx_iload_n (n := 15) dd_M_takeBack_14 rfl 1 rfl rfl ?_
    obtain ⟨q3, h⟩ := h
    obtain ⟨q4, h⟩ := h
    refine fx_zald (n := 16) dd_M_takeBack_15 rfl q3.1 q3.2 q4 ?_
    refine fx_if_eq (n := 19) (tg := 31) dd_M_takeBack_16 rfl rfl (fun hc => ?_) (fun hc => ?_)
    · replace h := h.1 hc
      refine fx_iinc (n := 34) (L' := [(1, _), (0, _)]) dd_M_takeBack_31 1 rfl rfl (by decide) rfl rfl ?_
      refine fx_goto (n := 2) dd_M_takeBack_34 rfl ?_
      refine fx_sub (L' := [(0, _), (1, _)]) [1, 0] rfl ?_
      exact h
    · replace h := h.2 hc
      refine fx_aload_n (n := 20) dd_M_takeBack_19 rfl 0 rfl rfl ?_
      obtain ⟨r5, hr5, h⟩ := h
      refine fx_getP (n := 23) dd_M_takeBack_20 fw_M_17 (by decide) rfl rfl q1.1 q1.2 hr5 ?_
      refine fx_aload_n (n := 24) dd_M_takeBack_23 rfl 0 rfl rfl ?_
      obtain ⟨r6, hr6, h⟩ := h
      refine fx_getP (n := 27) dd_M_takeBack_24 fw_M_27 (by decide) rfl rfl q1.1 q1.2 hr6 ?_
      refine fx_iload_n (n := 28) dd_M_takeBack_27 rfl 1 rfl rfl ?_
      obtain ⟨q7, h⟩ := h
      obtain ⟨q8, h⟩ := h
      refine fx_iald (n := 29) dd_M_takeBack_28 rfl q7.1 q7.2 q8 ?_
      refine fx_iconst (n := 30) (v := 0) dd_M_takeBack_29 (by decide) rfl ?_
      obtain ⟨q9, h⟩ := h
      obtain ⟨q10, h⟩ := h
      replace h := h _ rfl
      refine fx_zast (n := 31) dd_M_takeBack_30 rfl q9.1 q9.2 q10 ?_
      refine fx_iinc (n := 34) (L' := [(1, _), (0, _)]) dd_M_takeBack_31 1 rfl rfl (by decide) rfl rfl ?_
      refine fx_goto (n := 2) dd_M_takeBack_34 rfl ?_
      refine fx_sub (L' := [(0, _), (1, _)]) [1, 0] rfl ?_
      exact h
theorem bk_M_place_0 {G : fx_G} {S : fx_S} {Q : fx_R → fx_S → Prop} (v0 : Nat) (v1 : Int32) (v2 : Int32) (h : fx_is S v0 5 ∧ ∃ r2, fx_P S v0 11 = some r2 ∧ fx_is S r2 100 ∧ vp_in (v1 / 16) (fx_ln S r2) ∧ ((fx_I S r2 ((v1 / 16).toNatClampNeg)) < 0 → Q (.inl none) S) ∧ (¬ (fx_I S r2 ((v1 / 16).toNatClampNeg)) < 0 → ∃ r5, fx_P S v0 1 = some r5 ∧ ∃ r6, fx_P S v0 11 = some r6 ∧ fx_is S r6 100 ∧ vp_in (v1 / 16) (fx_ln S r6) ∧ fx_is S r5 100 ∧ vp_in ((16 * (fx_I S r6 ((v1 / 16).toNatClampNeg))) + (v1 - v1 / 16 * 16)) (fx_ln S r5) ∧ ∀ S11, S11 = fx_setI S r5 (((16 * (fx_I S r6 ((v1 / 16).toNatClampNeg))) + (v1 - v1 / 16 * 16)).toNatClampNeg) v2 → Q (.inl none) S11)) :
    fx_Go G (0, 0) mm_M_place 0 [(0, fx_r G v0), (1, .int v1), (2, .int v2)] [] S Q := by
  refine fx_aload_n (n := 1) dd_M_place_0 rfl 0 rfl rfl ?_
  obtain ⟨q1, h⟩ := h
  obtain ⟨r2, hr2, h⟩ := h
  refine fx_getP (n := 4) dd_M_place_1 fw_M_27 (by decide) rfl rfl q1.1 q1.2 hr2 ?_
  refine fx_iload_n (n := 5) dd_M_place_4 rfl 1 rfl rfl ?_
  refine fx_bipush (n := 7) (v := 16) dd_M_place_5 (by decide) rfl ?_
  refine fx_idiv (n := 8) dd_M_place_7 (by decide) rfl ?_
  obtain ⟨q3, h⟩ := h
  obtain ⟨q4, h⟩ := h
  refine fx_iald (n := 9) dd_M_place_8 rfl q3.1 q3.2 q4 ?_
  refine fx_if_lt (n := 12) (tg := 35) dd_M_place_9 rfl rfl (fun hc => ?_) (fun hc => ?_)
  · replace h := h.1 hc
    exact fx_vret dd_M_place_35 rfl h
  · replace h := h.2 hc
    refine fx_aload_n (n := 13) dd_M_place_12 rfl 0 rfl rfl ?_
    obtain ⟨r5, hr5, h⟩ := h
    refine fx_getP (n := 16) dd_M_place_13 fw_M_7 (by decide) rfl rfl q1.1 q1.2 hr5 ?_
    refine fx_bipush (n := 18) (v := 16) dd_M_place_16 (by decide) rfl ?_
    refine fx_aload_n (n := 19) dd_M_place_18 rfl 0 rfl rfl ?_
    obtain ⟨r6, hr6, h⟩ := h
    refine fx_getP (n := 22) dd_M_place_19 fw_M_27 (by decide) rfl rfl q1.1 q1.2 hr6 ?_
    refine fx_iload_n (n := 23) dd_M_place_22 rfl 1 rfl rfl ?_
    refine fx_bipush (n := 25) (v := 16) dd_M_place_23 (by decide) rfl ?_
    refine fx_idiv (n := 26) dd_M_place_25 (by decide) rfl ?_
    obtain ⟨q7, h⟩ := h
    obtain ⟨q8, h⟩ := h
    refine fx_iald (n := 27) dd_M_place_26 rfl q7.1 q7.2 q8 ?_
    refine fx_imul (n := 28) dd_M_place_27 rfl ?_
    refine fx_iload_n (n := 29) dd_M_place_28 rfl 1 rfl rfl ?_
    refine fx_bipush (n := 31) (v := 16) dd_M_place_29 (by decide) rfl ?_
    refine fx_irem (n := 32) dd_M_place_31 (by decide) rfl ?_
    refine fx_iadd (n := 33) dd_M_place_32 rfl ?_
    refine fx_iload_n (n := 34) dd_M_place_33 rfl 2 rfl rfl ?_
    obtain ⟨q9, h⟩ := h
    obtain ⟨q10, h⟩ := h
    replace h := h _ rfl
    refine fx_iast (n := 35) dd_M_place_34 rfl q9.1 q9.2 q10 ?_
    exact fx_vret dd_M_place_35 rfl h
theorem bk_M_writeOutside_0 {G : fx_G} {S : fx_S} {Q : fx_R → fx_S → Prop} (v0 : Nat) (v1 : Int32) (v2 : Int32) (v3 : Int32) (v4 : Int32) (h : fx_is S v0 5 ∧ fx_Go G (2, 32) mm_M_sizeOf 0 [(0, fx_r G v0), (1, .int v1)] [] S (fx_qi (fun x3 S1 => ((v2 + v3) ≤ x3 → fx_Go G (4, 60) mm_M_writeOutside 23 [(0, fx_r G v0), (1, .int v1), (2, .int v2), (3, .int v3), (4, .int v4), (5, .int x3)] [.int x3] S1 Q) ∧ (¬ (v2 + v3) ≤ x3 → fx_Go G (4, 60) mm_M_writeOutside 23 [(0, fx_r G v0), (1, .int v1), (2, .int v2), (3, .int v3), (4, .int v4), (5, .int x3)] [.int (v2 + v3)] S1 Q)) Q)) :
    fx_Go G (4, 60) mm_M_writeOutside 0 [(0, fx_r G v0), (1, .int v1), (2, .int v2), (3, .int v3), (4, .int v4)] [] S Q := by
  refine fx_aload_n (n := 1) dd_M_writeOutside_0 rfl 0 rfl rfl ?_
  refine fx_iload_n (n := 2) dd_M_writeOutside_1 rfl 1 rfl rfl ?_
  obtain ⟨q2, h⟩ := h
  refine fx_callV (n := 5) (vs := [_]) dd_M_writeOutside_2 mw_M_sizeOf ⟨wd_817, wd_819, wp_59⟩ rfl (by decide) q2.1 q2.2 rfl rfl ⟨Nat.le_of_ble_eq_true rfl, Nat.le_of_ble_eq_true rfl, Nat.le_of_ble_eq_true rfl, fx_nx, rfl⟩ rfl h (fx_qi_k fun x3 S1 h => ?_) (fun _ _ h => h)
  refine fx_istore (n := 7) (L' := [(5, _), (0, _), (1, _), (2, _), (3, _), (4, _)]) dd_M_writeOutside_5 (by decide) rfl rfl ?_
  refine fx_iload_n (n := 8) dd_M_writeOutside_7 rfl 3 rfl rfl ?_
  refine fx_iload_n (n := 9) dd_M_writeOutside_8 rfl 4 rfl rfl ?_
  refine fx_iadd (n := 10) dd_M_writeOutside_9 rfl ?_
  refine fx_iload (n := 12) dd_M_writeOutside_10 0 rfl rfl ?_
  refine fx_icmp_le (n := 15) (tg := 21) dd_M_writeOutside_12 rfl rfl (fun hc => ?_) (fun hc => ?_)
  · replace h := h.1 hc
    refine fx_iload (n := 23) dd_M_writeOutside_21 0 rfl rfl ?_
    refine fx_sub (L' := [(0, _), (1, _), (2, _), (3, _), (4, _), (5, _)]) [1, 2, 3, 4, 5, 0] rfl ?_
    exact h
  · replace h := h.2 hc
    refine fx_iload_n (n := 16) dd_M_writeOutside_15 rfl 3 rfl rfl ?_
    refine fx_iload_n (n := 17) dd_M_writeOutside_16 rfl 4 rfl rfl ?_
    refine fx_iadd (n := 18) dd_M_writeOutside_17 rfl ?_
    refine fx_goto (n := 23) dd_M_writeOutside_18 rfl ?_
    refine fx_sub (L' := [(0, _), (1, _), (2, _), (3, _), (4, _), (5, _)]) [1, 2, 3, 4, 5, 0] rfl ?_
    exact h
theorem bk_M_writeOutside_23 {G : fx_G} {S : fx_S} {Q : fx_R → fx_S → Prop} (v0 : Nat) (v1 : Int32) (v2 : Int32) (v3 : Int32) (v4 : Int32) (v5 : Int32) (z0 : Int32) (h : fx_is S v0 5 ∧ fx_Go G (2, 32) mm_M_isInside 0 [(0, fx_r G v0), (1, .int v1)] [] S (fx_qi (fun x3 S1 => (x3 = 0 → fx_Go G (4, 60) mm_M_writeOutside 48 [(0, fx_r G v0), (1, .int v1), (2, .int v2), (3, .int v3), (4, .int v4), (5, .int v5), (6, .int z0), (8, .int 0), (9, .int 0)] [] S1 Q) ∧ (¬ x3 = 0 → fx_Go G (4, 60) mm_M_writeOutside 48 [(0, fx_r G v0), (1, .int v1), (2, .int v2), (3, .int v3), (4, .int v4), (5, .int v5), (6, .int z0), (8, .int v5), (9, .int 0)] [] S1 Q)) Q)) :
    fx_Go G (4, 60) mm_M_writeOutside 23 [(0, fx_r G v0), (1, .int v1), (2, .int v2), (3, .int v3), (4, .int v4), (5, .int v5)] [.int z0] S Q := by
  refine fx_istore (n := 25) (L' := [(6, _), (0, _), (1, _), (2, _), (3, _), (4, _), (5, _)]) dd_M_writeOutside_23 (by decide) rfl rfl ?_
  refine fx_aload_n (n := 26) dd_M_writeOutside_25 rfl 1 rfl rfl ?_
  refine fx_iload_n (n := 27) dd_M_writeOutside_26 rfl 2 rfl rfl ?_
  obtain ⟨q2, h⟩ := h
  refine fx_callV (n := 30) (vs := [_]) dd_M_writeOutside_27 mw_M_isInside ⟨wd_821, wd_823, wp_60⟩ rfl (by decide) q2.1 q2.2 rfl rfl ⟨Nat.le_of_ble_eq_true rfl, Nat.le_of_ble_eq_true rfl, Nat.le_of_ble_eq_true rfl, fx_nx, rfl⟩ rfl h (fx_qi_k fun x3 S1 h => ?_) (fun _ _ h => h)
  refine fx_istore (n := 32) (L' := [(7, _), (6, _), (0, _), (1, _), (2, _), (3, _), (4, _), (5, _)]) dd_M_writeOutside_30 (by decide) rfl rfl ?_
  refine fx_iload (n := 34) dd_M_writeOutside_32 0 rfl rfl ?_
  refine fx_if_eq (n := 37) (tg := 42) dd_M_writeOutside_34 rfl rfl (fun hc => ?_) (fun hc => ?_)
  · replace h := h.1 hc
    refine fx_iconst (n := 43) (v := 0) dd_M_writeOutside_42 (by decide) rfl ?_
    refine fx_istore (n := 45) (L' := [(8, _), (7, _), (6, _), (0, _), (1, _), (2, _), (3, _), (4, _), (5, _)]) dd_M_writeOutside_43 (by decide) rfl rfl ?_
    refine fx_iconst (n := 46) (v := 0) dd_M_writeOutside_45 (by decide) rfl ?_
    refine fx_istore (n := 48) (L' := [(9, _), (8, _), (7, _), (6, _), (0, _), (1, _), (2, _), (3, _), (4, _), (5, _)]) dd_M_writeOutside_46 (by decide) rfl rfl ?_
    refine fx_sub (L' := [(0, _), (1, _), (2, _), (3, _), (4, _), (5, _), (6, _), (8, _), (9, _)]) [4, 5, 6, 7, 8, 9, 3, 1, 0] rfl ?_
    exact h
  · replace h := h.2 hc
    refine fx_iload (n := 39) dd_M_writeOutside_37 7 rfl rfl ?_
    refine fx_goto (n := 43) dd_M_writeOutside_39 rfl ?_
    refine fx_istore (n := 45) (L' := [(8, _), (7, _), (6, _), (0, _), (1, _), (2, _), (3, _), (4, _), (5, _)]) dd_M_writeOutside_43 (by decide) rfl rfl ?_
    refine fx_iconst (n := 46) (v := 0) dd_M_writeOutside_45 (by decide) rfl ?_
    refine fx_istore (n := 48) (L' := [(9, _), (8, _), (7, _), (6, _), (0, _), (1, _), (2, _), (3, _), (4, _), (5, _)]) dd_M_writeOutside_46 (by decide) rfl rfl ?_
    refine fx_sub (L' := [(0, _), (1, _), (2, _), (3, _), (4, _), (5, _), (6, _), (8, _), (9, _)]) [4, 5, 6, 7, 8, 9, 3, 1, 0] rfl ?_
    exact h
theorem bk_M_writeOutside_48 {G : fx_G} {S : fx_S} {Q : fx_R → fx_S → Prop} (v0 : Nat) (v1 : Int32) (v2 : Int32) (v3 : Int32) (v4 : Int32) (v5 : Int32) (v6 : Int32) (v8 : Int32) (v9 : Int32) (h : (v8 ≤ v9 → fx_is S v0 5 ∧ fx_Go G (2, 32) mm_M_loadMap 0 [(0, fx_r G v0), (1, .int v1)] [] S (fx_qv (fun S1 => fx_is S1 v0 5 ∧ fx_Go G (4, 60) mm_M_writeOutside 95 [(0, fx_r G v0), (1, .int v1), (2, .int v2), (3, .int v3), (4, .int v4), (5, .int v5), (6, .int v6), (8, .int v8), (9, .int (fx_I S1 v0 10))] [] S1 Q) Q)) ∧ (¬ v8 ≤ v9 → fx_is S v0 5 ∧ ∃ r5, fx_P S v0 13 = some r5 ∧ fx_Go G (1, 16) mm_M_attribute 0 [(0, fx_r G v0), (1, .int v1), (2, .int 2)] [] S (fx_qi (fun x7 S6 => fx_is S6 v0 5 ∧ fx_Go G (0, 0) mm_M_byteOf 0 [(0, fx_r G v0), (1, .int v1), (2, .int ((x7 + 2) + v9))] [] S6 (fx_qi (fun x10 S8 => fx_is S8 r5 100 ∧ vp_in v9 (fx_ln S8 r5) ∧ ∀ S13, S13 = fx_setI S8 r5 (v9.toNatClampNeg) x10 → fx_Go G (4, 60) mm_M_writeOutside 48 [(0, fx_r G v0), (1, .int v1), (2, .int v2), (3, .int v3), (4, .int v4), (5, .int v5), (6, .int v6), (8, .int v8), (9, .int (v9 + Int32.ofInt 1))] [] S13 Q) Q)) Q))) :
    fx_Go G (4, 60) mm_M_writeOutside 48 [(0, fx_r G v0), (1, .int v1), (2, .int v2), (3, .int v3), (4, .int v4), (5, .int v5), (6, .int v6), (8, .int v8), (9, .int v9)] [] S Q := by
  refine fx_iload (n := 50) dd_M_writeOutside_48 8 rfl rfl ?_
  refine fx_iload (n := 52) dd_M_writeOutside_50 7 rfl rfl ?_
  refine fx_icmp_ge (n := 55) (tg := 84) dd_M_writeOutside_52 rfl rfl (fun hc => ?_) (fun hc => ?_)
  · replace h := h.1 hc
    refine fx_aload_n (n := 85) dd_M_writeOutside_84 rfl 0 rfl rfl ?_
    refine fx_iload_n (n := 86) dd_M_writeOutside_85 rfl 1 rfl rfl ?_
    obtain ⟨q2, h⟩ := h
    refine fx_callV (n := 89) (vs := [_]) dd_M_writeOutside_86 mw_M_loadMap ⟨wd_793, wd_795, wp_55⟩ rfl (by decide) q2.1 q2.2 rfl rfl ⟨Nat.le_of_ble_eq_true rfl, Nat.le_of_ble_eq_true rfl, Nat.le_of_ble_eq_true rfl, fx_nx, rfl⟩ rfl h (fx_qv_k fun S1 h => ?_) (fun _ _ h => h)
    refine fx_aload_n (n := 90) dd_M_writeOutside_89 rfl 0 rfl rfl ?_
    obtain ⟨q3, h⟩ := h
    refine fx_getI (n := 93) dd_M_writeOutside_90 fw_M_91 (by decide) rfl rfl q3.1 q3.2 ?_
    refine fx_istore (n := 95) (L' := [(9, _), (0, _), (1, _), (2, _), (3, _), (4, _), (5, _), (6, _), (8, _)]) dd_M_writeOutside_93 (by decide) rfl rfl ?_
    refine fx_sub (L' := [(0, _), (1, _), (2, _), (3, _), (4, _), (5, _), (6, _), (8, _), (9, _)]) [1, 2, 3, 4, 5, 6, 7, 8, 0] rfl ?_
    exact h
  · replace h := h.2 hc
    refine fx_aload_n (n := 56) dd_M_writeOutside_55 rfl 0 rfl rfl ?_
    obtain ⟨q4, h⟩ := h
    obtain ⟨r5, hr5, h⟩ := h
    refine fx_getP (n := 59) dd_M_writeOutside_56 fw_M_33 (by decide) rfl rfl q4.1 q4.2 hr5 ?_
    refine fx_iload (n := 61) dd_M_writeOutside_59 8 rfl rfl ?_
    refine fx_aload_n (n := 62) dd_M_writeOutside_61 rfl 0 rfl rfl ?_
    refine fx_iload_n (n := 63) dd_M_writeOutside_62 rfl 1 rfl rfl ?_
    refine fx_aload_n (n := 64) dd_M_writeOutside_63 rfl 0 rfl rfl ?_
    refine fx_iload_n (n := 65) dd_M_writeOutside_64 rfl 1 rfl rfl ?_
    refine fx_iconst (n := 66) (v := 2) dd_M_writeOutside_65 (by decide) rfl ?_
    refine fx_callV (n := 69) (vs := [_, _]) dd_M_writeOutside_66 mw_M_attribute ⟨wd_741, wd_743, wp_43⟩ rfl (by decide) q4.1 q4.2 rfl rfl ⟨Nat.le_of_ble_eq_true rfl, Nat.le_of_ble_eq_true rfl, Nat.le_of_ble_eq_true rfl, fx_nx, rfl⟩ rfl h (fx_qi_k fun x7 S6 h => ?_) (fun _ _ h => h)
    refine fx_iconst (n := 70) (v := 2) dd_M_writeOutside_69 (by decide) rfl ?_
    refine fx_iadd (n := 71) dd_M_writeOutside_70 rfl ?_
    refine fx_iload (n := 73) dd_M_writeOutside_71 8 rfl rfl ?_
    refine fx_iadd (n := 74) dd_M_writeOutside_73 rfl ?_
    obtain ⟨q9, h⟩ := h
    refine fx_callV (n := 77) (vs := [_, _]) dd_M_writeOutside_74 mw_M_byteOf ⟨wd_729, wd_731, wp_40⟩ rfl (by decide) q9.1 q9.2 rfl rfl ⟨Nat.le_of_ble_eq_true rfl, Nat.le_of_ble_eq_true rfl, Nat.le_of_ble_eq_true rfl, fx_nx, rfl⟩ rfl h (fx_qi_k fun x10 S8 h => ?_) (fun _ _ h => h)
    obtain ⟨q11, h⟩ := h
    obtain ⟨q12, h⟩ := h
    replace h := h _ rfl
    refine fx_iast (n := 78) dd_M_writeOutside_77 rfl q11.1 q11.2 q12 ?_
    refine fx_iinc (n := 81) (L' := [(9, _), (0, _), (1, _), (2, _), (3, _), (4, _), (5, _), (6, _), (8, _)]) dd_M_writeOutside_78 8 rfl rfl (by decide) rfl rfl ?_
    refine fx_goto (n := 48) dd_M_writeOutside_81 rfl ?_
    refine fx_sub (L' := [(0, _), (1, _), (2, _), (3, _), (4, _), (5, _), (6, _), (8, _), (9, _)]) [1, 2, 3, 4, 5, 6, 7, 8, 0] rfl ?_
    exact h
