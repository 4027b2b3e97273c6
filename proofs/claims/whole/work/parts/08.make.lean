theorem fx_H.upds {G : fx_G} {S S' : fx_S} {H H' : Heap} {locs ex : List Loc} {a : Nat} (h : fx_H G S H locs) (hz : H'.size = H.size) (ho : ∀ q, q ≠ fx_B G + a → H'[q]? = H[q]?) (ha : va_at G.2.2.1 vwCl (fx_B G + a, fx_ent G S' a) H')
    (he : ∀ i, i ≠ a → fx_ent G S' i = fx_ent G S i) (h1 : S'.1 = S.1) (hx : ∀ q ∈ ex, fx_B G ≤ q.base) : fx_H G S' H' (locs ++ ex) := by
  obtain ⟨g1, g2, g3, g4⟩ := fx_H.upd (k := 0) h hz ho ha he h1
  refine ⟨g1, g2, g3, fun q hq => ?_⟩
  rcases List.mem_append.mp hq with h2 | h2
  · exact h.2.2.2 q h2
  · exact hx q h2
/-- one cell more -/
theorem fx_H.more {G : fx_G} {S : fx_S} {H H' : Heap} {locs : List Loc} {kd ln sl : Nat} (h : fx_H G S H locs) (hx : fx_x S = 0) (hz : H'.size = fx_B G + fx_m S + 1) (ho : ∀ q, q < fx_B G + fx_m S → H'[q]? = H[q]?)
    (ha : va_at G.2.2.1 vwCl (fx_B G + fx_m S, fx_ent G (fx_new S kd ln sl) (fx_m S)) H') : fx_H G (fx_new S kd ln sl) H' locs := by
  obtain ⟨hP, hO, hS, hl⟩ := h
  have hm : fx_m (fx_new S kd ln sl) = fx_m S + 1 := rfl
  have hx' : fx_x (fx_new S kd ln sl) = fx_x S := rfl
  refine ⟨fun i hi => ?_, fun q hq => ?_, by rw [hz, hm, hx', hx]; omega, hl⟩
  · by_cases hia : i = fx_m S
    · subst hia; exact ha
    · have hlt : i < fx_m S := by rw [hm] at hi; omega
      have e0 : fx_ent G (fx_new S kd ln sl) i = fx_ent G S i := by
        have e1 : fx_I (fx_new S kd ln sl) i = fx_I S i := fx_row_ne _ _ hia
        have e2 : fx_P (fx_new S kd ln sl) i = fx_P S i := fx_row_ne _ _ hia
        have e3 : fx_J (fx_new S kd ln sl) i = fx_J S i := fx_row_ne _ _ hia
        have e4 : fx_kd (fx_new S kd ln sl) i = fx_kd S i := congrArg Prod.fst (if_neg hia)
        have e5 : fx_ln (fx_new S kd ln sl) i = fx_ln S i := congrArg Prod.snd (if_neg hia)
        simp only [fx_ent, fx_fs, e1, e2, e3, e4, e5]
      rw [e0]
      exact (hP i hlt).kept (ho _ (by omega))
  · rw [ho q (by omega)]; exact hO q hq
theorem fx_new_kd (S : fx_S) (kd ln sl : Nat) : fx_kd (fx_new S kd ln sl) (fx_m S) = kd := congrArg Prod.fst (if_pos rfl)
theorem fx_new_ln (S : fx_S) (kd ln sl : Nat) : fx_ln (fx_new S kd ln sl) (fx_m S) = ln := congrArg Prod.snd (if_pos rfl)
theorem fx_new_I (S : fx_S) (kd ln sl : Nat) : fx_I (fx_new S kd ln sl) (fx_m S) = fun _ => 0 := fx_row_self _ _ _
theorem fx_new_P (S : fx_S) (kd ln sl : Nat) : fx_P (fx_new S kd ln sl) (fx_m S) = fun _ => none := fx_row_self _ _ _
theorem fx_new_J (S : fx_S) (kd ln sl : Nat) : fx_J (fx_new S kd ln sl) (fx_m S) = fun _ => 0 := fx_row_self _ _ _
theorem fx_L.more {S : fx_S} {R : Room} {cells slots kd ln sl : Nat} (h : fx_L S R cells slots) (h1 : fx_m S + fx_x S + 1 ≤ 2000) (h2 : fx_k S + sl ≤ 20000) : fx_L (fx_new S kd ln sl) R (cells + 1) (slots + sl) ∧ cells + 1 ≤ R.cells ∧ slots + sl ≤ R.slots := by
  obtain ⟨a, b⟩ := h
  have hm : fx_m (fx_new S kd ln sl) = fx_m S + 1 := rfl
  have hx' : fx_x (fx_new S kd ln sl) = fx_x S := rfl
  have hk : fx_k (fx_new S kd ln sl) = fx_k S + sl := rfl
  refine ⟨⟨?_, ?_⟩, ?_, ?_⟩
  · rw [hm, hx']; omega
  · rw [hk]; omega
  · omega
  · omega
section FXN
variable {G : fx_G} {d : Nat × Nat} {M : fx_M} {pc n : Nat} {L : List (Nat × Value)} {st : List Value} {S : fx_S} {Q : fx_R → fx_S → Prop}
theorem fx_newc {c index N : Nat} {C : String} {T : u_T} (hd : decode M.2.1 pc = .ok (.new index, 3)) (hcw : fx_cw c C T N) (hc : c < 100) (hw : Cond.classLink M.1.cls index C ∈ lw_tbl ∧ Cond.instantiable C N ∈ lw_tbl ∧ Cond.initialized C ∈ lw_tbl) (hn : pc + 3 = n) (hx : fx_x S = 0) (h1 : fx_m S + fx_x S + 1 ≤ 2000) (h2 : fx_k S + N ≤ 20000)
    (kk : fx_Go G d M n L (fx_r G (fx_m S) :: st) (fx_new S c 0 N) Q) : fx_Go G d M pc L st S Q := by
  subst hn
  intro p l e R s m args below meth c0 H locs cells slots ls hC hH hB hl
  obtain ⟨hL, hc1, hs1⟩ := fx_L.more (kd := c) (ln := 0) (sl := N) hB h1 h2
  have hts : ∀ w ∈ u_ws C T N, w.before args s = true := fun w hw => hC.w (hcw.2.1 w hw) (fx_layGood hw) _
  obtain ⟨ty0, hty, hdf⟩ := hcw.2.2.1
  have hKn := hC.K.1 c _ hcw.1
  refine W.newcK hC.x hC.cc hC.own (hC.w hw.1 (Or.inl rfl) args) (hC.w hw.2.1 (Or.inl rfl) args) (hC.w hw.2.2 (Or.inl rfl) args) rfl hd hc1 hs1 hKn.2.1 (h := fx_B G + fx_m S) (by rw [hH.2.2.1, hx]; rfl) fun H1 kC hkC e1 z1 o1 => ?_
  refine kk p l e R s m args below meth c0 H1 locs (cells + 1) (slots + N) ls hC (hH.more hx z1 o1 ?_) hL hl
  rw [fx_ent_obj (fx_new_kd S c 0 N) hc]
  refine ⟨_, hcw.1, (u_born ty0 hts (fun w h => h) hKn hkC e1 hty).to fun j hj => ?_⟩
  rw [hdf j hj, fx_fs_V (by rw [hcw.N]; exact hj), fx_new_P, fx_new_I]
  rfl
theorem fx_newa {t : Nat} {atype : ArrayType} {x : Int32} {N : Nat} (hd : decode M.2.1 pc = .ok (.newarray atype, 2)) (hw : Cond.arrayClass (newarray.typeOf atype) ∈ lw_tbl) (ht : t = 0 ∧ newarray.typeOf atype = .int ∨ t = 1 ∧ newarray.typeOf atype = .boolean ∨ t = 2 ∧ newarray.typeOf atype = .char ∨ t = 3 ∧ newarray.typeOf atype = .long)
    (hn : pc + 2 = n) (hx0 : ¬ x < 0) (hN : x.toNatClampNeg = N) (hx : fx_x S = 0) (h1 : fx_m S + fx_x S + 1 ≤ 2000) (h2 : fx_k S + N ≤ 20000)
    (kk : fx_Go G d M n L (fx_r G (fx_m S) :: st) (fx_new S (100 + t) N N) Q) : fx_Go G d M pc L (.int x :: st) S Q := by
  subst hn
  intro p l e R s m args below meth c0 H locs cells slots ls hC hH hB hl
  obtain ⟨hL, hc1, hs1⟩ := fx_L.more (kd := 100 + t) (ln := N) (sl := N) hB h1 h2
  have hcb : componentBytes (newarray.typeOf atype) ≤ 8 := by
    rcases ht with ⟨-, h⟩ | ⟨-, h⟩ | ⟨-, h⟩ | ⟨-, h⟩ <;> rw [h] <;> decide
  have hby : N * componentBytes (newarray.typeOf atype) ≤ 536870912 := by
    have : N * componentBytes (newarray.typeOf atype) ≤ 20000 * 8 := Nat.mul_le_mul (by omega) hcb
    omega
  refine va_newaK hC.x hC.cc (hC.w hw (Or.inr ⟨_, rfl⟩) args) rfl hd rfl hx0 hN hby hc1 hs1 (h := fx_B G + fx_m S) (by rw [hH.2.2.1, hx]; rfl) fun H1 cA e1 z1 o1 hAr hNm => ?_
  refine kk p l e R s m args below meth c0 H1 locs (cells + 1) (slots + N) ls hC (hH.more hx z1 o1 ?_) hL hl
  rcases ht with ⟨rfl, h⟩ | ⟨rfl, h⟩ | ⟨rfl, h⟩ | ⟨rfl, h⟩
  · rw [h] at hNm e1
    have hcA : G.2.2.2 0 = cA := Option.some.inj ((hC.K.2 0 _ rfl).2.symm.trans hNm)
    rw [fx_ent_i (fx_new_kd S 100 N N), fx_new_ln, fx_new_I, hcA]
    exact e1
  · rw [h] at hNm e1
    have hcA : G.2.2.2 1 = cA := Option.some.inj ((hC.K.2 1 _ rfl).2.symm.trans hNm)
    rw [fx_ent_z (fx_new_kd S 101 N N), fx_new_ln, fx_new_I, hcA]
    exact e1
  · rw [h] at hNm e1
    have hcA : G.2.2.2 2 = cA := Option.some.inj ((hC.K.2 2 _ rfl).2.symm.trans hNm)
    rw [fx_ent_c (fx_new_kd S 102 N N), fx_new_ln, fx_new_I, hcA]
    exact e1
  · rw [h] at hNm e1
    have hcA : G.2.2.2 3 = cA := Option.some.inj ((hC.K.2 3 _ rfl).2.symm.trans hNm)
    rw [fx_ent_l (fx_new_kd S 103 N N), fx_new_ln, fx_new_J, hcA]
    exact e1
theorem fx_anew {index N : Nat} {x : Int32} (hd : decode M.2.1 pc = .ok (.anewarray index, 3)) (hw : Cond.classLink M.1.cls index "FixupVolume$Sheet" ∈ lw_tbl ∧ Cond.arrayOver (.object "FixupVolume$Sheet") ∈ lw_tbl) (hn : pc + 3 = n) (hx0 : ¬ x < 0) (hN : x.toNatClampNeg = N) (hx : fx_x S = 0) (h1 : fx_m S + fx_x S + 1 ≤ 2000) (h2 : fx_k S + N ≤ 20000)
    (kk : fx_Go G d M n L (fx_r G (fx_m S) :: st) (fx_new S 104 N N) Q) : fx_Go G d M pc L (.int x :: st) S Q := by
  subst hn
  subst hN
  intro p l e R s m args below meth c0 H locs cells slots ls hC hH hB hl
  obtain ⟨hL, hc1, hs1⟩ := fx_L.more (kd := 104) (ln := x.toNatClampNeg) (sl := x.toNatClampNeg) hB h1 h2
  have hsz : H.size = fx_B G + fx_m S := by rw [hH.2.2.1, hx]; rfl
  refine W.anew hC.x hC.cc hC.own (hC.w hw.1 (Or.inl rfl) args) (va_AO.use (va_AO.moved hC.warm.alike (va_AO.of (hC.2.2.2.1 _ hw.2)))) rfl hd rfl hx0 (by omega) hc1 hs1 fun cA kA comp g1 g2 g3 g4 => ?_
  rw [hsz]
  refine kk p l e R s m args below meth c0 _ locs (cells + 1) (slots + x.toNatClampNeg) ls hC (hH.more hx (by simp [hsz]) (fun q hq => ?_) ?_) hL hl
  · rw [Array.getElem?_push, if_neg (by omega)]
  · obtain ⟨kA2, comp2, k1, k2, k3, k4⟩ := (hC.K.2 4 _ rfl).2
    have hcA : G.2.2.2 4 = cA := Option.some.inj (k4.symm.trans g1)
    rw [fx_ent_q (fx_new_kd S 104 _ _), fx_new_ln, fx_new_P, hcA]
    show (H.push _)[_]? = some (vp_cell _ _)
    rw [vp_cell_q, ← hsz, arrV_new]
    simp
    rfl
theorem fx_aast {a r c : Nat} {i : Int32} {q : vw_C} (hd : decode M.2.1 pc = .ok (.aastore, 1)) (hn : pc + 1 = n) (ha : a < fx_m S) (hk : fx_kd S a = 104) (hin : vp_in i (fx_ln S a)) (hr : r < fx_m S) (hkr : fx_kd S r = c) (hc : c < 100) (hq : vwCl[c]? = some q) (hq1 : q.1 = "FixupVolume$Sheet")
    (kk : fx_Go G d M n L st (fx_setP S a i.toNatClampNeg (some r)) Q) : fx_Go G d M pc L (fx_r G r :: .int i :: fx_r G a :: st) S Q := by
  subst hn
  intro p l e R s m args below meth c0 H locs cells slots ls hC hH hB hl
  have hat := hH.1 a ha
  rw [fx_ent_q hk] at hat
  have hlt : i.toNatClampNeg < fx_ln S a := Nat.not_le.mp fun q => hin (Or.inr q)
  have h0 : ¬ i < 0 := fun q => hin (Or.inl q)
  have har := hH.1 r hr
  rw [fx_ent_obj hkr hc] at har
  obtain ⟨r', hr', cellV, g1, g2, g3, -⟩ := har
  have hcls := (hC.K.1 c q hq).2
  obtain ⟨kA, comp, k1, k2, k3, -⟩ := (hC.K.2 4 _ rfl).2
  have hcomp : comp = G.2.2.1.1 c := Option.some.inj (k3.symm.trans (by rw [← hq1]; exact hcls.1))
  subst hcomp
  obtain ⟨kC, hkC, -⟩ := id hcls.2
  refine W.aast hC.x hC.cc hat (fun q h => by cases h) (fun h => by cases h) k1 k2 rfl hkC ⟨h0, by show _ < (arrV _ _ _).slots.size; rw [arrV_size]; exact hlt⟩ g1 (fun q h => by rw [g3] at h; cases h) (by rw [g2]; exact hkC) (by rw [g2]; exact va_assign hcls) rfl rfl hd fun H1 e1 z oq => ?_
  refine kk p l e R s m args below meth c0 H1 _ cells slots ls hC (fx_H.upd (S := S) (S' := fx_setP S a i.toNatClampNeg (some r)) hH z oq ?_ (fun i hi => fx_setP_ent hi) rfl) hB hl
  rw [fx_ent_q (S := fx_setP S a i.toNatClampNeg (some r)) hk]
  show H1[_]? = some (vp_cell _ _)
  rw [e1, vp_cell_q, vp_cell_q, arrV_store]
  show _ = some (arrV _ (fx_ln S a) (fun j => va_rf (fx_rf G (fx_row _ a _ a j))))
  rw [fx_row_self]
  congr 2
  funext q
  by_cases hq : q = i.toNatClampNeg
  · simp [updV, va_up, hq, fx_rf, va_rf]
  · simp [updV, va_up, hq]
/-- System.arraycopy between int arrays -/
theorem fx_copy {a b index : Nat} {sp dp k : Int32} (hd : decode M.2.1 pc = .ok (.invokestatic index, 3)) (hw : Cond.methodLink M.1.cls index arraycopyName ∈ lw_tbl ∧ Cond.native arraycopyName ∈ lw_tbl ∧ Cond.static arraycopyName ∈ lw_tbl ∧ Cond.initialized "java/lang/System" ∈ lw_tbl) (hn : pc + 3 = n) (hr : 1 ≤ d.1 ∧ fx_ct st + (nativeFrameWords "java/lang/System" "arraycopy" 5 + 11) ≤ d.2)
    (hb : b < fx_m S) (hkb : fx_kd S b = 100) (ha : a < fx_m S) (hka : fx_kd S a = 100) (h1 : ¬ sp < 0) (h2 : ¬ dp < 0) (h3 : ¬ k < 0) (h4 : sp.toNatClampNeg + k.toNatClampNeg ≤ fx_ln S b) (h5 : dp.toNatClampNeg + k.toNatClampNeg ≤ fx_ln S a)
    (kk : fx_Go G d M n L st (fx_setR S a (va_cpy (fx_I S b) (fx_I S a) sp.toNatClampNeg dp.toNatClampNeg k.toNatClampNeg)) Q) : fx_Go G d M pc L (.int k :: .int dp :: fx_r G a :: .int sp :: fx_r G b :: st) S Q := by
  subst hn
  intro p l e R s m args below meth c0 H locs cells slots ls hC hH hB hl T hT X
  have nn : ∀ z : Int32, ¬ z < 0 → z.toInt = (z.toNatClampNeg : Int) := by
    intro z hz
    have hz0 : (0 : Int) ≤ z.toInt := by
      have := Int32.not_lt.mp hz
      simpa using Int32.le_iff_toInt_le.mp this
    show z.toInt = ((z.toInt.toNat : Nat) : Int)
    omega
  obtain ⟨-, -, ⟨hfr, hlo⟩, -⟩ := id hC
  have hcb := hH.1 b hb
  rw [fx_ent_i hkb] at hcb
  have hca := hH.1 a ha
  rw [fx_ent_i hka] at hca
  obtain ⟨-, k0, hk0, cm0, hkk0⟩ := (hC.K.2 0 _ rfl).1 (fx_ln S b) (fun j => .int (fx_I S b j))
  obtain ⟨-, k1, hk1, cm1, hkk1⟩ := (hC.K.2 0 _ rfl).1 (fx_ln S a) (fun j => .int (fx_I S a j))
  obtain ⟨vm', X', step⟩ := X.arraycopy hC.x hC.own (hC.w hw.1 (Or.inl rfl) args) (hC.w hw.2.1 (Or.inl rfl) args) (hC.w hw.2.2.1 (Or.inl rfl) args) (hC.w hw.2.2.2 (Or.inl rfl) args) (src := fx_B G + b) (dst := fx_B G + a) (cs := vp_cell (G.2.2.2 0) (fx_ln S b, .inl (fx_I S b))) (cd := vp_cell (G.2.2.2 0) (fx_ln S a, .inl (fx_I S a))) (srcPos := sp) (destPos := dp) (n := k) (by rw [hT]; exact hcb) (by rw [hT]; exact hca)
    (fun _ h => by cases h) (fun _ h => by cases h) (fun h => by cases h) (fun h => by cases h) hk0 hk1 hkk0 hkk1 rfl h1 h2 h3
    (by rw [nn sp h1, nn k h3]; show ¬ _ > ((arrV _ _ (fun j => .int (fx_I S b j))).slots.size : Int); rw [arrV_size]; omega)
    (by rw [nn dp h2, nn k h3]; show ¬ _ > ((arrV _ _ (fun j => .int (fx_I S a j))).slots.size : Int); rw [arrV_size]; omega)
    (fun vm₁ _ i hi => by
      have e : (vp_cell (G.2.2.2 0) (fx_ln S b, .inl (fx_I S b))).slots.getD (sp.toNatClampNeg + i) .null = .int (fx_I S b (sp.toNatClampNeg + i)) := by
        show (arrV _ _ (fun j => .int (fx_I S b j))).slots.getD _ _ = _
        rw [Array.getD_eq_getD_getElem?, arrV_read _ _ (by omega)]
        rfl
      refine ⟨?_, ?_⟩
      · rw [e]; rfl
      · rw [e]; exact trivial)
    (g := F0 m pc ls (.int k :: .int dp :: fx_r G a :: .int sp :: fx_r G b :: st)) rfl (hl.1.trans hC.ml.symm) (rest := st) rfl (by rw [hC.cc]; exact hd) (by omega) (by show 2 * 0 + fx_ct st + _ ≤ _; omega)
  have e1 : copied (vp_cell (G.2.2.2 0) (fx_ln S b, .inl (fx_I S b))) (vp_cell (G.2.2.2 0) (fx_ln S a, .inl (fx_I S a))) sp dp k = vp_cell (G.2.2.2 0) (fx_ln S a, .inl (va_cpy (fx_I S b) (fx_I S a) sp.toNatClampNeg dp.toNatClampNeg k.toNatClampNeg)) := va_copied (fun z => .int z) _ _ _ _ h4
  rw [e1] at X' step
  have hl0 : fx_B G + a < H.size := (Array.getElem?_eq_some_iff.mp hca).1
  obtain ⟨t, a1, b1⟩ := kk p l e R s m args below meth c0 _ _ cells slots ls hC (fx_H.upds (S := S) (H' := ((T.setVm vm').setCell (fx_B G + a) (vp_cell (G.2.2.2 0) (fx_ln S a, .inl (va_cpy (fx_I S b) (fx_I S a) sp.toNatClampNeg dp.toNatClampNeg k.toNatClampNeg)))).heap) (ex := ((vp_cell (G.2.2.2 0) (fx_ln S b, .inl (fx_I S b))).stretch sp.toNatClampNeg k.toNatClampNeg).zipIdx.map fun q => ⟨fx_B G + a, dp.toNatClampNeg + q.2⟩) hH
    (by rw [size_setCell]; exact congrArg Array.size hT) (fun q hq => by rw [heapAt_setCell_ne _ (Ne.symm hq)]; exact congrArg (fun z : Heap => z[q]?) hT)
    (by
      rw [fx_ent_i (S := fx_setR S a _) hka]
      show ((T.setVm vm').setCell _ _).heap[_]? = some (vp_cell _ (fx_ln S a, .inl (fx_row _ a _ a)))
      rw [fx_row_self]
      exact heapAt_setCell_self _ (by show _ < T.heap.size; rw [hT]; exact hl0)) (fun i hi => fx_setR_ent hi) rfl (fun q hq => by
      obtain ⟨z, -, hz⟩ := List.mem_map.mp hq
      rw [← hz]
      exact Nat.le_add_right _ _)) hB hl _ rfl X'
  exact ⟨t, step t a1, b1⟩
end FXN
