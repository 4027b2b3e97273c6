theorem fx_ldcwS {p : Program} {l : Launch} {e : Env} {R : Room} {s : State} {m : MethodId} {args : Array Value} {below : List Frame} {meth : Method} {c : Code} {H : Heap} {locs : List Loc} {cells slots : Nat} {Q : State → Prop} {cc : ByteArray} {pc : Nat} {ls : Array Slot} {rest : List Value} (hexec : p.tables.exec = Jvm.exec) (hb : c.code = cc) {own tx : String} {index q : Nat} (hown : s.vm.findClass own = some m.cls) (hZ : vk_R own index tx q s) (hdg : decode cc pc = .ok (.ldc_w index, 3))
    (k : W p l e R s m args below meth c H locs cells slots Q (F0 m (pc + 3) ls (.ref q :: rest))) : W p l e R s m args below meth c H locs cells slots Q (F0 m pc ls rest) := by
  intro T hT X
  obtain ⟨t, a1, b1⟩ := k T hT X
  refine ⟨t, ?_, b1⟩
  obtain ⟨k0, cf, i, a', hk, hcf, hcp, -, hr, hev'⟩ := Cond.stringRef_spec hown hZ.1
  cases hZ.2.symm.trans hev'
  obtain ⟨k', hk', he⟩ := X.warmed.alike.2.2 _ _ hk
  have hr' : k'.resolved[index]? = some (some (.string q)) := by
    rcases X.warmed.entry hk hk' index with h | ⟨h, -⟩
    · rw [h]; exact hr
    · rw [hr] at h; cases h
  subst hb
  jvm_step X.here [hexec, hdg, ldc_w.wp_string (e := e) (s := T) (f := F0 m pc ls rest) X.here.top hk' (by rw [he]; exact hcf) hcp hr']
  exact a1
set_option maxHeartbeats 1000000 in
theorem fx_throwW {G : fx_G} {d : Nat × Nat} {M : fx_M} {pc : Nat} {L : List (Nat × Value)} {st : List Value} {S : fx_S} {Q : fx_R → fx_S → Prop} {X tx : String} {k ix is ic : Nat} {names : List String} (hX : fx_ex k = X)
    (h0 : decode M.2.1 pc = .ok (.new ix, 3)) (h3 : decode M.2.1 (pc + 3) = .ok (.dup, 1)) (h4 : decode M.2.1 (pc + 3 + 1) = .ok (.ldc_w is, 3)) (h6 : decode M.2.1 (pc + 3 + 1 + 3) = .ok (.invokespecial ic, 3)) (h9 : decode M.2.1 (pc + 3 + 1 + 3 + 3) = .ok (.athrow, 1))
    (hw : ∀ a ∈ Bundle.ownAtoms M.1.cls ic X names, fx_aw a) (hfit : Bundle.fit X = true ∧ ∀ n ∈ names, Bundle.fit n = true) (hcw : Cond.classLink M.1.cls ix X ∈ lw_tbl ∧ Cond.initialized X ∈ lw_tbl ∧ Cond.instantiable X 6 ∈ lw_tbl)
    (hs : Cond.stringRef M.1.cls is tx ∈ lw_tbl ∧ Cond.exactly (.string M.1.cls is) "java/lang/String" ∈ flatC (Jvm.Cond.and given_1 narrow_1)) (hex : M.2.2.2.2 = []) (hd1 : names.length + 3 < d.1) (hd2 : fx_ct st + 1 + (13 * (names.length + 1) + 42) ≤ d.2)
    (hr : fx_roomx S) (hq : Q (.inr k) (fx_exc S)) : fx_Go G d M pc L st S Q := by
  intro p l e R s m args below meth c H locs cells slots ls hC hH hB hl T hT X0
  obtain ⟨hB1, hB2⟩ := id hB
  obtain ⟨hr1, hr2⟩ := hr
  obtain ⟨-, -, ⟨hfr, hlo⟩, hG⟩ := id hC
  have X' := fx_rebase X0 (by omega) (by omega)
  generalize hs' : T.setFrames (.invoking m args :: below) = s' at X'
  have hvm : s'.vm = T.vm := by rw [← hs']; rfl
  have hhp : s'.heap = T.heap := by rw [← hs']; rfl
  have hWT : G.1.WarmedH s'.vm := by rw [hvm]; exact State.WarmedH.trans hC.warm X0.warmed
  have hold : ∀ q, q < fx_B G → s'.heap[q]? = G.1.heap[q]? := by rw [hhp, hT]; exact hH.2.1
  have hown' : s'.vm.findClass M.1.cls = some m.cls := by rw [hvm, X0.warmed.alike.findClass]; exact hC.own
  have hws : ∀ a ∈ Bundle.ownAtoms M.1.cls ic X names, a.before args s' = true := fun a ha => (hw a ha).ok hG hWT hold args
  have htr : e.platform.stackTraces = false := Launch.traces_off hC.2.1.2.2.2 X0.admits
  have hat : ∀ w : Cond, w ∈ lw_tbl → (w.onTables && w.keeps) = true → w.before args s' = true := fun w hw hg => word_at hWT (Or.inl hg) (hG.1 w hw)
  obtain ⟨q, -, -, -, hqe, -⟩ := Cond.exactly_spec (args := G.2.1) (first := G.1) (o := none) (s := G.1) (idx := []) (t := .string M.1.cls is) (cls := "java/lang/String") (flat_of_before _ hG.2.2 _ hs.2)
  have hZ : vk_R M.1.cls is tx q s' := vk_R.warm hWT (vk_R.of (hG.1 _ hs.1) hqe)
  have hTsz : T.heap.size = fx_B G + fx_m S + fx_x S := by rw [hT]; exact hH.2.2.1
  have w : W p l e { R with cells := R.cells - cells, slots := R.slots - slots } s' m args below meth c T.heap [] 0 0 (fun t => t.status = .running ∧ Ended t below (.threw T.heap.size) ∧ s'.WarmedH t.vm ∧ s'.sameButNew ({ t with vm := s'.vm } : State) [] (0 + 1) (0 + 6) ∧ ∃ ce : Cell, t.heap[T.heap.size]? = some ce ∧ ce.vm = .none ∧ s'.vm.findClass X = some ce.cls) (F0 m pc ls st) := by
    refine W.newc (C := X) (n := 6) hC.x hC.cc hown' (hat _ hcw.1 rfl) (hat _ hcw.2.2 rfl) (hat _ hcw.2.1 rfl) rfl h0 (by show 0 + 1 ≤ R.cells - cells; omega) (by show 0 + 6 ≤ R.slots - slots; omega) fun cC kC g1 g2 g3 g4 => ?_
    refine lv_dup hC.x hC.cc h3 rfl ?_
    refine fx_ldcwS hC.x hC.cc hown' hZ h4 ?_
    intro T2 hT2 X2
    obtain ⟨U, u1, u2, u3, u4, u5, ce, u6, u7⟩ := X2.ctorThrowS hC.x htr hown' hfit.1 hfit.2 hws (fun x hx => absurd hx List.not_mem_nil) (a := T.heap.size) g1 g2 (by rw [hT2]; simp) (by rw [hhp]; exact Nat.le_refl _) (msg := .ref q) rfl (g := F0 m (pc + 3 + 1 + 3) ls (.ref q :: .ref T.heap.size :: .ref T.heap.size :: st)) rfl (hl.1.trans hC.ml.symm) rfl rfl (rest := st) rfl (by rw [hC.cc]; exact h6) (by rw [hC.cc]; exact h9)
      (fun x hx => by
        have hmem : (x.startPc, x.endPc, x.handlerPc, x.catchType) ∈ M.2.2.2.2 := by rw [← hC.1.2.2.2.2.2]; exact List.mem_map.mpr ⟨x, hx, rfl⟩
        rw [hex] at hmem
        exact absurd hmem List.not_mem_nil) (by show _ < R.frames; omega) (by show 2 * 0 + fx_ct (.ref T.heap.size :: st) + _ ≤ R.locals; show 2 * 0 + (1 + fx_ct st) + _ ≤ _; omega) (hlocks := hC.lk)
    exact ⟨U, u1, u2, u3, u4, u5, ce, u6, u7.vm, u7.cls⟩
  obtain ⟨t, st1, q1, q2, q3, ⟨a1, a2, a3, a4, a5, a6⟩, ce, q5, q6, q7⟩ := w T rfl X'
  have hsame : T.sameButNew (t.setVm T.vm) [] (0 + 1) (0 + 6) := by
    rw [← hs'] at a1 a2 a3 a4 a5 a6
    refine ⟨?_, a2, a3, a4, a5, a6⟩
    have a1' : t.setVm T.vm = { (T.setFrames (.invoking m args :: below)).setFrames t.frames with heap := t.heap, slotsUsed := t.slotsUsed } := a1
    rw [State.setFrames_setFrames] at a1'
    exact a1'
  have hold2 : ∀ z, z < T.heap.size → t.heap[z]? = T.heap[z]? := fun z hz => fx_oldsame (k := 0) (n := 0) hsame.2.2.2.2.2 hz
  have hlt : T.heap.size < t.heap.size := (Array.getElem?_eq_some_iff.mp q5).1
  have hle : t.heap.size ≤ T.heap.size + 1 := hsame.2.2.1
  have hwt : s.WarmedH t.vm := State.WarmedH.trans X0.warmed (show T.WarmedH t.vm by rw [← hs'] at q3; exact q3)
  refine ⟨t, st1, q1, .threw T.heap.size, fx_exc S, locs ++ [], cells + (0 + 1), slots + (0 + 6), q2, hwt, X0.same.trans (hsame.setVm s.vm), ⟨fun i hi => ?_, fun z hz => ?_, ?_, ?_⟩, ⟨?_, ?_⟩, ⟨k, ce, q5, by rw [q6]; rfl, ?_, hq⟩⟩
  · have hi' : i < fx_m S := hi
    have h := hH.1 i hi'
    exact h.kept (by rw [hold2 _ (by rw [hTsz]; show fx_B G + i < _; omega), hT])
  · rw [hold2 z (by rw [hTsz]; omega), hT]; exact hH.2.1 z hz
  · show t.heap.size = fx_B G + fx_m S + (fx_x S + 1)
    omega
  · rw [List.append_nil]; exact hH.2.2.2
  · show cells + (0 + 1) + (2000 - (fx_m S + (fx_x S + 1))) ≤ R.cells
    omega
  · show slots + (0 + 6) + (20000 - (fx_k S + 6)) ≤ R.slots
    omega
  · rw [hX, ← q7]
    exact (hWT.alike.findClass _ _).symm
