/-! throwing: the words of the exceptions' constructors at any point of the run, the rule -/
theorem fx_statL {G : fx_G} {U : State} (hW : G.1.WarmedH U.vm) (hold : ∀ q, q < fx_B G → U.heap[q]? = G.1.heap[q]?) {o n d : String} {a a' : Array Value} (h : (Cond.laysStatic o n d).before a G.1 = true) : (Cond.laysStatic o n d).before a' U = true := by
  have h1 : (Cond.laysStatic o n d).before a (G.1.setVm U.vm) = true := Cond.holds_shifted (State.Shifted.of_warmed hW) _ [] rfl h
  obtain ⟨c, k, i, f, aS, cell, e1, e2, e3, e4, e5, e6, e7, e8, e9⟩ := Cond.laysStatic_spec h1
  have e1' : U.vm.findClass o = some c := e1
  have e2' : U.fieldFound? o n d = some (c, k, i, f) := e2
  have hlt : aS < fx_B G := (Array.getElem?_eq_some_iff.mp (show G.1.heap[aS]? = some cell from e5)).1
  have e5' : U.heap[aS]? = some cell := by rw [hold aS hlt]; exact e5
  simp [Cond.before, Cond.holds, Cond.value, e1', e2', e3, e4, e5', e6, e7, e8, e9]
theorem fx_statR {G : fx_G} {U : State} (hW : G.1.WarmedH U.vm) (hold : ∀ q, q < fx_B G → U.heap[q]? = G.1.heap[q]?) {c n d : String} {a a' : Array Value} (h : (Cond.isRef (.static c n d)).before a G.1 = true) : (Cond.isRef (.static c n d)).before a' U = true := by
  have h1 : (Cond.isRef (.static c n d)).before a (G.1.setVm U.vm) = true := Cond.holds_shifted (State.Shifted.of_warmed hW) _ [] rfl h
  have hff : U.fieldNamed? c n d true = (G.1.setVm U.vm).fieldNamed? c n d true := rfl
  simp only [Cond.before, Cond.holds, Cond.value, Term.eval, hff] at h1 ⊢
  cases hf : (G.1.setVm U.vm).fieldNamed? c n d true with
  | none => simp [hf] at h1
  | some x =>
    obtain ⟨c1, k, slot⟩ := x
    cases hs : k.statics with
    | none => simp [hf, hs] at h1
    | some aS =>
      cases hc : G.1.heap[aS]? with
      | none =>
        have hc' : (G.1.setVm U.vm).heap[aS]? = none := hc
        simp [hf, hs, hc] at h1
      | some cell =>
        have hc' : (G.1.setVm U.vm).heap[aS]? = some cell := hc
        have hlt : aS < fx_B G := (Array.getElem?_eq_some_iff.mp hc).1
        have hU : U.heap[aS]? = some cell := by rw [hold aS hlt]; exact hc
        simp only [hf, hs, hc', hU, Option.bind_eq_bind, Option.bind_some] at h1 ⊢
        exact h1
def fx_aw (a : Cond) : Prop := (a ∈ lw_tbl ∧ (a.onTables && a.keeps) = true) ∨ (a ∈ lw_tbl ∧ ∃ o n d, a = .laysStatic o n d) ∨ a = .isRef (.static Bundle.tN "UNASSIGNED_STACK" Bundle.steD) ∨ a = .isRef (.static Bundle.tN "SUPPRESSED_SENTINEL" Bundle.listD) ∨ (a ∈ lw_tbl ∧ ∃ x y, a = .castable x y) ∨ (a ∈ lw_tbl ∧ ∃ x, a = .declares x)
theorem fx_aw.ok {a : Cond} (h : fx_aw a) {G : fx_G} (hG : fx_ok G) {U : State} (hW : G.1.WarmedH U.vm) (hold : ∀ q, q < fx_B G → U.heap[q]? = G.1.heap[q]?) (args : Array Value) : a.before args U = true := by
  have hs := flat_of_before _ hG.2.2
  rcases h with ⟨h1, h2⟩ | ⟨h1, o, n, d, rfl⟩ | rfl | rfl | ⟨h1, x, y, rfl⟩ | ⟨h1, x, rfl⟩
  · exact word_at hW (Or.inl h2) (hG.1 _ h1)
  · exact fx_statL hW hold (hG.1 _ h1)
  · exact fx_statR hW hold (hs _ (by decide +kernel))
  · exact fx_statR hW hold (hs _ (by decide +kernel))
  · obtain ⟨c3, c4, k3, k4, k5⟩ := Cond.castable_spec (hG.1 _ h1)
    have k3' : U.vm.findClass x = some c3 := by rw [hW.alike.findClass]; exact k3
    have k4' : U.vm.findClass y = some c4 := by rw [hW.alike.findClass]; exact k4
    have k5' : U.vm.assignable c3 c4 = true := by rw [hW.alike.assignable]; exact k5
    simp [Cond.before, Cond.holds, Cond.value, k3', k4', k5']
  · exact va_Nw.use rfl (va_Nw.warmD hW (va_Nw.of rfl (hG.1 _ h1)))
theorem fx_oldsame {T t : State} {k n : Nat} (h : ∀ a c, T.heap[a]? = some c → ∃ c' : Cell, t.heap[a]? = some c' ∧ c' = { c with slots := c'.slots } ∧ c'.slots.size = c.slots.size ∧ ∀ i, (⟨a, i⟩ : Loc) ∉ ([] : List Loc) → c'.slots[i]? = c.slots[i]?) {q : Nat} (hq : q < T.heap.size) : t.heap[q]? = T.heap[q]? := by
  obtain ⟨c', h1, h2, -, h4⟩ := h q T.heap[q] (Array.getElem?_eq_getElem hq)
  have hs : c'.slots = T.heap[q].slots := Array.ext_getElem? fun i => h4 i List.not_mem_nil
  rw [h1, Array.getElem?_eq_getElem hq, h2, hs]
set_option maxHeartbeats 1000000 in
theorem fx_throw {G : fx_G} {d : Nat × Nat} {M : fx_M} {pc : Nat} {L : List (Nat × Value)} {st : List Value} {S : fx_S} {Q : fx_R → fx_S → Prop} {X tx : String} {k ix is ic : Nat} {names : List String} (hX : fx_ex k = X)
    (h0 : decode M.2.1 pc = .ok (.new ix, 3)) (h3 : decode M.2.1 (pc + 3) = .ok (.dup, 1)) (h4 : decode M.2.1 (pc + 3 + 1) = .ok (.ldc is, 2)) (h6 : decode M.2.1 (pc + 3 + 1 + 2) = .ok (.invokespecial ic, 3)) (h9 : decode M.2.1 (pc + 3 + 1 + 2 + 3) = .ok (.athrow, 1))
    (hw : ∀ a ∈ Bundle.ownAtoms M.1.cls ic X names, fx_aw a) (hfit : Bundle.fit X = true ∧ ∀ n ∈ names, Bundle.fit n = true) (hcw : Cond.classLink M.1.cls ix X ∈ lw_tbl ∧ Cond.initialized X ∈ lw_tbl ∧ Cond.instantiable X 6 ∈ lw_tbl)
    (hs : Cond.stringRef M.1.cls is tx ∈ lw_tbl ∧ Cond.exactly (.string M.1.cls is) "java/lang/String" ∈ flatC (Jvm.Cond.and given_1 narrow_1)) (hex : M.2.2.2.2 = []) (hd1 : names.length + 3 < d.1) (hd2 : fx_ct st + 1 + (13 * (names.length + 1) + 42) ≤ d.2)
    (hr : fx_roomx S) (hq : Q (.inr k) (fx_exc S)) : fx_Go G d M pc L st S Q := by
  intro p l e R s m args below meth c H locs cells slots ls hC hH hB hl T hT X0
  obtain ⟨hB1, hB2⟩ := id hB
  obtain ⟨hr1, hr2⟩ := hr
  obtain ⟨-, -, ⟨hfr, hlo⟩, hG⟩ := id hC
  have X' := fx_rebase X0 (by omega) (by omega)
  generalize hs' : T.setFrames (.invoking m args :: below) = s' at X'
  have hvm : s'.vm = T.vm := by rw [← hs']; rfl
  have hhp : s'.heap = T.heap := by rw [← hs']; rfl
  have hWT : G.1.WarmedH s'.vm := by rw [hvm]; exact State.WarmedH.trans hC.warm X0.warmed
  have hold : ∀ q, q < fx_B G → s'.heap[q]? = G.1.heap[q]? := by rw [hhp, hT]; exact hH.2.1
  have hown' : s'.vm.findClass M.1.cls = some m.cls := by rw [hvm, X0.warmed.alike.findClass]; exact hC.own
  have hws : ∀ a ∈ Bundle.ownAtoms M.1.cls ic X names, a.before args s' = true := fun a ha => (hw a ha).ok hG hWT hold args
  have htr : e.platform.stackTraces = false := Launch.traces_off hC.2.1.2.2.2 X0.admits
  have hat : ∀ w : Cond, w ∈ lw_tbl → (w.onTables && w.keeps) = true → w.before args s' = true := fun w hw hg => word_at hWT (Or.inl hg) (hG.1 w hw)
  obtain ⟨q, -, -, -, hqe, -⟩ := Cond.exactly_spec (args := G.2.1) (first := G.1) (o := none) (s := G.1) (idx := []) (t := .string M.1.cls is) (cls := "java/lang/String") (flat_of_before _ hG.2.2 _ hs.2)
  have hZ : vk_R M.1.cls is tx q s' := vk_R.warm hWT (vk_R.of (hG.1 _ hs.1) hqe)
  have hTsz : T.heap.size = fx_B G + fx_m S + fx_x S := by rw [hT]; exact hH.2.2.1
  have w : W p l e { R with cells := R.cells - cells, slots := R.slots - slots } s' m args below meth c T.heap [] 0 0 (fun t => t.status = .running ∧ Ended t below (.threw T.heap.size) ∧ s'.WarmedH t.vm ∧ s'.sameButNew ({ t with vm := s'.vm } : State) [] (0 + 1) (0 + 6) ∧ ∃ ce : Cell, t.heap[T.heap.size]? = some ce ∧ ce.vm = .none ∧ s'.vm.findClass X = some ce.cls) (F0 m pc ls st) := by
    refine W.newc (C := X) (n := 6) hC.x hC.cc hown' (hat _ hcw.1 rfl) (hat _ hcw.2.2 rfl) (hat _ hcw.2.1 rfl) rfl h0 (by show 0 + 1 ≤ R.cells - cells; omega) (by show 0 + 6 ≤ R.slots - slots; omega) fun cC kC g1 g2 g3 g4 => ?_
    refine lv_dup hC.x hC.cc h3 rfl ?_
    refine va_ldcS hC.x hC.cc hown' hZ h4 ?_
    intro T2 hT2 X2
    obtain ⟨U, u1, u2, u3, u4, u5, ce, u6, u7⟩ := X2.ctorThrowS hC.x htr hown' hfit.1 hfit.2 hws (fun x hx => absurd hx List.not_mem_nil) (a := T.heap.size) g1 g2 (by rw [hT2]; simp) (by rw [hhp]; exact Nat.le_refl _) (msg := .ref q) rfl (g := F0 m (pc + 3 + 1 + 2) ls (.ref q :: .ref T.heap.size :: .ref T.heap.size :: st)) rfl (hl.1.trans hC.ml.symm) rfl rfl (rest := st) rfl (by rw [hC.cc]; exact h6) (by rw [hC.cc]; exact h9)
      (fun x hx => by
        have hmem : (x.startPc, x.endPc, x.handlerPc, x.catchType) ∈ M.2.2.2.2 := by rw [← hC.1.2.2.2.2.2]; exact List.mem_map.mpr ⟨x, hx, rfl⟩
        rw [hex] at hmem
        exact absurd hmem List.not_mem_nil) (by show _ < R.frames; omega) (by show 2 * 0 + fx_ct (.ref T.heap.size :: st) + _ ≤ R.locals; show 2 * 0 + (1 + fx_ct st) + _ ≤ _; omega) (hlocks := hC.lk)
    exact ⟨U, u1, u2, u3, u4, u5, ce, u6, u7.vm, u7.cls⟩
  obtain ⟨t, st1, q1, q2, q3, ⟨a1, a2, a3, a4, a5, a6⟩, ce, q5, q6, q7⟩ := w T rfl X'
  have hsame : T.sameButNew (t.setVm T.vm) [] (0 + 1) (0 + 6) := by
    rw [← hs'] at a1 a2 a3 a4 a5 a6
    refine ⟨?_, a2, a3, a4, a5, a6⟩
    have a1' : t.setVm T.vm = { (T.setFrames (.invoking m args :: below)).setFrames t.frames with heap := t.heap, slotsUsed := t.slotsUsed } := a1
    rw [State.setFrames_setFrames] at a1'
    exact a1'
  have hold2 : ∀ z, z < T.heap.size → t.heap[z]? = T.heap[z]? := fun z hz => fx_oldsame (k := 0) (n := 0) hsame.2.2.2.2.2 hz
  have hlt : T.heap.size < t.heap.size := (Array.getElem?_eq_some_iff.mp q5).1
  have hle : t.heap.size ≤ T.heap.size + 1 := hsame.2.2.1
  have hwt : s.WarmedH t.vm := State.WarmedH.trans X0.warmed (show T.WarmedH t.vm by rw [← hs'] at q3; exact q3)
  refine ⟨t, st1, q1, .threw T.heap.size, fx_exc S, locs ++ [], cells + (0 + 1), slots + (0 + 6), q2, hwt, X0.same.trans (hsame.setVm s.vm), ⟨fun i hi => ?_, fun z hz => ?_, ?_, ?_⟩, ⟨?_, ?_⟩, ⟨k, ce, q5, by rw [q6]; rfl, ?_, hq⟩⟩
  · have hi' : i < fx_m S := hi
    have h := hH.1 i hi'
    exact h.kept (by rw [hold2 _ (by rw [hTsz]; show fx_B G + i < _; omega), hT])
  · rw [hold2 z (by rw [hTsz]; omega), hT]; exact hH.2.1 z hz
  · show t.heap.size = fx_B G + fx_m S + (fx_x S + 1)
    omega
  · rw [List.append_nil]; exact hH.2.2.2
  · show cells + (0 + 1) + (2000 - (fx_m S + (fx_x S + 1))) ≤ R.cells
    omega
  · show slots + (0 + 6) + (20000 - (fx_k S + 6)) ≤ R.slots
    omega
  · rw [hX, ← q7]
    exact (hWT.alike.findClass _ _).symm
