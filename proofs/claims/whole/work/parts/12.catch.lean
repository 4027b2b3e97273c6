/-! catching: the search through a table whose catch types may not be linked yet -/
/-- the rows of the table that stand before the catching one let the thrown class pass; the catching one takes it -/
def fx_pass (e : Env) (s : State) (d : ClassId) (pc : Nat) (cX : ClassId) (y : ExceptionTableEntry) : Prop := covers y pc = false ∨ (covers y pc = true ∧ y.catchType ≠ 0 ∧ ∃ cY, s.vm.ClassLinks e.platform d y.catchType cY ∧ s.vm.assignable cX cY = false)
def fx_take (e : Env) (s : State) (d : ClassId) (pc : Nat) (cX : ClassId) (y : ExceptionTableEntry) : Prop := covers y pc = true ∧ y.catchType ≠ 0 ∧ ∃ cY, s.vm.ClassLinks e.platform d y.catchType cY ∧ s.vm.assignable cX cY = true
theorem fx_hrow {e : Env} {s S : State} {f : JFrame} {a : Addr} {cell : Cell} {y : ExceptionTableEntry} {cY : ClassId} (hW : s.WarmedH S.vm) (hcell : S.heap[a]? = some cell) (hobj : cell.vm.isStatics = false) (hk : ∃ k, s.vm.classes[cell.cls]? = some k)
    (hx : covers y f.pc = true) (h0 : y.catchType ≠ 0) (hl : s.vm.ClassLinks e.platform f.method.cls y.catchType cY) (t : List ExceptionTableEntry) :
    ∃ vm', s.WarmedH vm' ∧ ∀ (Q : Handler → Pre) (E : CtlPost) (d : Bool) (acts : List Action),
      wp (findHandler.go f a (y :: t)) Q E e d acts S ↔ if s.vm.assignable cell.cls cY = true then Q (.found y.handlerPc) d acts (S.setVm vm') else wp (findHandler.go f a t) Q E e d acts (S.setVm vm') := by
  obtain ⟨dk, _, _, kt, hd, _, _, _, _, hkt, _, hopen⟩ := hl.here
  have hW' : s.WarmedH (S.vm.noted f.method.cls y.catchType (.cls cY)) := hW.noted hd hopen (State.rightAt_cls hl)
  refine ⟨_, hW', fun Q E d acts => ?_⟩
  obtain ⟨ha, ht⟩ := (resolveClass_links e.toSetting (hW.classLinks hl)).op (op := VmOp.resolveClass f.method.cls y.catchType) rfl
  obtain ⟨k1, hk1⟩ := hk
  obtain ⟨k1', hk1', -⟩ := hW'.alike.2.2 _ _ hk1
  obtain ⟨k2', hk2', -⟩ := hW'.alike.2.2 _ _ hkt
  have hobj' := VmData.ne_statics_of hobj
  have hfit : (S.vm.noted f.method.cls y.catchType (.cls cY)).assignable cell.cls cY = s.vm.assignable cell.cls cY := by rw [hW'.alike.assignable]
  simp only [covers] at hx
  cases hs : s.vm.assignable cell.cls cY with
  | true =>
    rw [hs] at hfit
    simp [findHandler.go, hx, h0, ha, ht, hcell, hobj', hk1', hk2', hfit, VmOp.dirties, VmOp.acts]
  | false =>
    rw [hs] at hfit
    simp [findHandler.go, hx, h0, ha, ht, hcell, hobj', hk1', hk2', hfit, VmOp.dirties, VmOp.acts]
theorem fx_search {e : Env} {s : State} {f : JFrame} {a : Addr} {cell : Cell} (hobj : cell.vm.isStatics = false) (hk : ∃ k, s.vm.classes[cell.cls]? = some k) (x : ExceptionTableEntry) (post : List ExceptionTableEntry) (hx : fx_take e s f.method.cls f.pc cell.cls x) :
    ∀ (pre : List ExceptionTableEntry) (S : State), s.WarmedH S.vm → S.heap[a]? = some cell → (∀ y ∈ pre, fx_pass e s f.method.cls f.pc cell.cls y) →
      ∃ vm', s.WarmedH vm' ∧ ∀ (Q : Handler → Pre) (E : CtlPost) (d : Bool) (acts : List Action), wp (findHandler.go f a (pre ++ x :: post)) Q E e d acts S ↔ Q (.found x.handlerPc) d acts (S.setVm vm') := by
  intro pre
  induction pre with
  | nil =>
    intro S hW hcell _
    obtain ⟨h1, h2, cY, h3, h4⟩ := hx
    obtain ⟨vm', g1, g2⟩ := fx_hrow (f := f) (a := a) hW hcell hobj hk h1 h2 h3 post
    exact ⟨vm', g1, fun Q E d acts => (g2 Q E d acts).trans (by rw [if_pos h4])⟩
  | cons y ys ih =>
    intro S hW hcell hp
    have hp' : ∀ z ∈ ys, fx_pass e s f.method.cls f.pc cell.cls z := fun z hz => hp z (List.mem_cons_of_mem _ hz)
    rcases hp y List.mem_cons_self with h | ⟨h1, h2, cY, h3, h4⟩
    · obtain ⟨vm', g1, g2⟩ := ih S hW hcell hp'
      exact ⟨vm', g1, fun Q E d acts => (W.findHandler_go_skip h).trans (g2 Q E d acts)⟩
    · obtain ⟨vm1, g1, g2⟩ := fx_hrow (f := f) (a := a) hW hcell hobj hk h1 h2 h3 (ys ++ x :: post)
      obtain ⟨vm', k1, k2⟩ := ih (S.setVm vm1) g1 hcell hp'
      exact ⟨vm', k1, fun Q E d acts => (g2 Q E d acts).trans (by rw [if_neg (by rw [h4]; decide)]; exact k2 Q E d acts)⟩
theorem fx_caught {p : Program} {l : Launch} {e : Env} {R : Room} {s : State} {m : MethodId} {args : Array Value} {below : List Frame} {meth : Method} {c : Code} {T : State} {locs : List Loc} {cells slots : Nat}
    (X : Stand p l e R s m args below meth c T locs cells slots) {a : Addr} {g : JFrame} (hg : g.method = m) {cell : Cell} (hcell : T.heap[a]? = some cell) (hobj : cell.vm.isStatics = false) (hk : ∃ k, s.vm.classes[cell.cls]? = some k)
    {pre post : List ExceptionTableEntry} {x : ExceptionTableEntry} (hsp : c.exceptionTable.toList = pre ++ x :: post) (hx : fx_take e s m.cls g.pc cell.cls x) (hp : ∀ y ∈ pre, fx_pass e s m.cls g.pc cell.cls y) :
    ∃ vm', Stand p l e R s m args below meth c (T.setVm vm') locs cells slots ∧
      ∀ target, Steps p.tables e below ((T.setVm vm').setTop { g with pc := x.handlerPc, stack := [.ref a] }) target → Steps p.tables e below ((T.setTop g).pushFrame (.throwing a)) target := by
  subst hg
  obtain ⟨vm', h1, h2⟩ := fx_search (f := g) (a := a) hobj hk x post hx pre ((T.setTop g).pushFrame (.throwing a)) X.warmed hcell hp
  refine ⟨vm', X.noted h1, fun target hrest => ?_⟩
  obtain ⟨hgo, hw⟩ := X.here.throwing a
  refine Steps.head hgo hw ?_
  have hfind : ∀ (Q : Handler → Pre) (E : CtlPost) (d : Bool) (acts : List Action), wp (findHandler g a) Q E e d acts ((T.setTop g).pushFrame (.throwing a)) ↔ Q (.found x.handlerPc) d acts (((T.setTop g).pushFrame (.throwing a)).setVm vm') := fun Q E d acts => by
    rw [W.findHandler_eq (s := (T.setTop g).pushFrame (.throwing a)) (meth := meth) (code := c) X.method' X.code, hsp]
    exact h2 Q E d acts
  have hstep : (stepThrowing e ((T.setTop g).pushFrame (.throwing a)) a (.java g :: T.frames.tail)).Is ((((T.setTop g).pushFrame (.throwing a)).setVm vm').setFrames (.java { g with pc := x.handlerPc, stack := [.ref a] } :: T.frames.tail)) [] := by
    simp only [stepThrowing, searchFrame, vmDo]
    generalize hr : Sem.go _ e false [] ((T.setTop g).pushFrame (.throwing a)) = res
    obtain ⟨as, rfl, ha⟩ := Sem.eq_ok_of hr (a := Handler.found x.handlerPc) (s' := ((T.setTop g).pushFrame (.throwing a)).setVm vm') (acts' := []) (by simp [hfind _ _ _ _])
    exact ⟨rfl, ha⟩
  rw [stepThread_throwing (frames_entered X.here.top _), hstep.1]
  obtain ⟨g₀, hr⟩ := X.frames_eq
  have hr' : (T.setVm vm').frames = .java g₀ :: below := hr
  rw [State.setTop_of_frames _ hr'] at hrest
  have e1 : (((T.setTop g).pushFrame (.throwing a)).setVm vm').setFrames (.java { g with pc := x.handlerPc, stack := [.ref a] } :: T.frames.tail) = (T.setVm vm').setFrames (.java { g with pc := x.handlerPc, stack := [.ref a] } :: below) := by
    rw [X.tail, State.pushFrame, State.setTop_of_frames _ hr, State.setFrames_setFrames]
    show ((T.setVm vm').setFrames _).setFrames _ = _
    rw [State.setFrames_setFrames]
  rw [e1]
  exact hrest
