/-- the handler that takes what is thrown, by the words -/
def fx_hd (M : fx_M) (pc k h : Nat) : Prop := ∃ (pre : List (Nat × Nat × Nat × Nat)) (x : Nat × Nat × Nat × Nat) (post : List (Nat × Nat × Nat × Nat)), M.2.2.2.2 = pre ++ x :: post ∧ (x.1 ≤ pc ∧ pc < x.2.1) ∧ x.2.2.1 = h ∧ x.2.2.2 ≠ 0 ∧ Cond.classLink M.1.cls x.2.2.2 (fx_ex k) ∈ lw_tbl ∧ Cond.castable (fx_ex k) (fx_ex k) ∈ lw_tbl ∧
  ∀ y ∈ pre, (y.1 ≤ pc ∧ pc < y.2.1) ∧ y.2.2.2 ≠ 0 ∧ ∃ nm, Cond.classLink M.1.cls y.2.2.2 nm ∈ lw_tbl ∧ Cond.not (.castable (fx_ex k) nm) ∈ flatC (Jvm.Cond.and given_1 narrow_1)
theorem fx_hd.at {M : fx_M} {pc k h : Nat} (hh : fx_hd M pc k h) {G : fx_G} {d : Nat × Nat} {p : Program} {l : Launch} {R : Room} {s : State} {m : MethodId} {meth : Method} {c : Code} {e : Env} (hC : fx_C G d M p l R s m meth c) (had : l.admits e) {cX : ClassId} (hX : G.1.vm.findClass (fx_ex k) = some cX) :
    ∃ (pre : List ExceptionTableEntry) (z : ExceptionTableEntry) (post : List ExceptionTableEntry), c.exceptionTable.toList = pre ++ z :: post ∧ fx_take e s m.cls pc cX z ∧ (∀ y ∈ pre, fx_pass e s m.cls pc cX y) ∧ z.handlerPc = h := by
  obtain ⟨pre, x, post, h1, h2, h3, h4, h5, h6, h7⟩ := hh
  have hpl : e.platform.magicAccessors = ({} : Platform).magicAccessors := by rw [had.platform]
  have hal := hC.warm.alike
  have hmap := hC.1.2.2.2.2.2
  rw [h1] at hmap
  obtain ⟨l1, l2, e1, e2, e3⟩ := List.map_eq_append_iff.mp hmap
  obtain ⟨z, l3, e4, e5, e6⟩ := List.map_eq_cons_iff.mp e3
  have hsX : s.vm.findClass (fx_ex k) = some cX := by rw [hal.findClass]; exact hX
  refine ⟨l1, z, l3, by rw [e1, e4], ?_, fun y hy => ?_, ?_⟩
  · obtain ⟨cY, g1, g2⟩ := Cond.classLink_spec hC.own (hC.w h5 (Or.inl rfl) #[]) e.platform hpl
    cases hsX.symm.trans g1
    obtain ⟨c3, c4, k3, k4, k5⟩ := Cond.castable_spec (hC.2.2.2.1 _ h6)
    cases hX.symm.trans k3
    cases hX.symm.trans k4
    rw [← e5] at h2 h4 g2
    exact ⟨by simp only [covers, Bool.and_eq_true, decide_eq_true_eq]; exact h2, h4, cX, g2, by rw [hal.assignable]; exact k5⟩
  · have hy' : (y.startPc, y.endPc, y.handlerPc, y.catchType) ∈ pre := by rw [← e2]; exact List.mem_map.mpr ⟨y, hy, rfl⟩
    obtain ⟨q1, q2, nm, q3, q4⟩ := h7 _ hy'
    obtain ⟨cY, g1, g2⟩ := Cond.classLink_spec hC.own (hC.w q3 (Or.inl rfl) #[]) e.platform hpl
    have hgY : G.1.vm.findClass nm = some cY := by rw [← hal.findClass]; exact g1
    have hv := Cond.holds_not_iff.mp (flat_of_before _ hC.2.2.2.2.2 _ q4)
    simp only [Cond.value, hX, hgY] at hv
    exact Or.inr ⟨by simp only [covers, Bool.and_eq_true, decide_eq_true_eq]; exact q1, q2, cY, g2, by rw [hal.assignable]; exact Option.some.inj hv⟩
  · rw [← h3, ← e5]
section FXH
variable {G : fx_G} {d : Nat × Nat} {M : fx_M} {pc n : Nat} {L : List (Nat × Value)} {st : List Value} {S : fx_S} {Q : fx_R → fx_S → Prop}
/-- a call that a handler of the caller covers -/
theorem fx_coreH {p : Program} {l : Launch} {e : Env} {R : Room} {s : State} {m : MethodId} {args : Array Value} {below : List Frame} {meth : Method} {c : Code} {H : Heap} {locs : List Loc} {cells slots : Nat} {ls : Array Slot}
    (hC : fx_C G d M p l R s m meth c) (hH : fx_H G S H locs) (hB : fx_L S R cells slots) (hl : lv_has ls M.2.2.1 L) {M' : fx_M} {na : Nat} {d' : Nat × Nat} (hM : fx_mw M' na) {vs rest : List Value} (hvs : (lg_sl vs).length ≤ M'.2.2.1) (hdd : d'.1 + 1 ≤ d.1) (hroom : fx_ct rest + M'.2.2.1 + 11 + d'.2 ≤ d.2)
    {ig : Instr} (hdg : decode M.2.1 pc = .ok (ig, 3)) {Q' : fx_R → fx_S → Prop} (hgo : fx_Go G d' M' 0 (lv_args 0 vs) [] S Q')
    (hk : ∀ v S', Q' (.inl v) S' → fx_Go G d M (pc + 3) L (v.toList ++ rest) S' Q) (ht : ∀ k S', Q' (.inr k) S' → ∃ h, fx_hd M pc k h ∧ ∀ xa : Nat, fx_Go G d M h L [.ref xa] S' Q)
    {T : State} (hT : T.heap = H) (X : Stand p l e R s m args below meth c T locs cells slots) {mk : MethodId} (hn : T.methodNamed? M'.1 = some mk) :
    ∃ t, (∀ acts, Steps p.tables e below (doInvoke e (T.setTop (F0 m pc ls rest)) acts mk vs.toArray).1 t) ∧ fx_E G R s below Q t := by
  have hwT : G.1.WarmedH T.vm := State.WarmedH.trans hC.warm X.warmed
  obtain ⟨mk', methk, ck, n1, n2, n3, n4, n5, n6, n7, n8, -⟩ := hM.at hC.2.2.2 hwT
  cases hn.symm.trans n1
  have hsize : (F0 m pc ls rest).locals.size = c.maxLocals := hl.1.trans hC.ml.symm
  have hpk : T.plainMethod mk := by
    refine State.plainMethod.of_name fun k hk => ?_
    obtain ⟨k', hk', hkn⟩ := className_of_methodNamed hn
    cases hk.symm.trans hk'
    rw [hkn]; exact hM.2.2.1
  obtain ⟨-, -, ⟨hfr, hlo⟩, -⟩ := id hC
  obtain ⟨hB1, hB2⟩ := id hB
  obtain ⟨Y, hin⟩ := X.into (g := F0 m pc ls rest) rfl hsize (by rw [hC.cc]; exact hdg) vs.toArray (R' := { frames := R.frames - 1, cells := R.cells - cells, slots := R.slots - slots, locals := R.locals - (fx_ct rest + M'.2.2.1 + 11) }) n2 n3 n7 hpk (by show R.frames - 1 + 1 ≤ _; omega)
    (by show 2 * 0 + fx_ct rest + (ck.maxLocals + 11) + (R.locals - (fx_ct rest + M'.2.2.1 + 11)) ≤ R.locals; rw [n5]; omega) (by show cells + (R.cells - cells) ≤ _; omega) (by show slots + (R.slots - slots) ≤ _; omega)
  have hC' : fx_C G d' M' p l { frames := R.frames - 1, cells := R.cells - cells, slots := R.slots - slots, locals := R.locals - (fx_ct rest + M'.2.2.1 + 11) } (T.calling (F0 m pc ls rest) mk vs.toArray) mk methk ck :=
    ⟨⟨hC.x, n4, n5, n6, n7, n8⟩, ⟨findClass_of_methodNamed hn, (name_of_methodNamed hn n2).1, hwT, hC.2.1.2.2.2⟩, ⟨by show d'.1 ≤ R.frames - 1; omega, by show d'.2 ≤ R.locals - (fx_ct rest + M'.2.2.1 + 11); omega⟩, hC.2.2.2⟩
  have hl' := lv_entry vs (n := M'.2.2.1) hvs
  generalize hU : ((T.setTop (F0 m pc ls rest)).pushFrame (.java (entryFrame mk vs.toArray ck.maxLocals))) = U at Y hin
  have hUh : U.heap = H := by rw [← hU]; exact hT
  have hW := hgo p l e _ _ mk vs.toArray (.java (F0 m pc ls rest) :: below) methk ck H [] 0 0 _ hC' ⟨hH.1, hH.2.1, hH.2.2.1, fun q h => by cases h⟩ ⟨by show 0 + _ ≤ R.cells - cells; omega, by show 0 + _ ≤ R.slots - slots; omega⟩ hl'
  obtain ⟨t, hst, hrun, o, S', Lc, kc, nc, hend, hwm, hsame, hHt, hLt, hO⟩ := hW U hUh Y
  have hst' : ∀ acts, Steps p.tables e below (doInvoke e (T.setTop (F0 m pc ls rest)) acts mk vs.toArray).1 t := fun acts => by
    rw [hin acts, n5, lg_entry_eq]
    exact Steps.weaken (mid := [.java (F0 m pc ls rest)]) hst
  obtain ⟨hL1, hL2⟩ := hLt
  have hB' : fx_L S' R (cells + kc) (slots + nc) := by
    refine ⟨?_, ?_⟩
    · have h1 : kc + (2000 - (fx_m S' + fx_x S')) ≤ R.cells - cells := hL1
      omega
    · have h1 : nc + (20000 - fx_k S') ≤ R.slots - slots := hL2
      omega
  have hlocs : ∀ q ∈ locs ++ Lc, fx_B G ≤ q.base := fun q hq => by
    rcases List.mem_append.mp hq with h | h
    · exact hH.2.2.2 q h
    · exact hHt.2.2.2 q h
  cases o with
  | returned v =>
    obtain ⟨T', X', -, -, htT⟩ := X.outOf (g := F0 m pc ls rest) rfl (by rw [hC.cc]; exact hdg) hend hwm hsame
    have hheap : t.heap = T'.heap := by rw [htT]; rfl
    rw [hheap] at hHt
    obtain ⟨t2, s2, e2⟩ := hk v S' hO p l e R s m args below meth c T'.heap (locs ++ Lc) (cells + kc) (slots + nc) ls hC ⟨hHt.1, hHt.2.1, hHt.2.2.1, hlocs⟩ hB' hl T' rfl X'
    exact ⟨t2, fun acts => (hst' acts).trans (by rw [htT]; exact s2), e2⟩
  | threw x =>
    obtain ⟨T', X', -, -, htT⟩ := X.outOfThrown (g := F0 m pc ls rest) rfl hend hwm hsame
    have hheap : t.heap = T'.heap := by rw [htT]; rfl
    obtain ⟨k, cell, o1, o2, o3, o4⟩ := hO
    rw [hheap] at hHt o1
    obtain ⟨h, hhd, hgo2⟩ := ht k S' o4
    obtain ⟨pre, z, post, hsp, hx, hp, hzh⟩ := fx_hd.at hhd hC X'.admits o3
    obtain ⟨kE, hkE⟩ := Vm.classAt_of_findClass o3
    obtain ⟨kE', hkE', -⟩ := hC.warm.alike.2.2 _ _ hkE
    obtain ⟨vm', X2, hst2⟩ := fx_caught X' (a := x) (g := F0 m pc ls rest) rfl o1 o2 ⟨kE', hkE'⟩ hsp hx hp
    obtain ⟨t2, s2, e2⟩ := hgo2 x p l e R s m args below meth c T'.heap (locs ++ Lc) (cells + kc) (slots + nc) ls hC ⟨hHt.1, hHt.2.1, hHt.2.2.1, hlocs⟩ hB' hl (T'.setVm vm') rfl X2
    exact ⟨t2, fun acts => (hst' acts).trans (by rw [htT]; refine hst2 t2 ?_; rw [hzh]; exact s2), e2⟩
variable {M' : fx_M} {na index : Nat} {d' : Nat × Nat} {vs rest : List Value} {L0 : List (Nat × Value)} {Q' : fx_R → fx_S → Prop}
theorem fx_callVH {a c : Nat} {q : vw_C} (hd : decode M.2.1 pc = .ok (.invokevirtual index, 3)) (hM : fx_mw M' na) (hw : Cond.methodLink M.1.cls index M'.1 ∈ lw_tbl ∧ Cond.instanceMethod M'.1 ∈ lw_tbl ∧ Cond.selects q.1 M'.1 M'.1 ∈ lw_tbl) (hq : vwCl[c]? = some q) (hc : c < 100) (ha : a < fx_m S) (hka : fx_kd S a = c)
    (hna : vs.length = na) (hs : st = vs.reverse ++ fx_r G a :: rest) (hp : (lg_sl (fx_r G a :: vs)).length ≤ M'.2.2.1 ∧ d'.1 + 1 ≤ d.1 ∧ fx_ct rest + M'.2.2.1 + 11 + d'.2 ≤ d.2 ∧ lv_args 0 (fx_r G a :: vs) = L0)
    (hn : pc + 3 = n) (hgo : fx_Go G d' M' 0 L0 [] S Q') (hk : ∀ v S', Q' (.inl v) S' → fx_Go G d M n L (v.toList ++ rest) S' Q) (ht : ∀ k S', Q' (.inr k) S' → ∃ h, fx_hd M pc k h ∧ ∀ xa : Nat, fx_Go G d M h L [.ref xa] S' Q) : fx_Go G d M pc L st S Q := by
  obtain ⟨hvs, hdd, hroom, rfl⟩ := hp
  subst hs
  subst hn
  intro p l e R s m args below meth c0 H locs cells slots ls hC hH hB hl T hT X
  obtain ⟨mk, methk, ck, n1, n2, n3, n4, n5, n6, n7, n8, n9⟩ := hM.at hC.2.2.2 hC.warm
  obtain ⟨mk2, meth2, m1, m2, hst, hab⟩ := Cond.instanceMethod_spec (hC.w hw.2.1 (Or.inl rfl) args)
  cases n1.symm.trans m1
  cases n2.symm.trans m2
  obtain ⟨cellB, hcB, hoB, hclB⟩ := fx_recv hH hC.K hc ha hka hq
  obtain ⟨c2, r2, m3, q1, q2, q3, q4, kP, hkP, hkPi⟩ := Cond.selects_spec (hC.w hw.2.2 (Or.inl rfl) args)
  cases hclB.symm.trans q1
  cases (State.methodFound?_of_named n1 hM.2.1).symm.trans q2
  cases n1.symm.trans q3
  have hselP : selectMethod e.platform s.vm cellB.cls mk = .method mk := by rw [Launch.admits_selectMethod X.admits]; exact q4
  obtain ⟨vm₁, X₁, hstep₁⟩ := X.invokevirtual hC.x hC.own (hC.w hw.1 (Or.inl rfl) args) n1 n2 hst hkP hkPi hM.2.1 (a := fx_B G + a) (cell := cellB) (by rw [hT]; exact hcB) (fun z h => by rw [h] at hoB; cases hoB) hselP n2 hab hkP hkPi (g := F0 m pc ls (vs.reverse ++ fx_r G a :: rest)) rfl (argsL := vs) (rest := rest) (hna.trans (hM.len n9)) rfl (by rw [hC.cc]; exact hd)
  obtain ⟨t, h1, h2⟩ := fx_coreH hC hH hB hl hM hvs hdd hroom hd hgo hk ht (T := T.setVm vm₁) hT X₁ (X₁.named n1)
  exact ⟨t, hstep₁ t h1, h2⟩
end FXH
