/-! ends, calls, new cells, copying, over fx_Go -/
/-- the words of a method that is called: its code, its name is a plain one, so many arguments beside the receiver -/
def fx_mw (M : fx_M) (na : Nat) : Prop := ((M.2.2.2.2 = [] ∧ Cond.code M.1 M.2.1 M.2.2.1 M.2.2.2.1 ∈ lw_tbl) ∨ Cond.codeWith M.1 M.2.1 M.2.2.1 M.2.2.2.1 M.2.2.2.2 ∈ lw_tbl) ∧ (M.1.cls ≠ "java/lang/invoke/MethodHandle" ∧ M.1.cls ≠ "java/lang/invoke/VarHandle") ∧ plainName M.1.cls = true ∧ (parseMethodDescriptor M.1.desc).map (fun q => q.parameters.length) = some na
theorem fx_mw.at {M : fx_M} {na : Nat} (h : fx_mw M na) {G : fx_G} (hG : fx_ok G) {U : State} (hW : G.1.WarmedH U.vm) : ∃ mk methk ck, U.methodNamed? M.1 = some mk ∧ U.vm.method? mk = some methk ∧ methk.code = some ck ∧ ck.code = M.2.1 ∧ ck.maxLocals = M.2.2.1 ∧ methk.sig.returnType = M.2.2.2.1 ∧ methk.locks = false ∧
    ck.exceptionTable.toList.map (fun h => (h.startPc, h.endPc, h.handlerPc, h.catchType)) = M.2.2.2.2 ∧ parseMethodDescriptor M.1.desc = some methk.sig := by
  rcases h.1 with ⟨he, hw⟩ | hw
  · have hc : (Cond.code M.1 M.2.1 M.2.2.1 M.2.2.2.1).before #[] U = true := word_at hW (Or.inl rfl) (hG.1 _ hw)
    obtain ⟨mk, hn⟩ := Cond.code_named hc
    obtain ⟨methk, ck, h1, h2, h3, h4, h5, h6, h7, h8⟩ := Cond.code_spec hn hc
    refine ⟨mk, methk, ck, hn, h1, h2, h3, h4, h5, h6, ?_, h8⟩
    have h0 : ck.exceptionTable.size = 0 := by simpa [Array.isEmpty] using h7
    have h1 : ck.exceptionTable.toList = [] := List.eq_nil_of_length_eq_zero (by simpa using h0)
    rw [h1, he]
    rfl
  · have hc : (Cond.codeWith M.1 M.2.1 M.2.2.1 M.2.2.2.1 M.2.2.2.2).before #[] U = true := word_at hW (Or.inl rfl) (hG.1 _ hw)
    obtain ⟨mk, methk, ck, h0, h1, h2, h3, h4, h5, h6, h7, h8⟩ := Cond.codeWith_spec hc
    exact ⟨mk, methk, ck, h0, h1, h2, h3, h4, h6, h7, h5, h8⟩
theorem fx_cats (vs : List Value) : (vs.map fun v => v.category).sum ≤ 2 * vs.length := by
  induction vs with
  | nil => simp
  | cons v t ih =>
    have h : v.category ≤ 2 := by rcases lv_cat v with h | h <;> omega
    simp only [List.map_cons, List.sum_cons, List.length_cons]
    omega
def fx_qi (F : Int32 → fx_S → Prop) (Q : fx_R → fx_S → Prop) : fx_R → fx_S → Prop := fun o S => match o with
  | .inl (some (.int r)) => F r S
  | .inr k => Q (.inr k) S
  | _ => False
def fx_qv (F : fx_S → Prop) (Q : fx_R → fx_S → Prop) : fx_R → fx_S → Prop := fun o S => match o with
  | .inl none => F S
  | .inr k => Q (.inr k) S
  | _ => False
section FXK
variable {G : fx_G} {d : Nat × Nat} {M : fx_M} {pc n : Nat} {L : List (Nat × Value)} {st : List Value} {S : fx_S} {Q : fx_R → fx_S → Prop}
theorem fx_mono {d' : Nat × Nat} (h : d.1 ≤ d'.1) (h0 : d.2 ≤ d'.2) (k : fx_Go G d M pc L st S Q) : fx_Go G d' M pc L st S Q := by
  intro p l e R s m args below meth c H locs cells slots ls hC hH hB hl
  obtain ⟨h1, h2, ⟨h3, h4⟩, h5⟩ := hC
  exact k p l e R s m args below meth c H locs cells slots ls ⟨h1, h2, ⟨by omega, by omega⟩, h5⟩ hH hB hl
/-- out of the kit's end of a method -/
theorem fx_end {p : Program} {l : Launch} {e : Env} {R : Room} {s : State} {m : MethodId} {args : Array Value} {below : List Frame} {meth : Method} {c : Code} {H : Heap} {locs : List Loc} {cells slots : Nat} {g : JFrame} {v : Option Value}
    (hH : fx_H G S H locs) (hB : fx_L S R cells slots) (hq : Q (.inl v) S) (k : W p l e R s m args below meth c H locs cells slots (MQ below (fun _ _ o t => o = .returned v ∧ t.heap = H) args s cells slots (fun q => fx_B G ≤ q)) g) :
    W p l e R s m args below meth c H locs cells slots (fx_E G R s below Q) g := by
  refine fx_wmono (fun t ht => ?_) k
  obtain ⟨o, h1, h2, ⟨rfl, h3⟩, L1, ⟨-, h4, h5⟩, h6⟩ := ht
  exact ⟨h1, .returned v, S, L1, cells, slots, h2, h4, h5, ⟨by rw [h3]; exact hH.1, by rw [h3]; exact hH.2.1, by rw [h3]; exact hH.2.2.1, h6⟩, hB, hq⟩
theorem fx_iret {v : Int32} (hd : decode M.2.1 pc = .ok (.ireturn, 1)) (hr : M.2.2.2.1 = some .int) (hq : Q (.inl (some (.int v))) S) : fx_Go G d M pc L [.int v] S Q := by
  intro p l e R s m args below meth c H locs cells slots ls hC hH hB hl
  have hlk := hC.lk
  exact fx_end hH hB hq (W.iret hC.x hC.cc (hC.ret.trans hr) (fun t ht _ => ⟨rfl, ht⟩) hH.2.2.2 hd)
theorem fx_zret {v : Int32} (hd : decode M.2.1 pc = .ok (.ireturn, 1)) (hr : M.2.2.2.1 = some .boolean) (hnr : narrow .boolean (.int v) = .int v) (hq : Q (.inl (some (.int v))) S) : fx_Go G d M pc L [.int v] S Q := by
  intro p l e R s m args below meth c H locs cells slots ls hC hH hB hl
  have hlk := hC.lk
  exact fx_end hH hB hq (W.zret hC.x hC.cc (hC.ret.trans hr) hnr (fun t ht _ => ⟨rfl, ht⟩) hH.2.2.2 hd)
theorem fx_vret (hd : decode M.2.1 pc = .ok (.return_, 1)) (hr : M.2.2.2.1 = none) (hq : Q (.inl none) S) : fx_Go G d M pc L [] S Q := by
  intro p l e R s m args below meth c H locs cells slots ls hC hH hB hl
  have hlk := hC.lk
  exact fx_end hH hB hq (W.vret hC.x hC.cc (hC.ret.trans hr) (fun t ht _ => ⟨rfl, ht⟩) hH.2.2.2 hd)
/-- a call, where no handler of the caller covers it: the callee's run, and what comes behind -/
theorem fx_core {p : Program} {l : Launch} {e : Env} {R : Room} {s : State} {m : MethodId} {args : Array Value} {below : List Frame} {meth : Method} {c : Code} {H : Heap} {locs : List Loc} {cells slots : Nat} {ls : Array Slot}
    (hC : fx_C G d M p l R s m meth c) (hH : fx_H G S H locs) (hB : fx_L S R cells slots) (hl : lv_has ls M.2.2.1 L) {M' : fx_M} {na : Nat} {d' : Nat × Nat} (hM : fx_mw M' na) {vs rest : List Value} (hvs : (lg_sl vs).length ≤ M'.2.2.1) (hdd : d'.1 + 1 ≤ d.1) (hroom : fx_ct rest + M'.2.2.1 + 11 + d'.2 ≤ d.2)
    {ig : Instr} (hdg : decode M.2.1 pc = .ok (ig, 3)) (hex : ∀ x ∈ M.2.2.2.2, ¬ (x.1 ≤ pc ∧ pc < x.2.1)) {Q' : fx_R → fx_S → Prop} (hgo : fx_Go G d' M' 0 (lv_args 0 vs) [] S Q')
    (hk : ∀ v S', Q' (.inl v) S' → fx_Go G d M (pc + 3) L (v.toList ++ rest) S' Q) (ht : ∀ k S', Q' (.inr k) S' → Q (.inr k) S')
    {T : State} (hT : T.heap = H) (X : Stand p l e R s m args below meth c T locs cells slots) {mk : MethodId} (hn : T.methodNamed? M'.1 = some mk) :
    ∃ t, (∀ acts, Steps p.tables e below (doInvoke e (T.setTop (F0 m pc ls rest)) acts mk vs.toArray).1 t) ∧ fx_E G R s below Q t := by
  have hwT : G.1.WarmedH T.vm := State.WarmedH.trans hC.warm X.warmed
  obtain ⟨mk', methk, ck, n1, n2, n3, n4, n5, n6, n7, n8, -⟩ := hM.at hC.2.2.2 hwT
  cases hn.symm.trans n1
  have hsize : (F0 m pc ls rest).locals.size = c.maxLocals := hl.1.trans hC.ml.symm
  have hpk : T.plainMethod mk := by
    refine State.plainMethod.of_name fun k hk => ?_
    obtain ⟨k', hk', hkn⟩ := className_of_methodNamed hn
    cases hk.symm.trans hk'
    rw [hkn]; exact hM.2.2.1
  obtain ⟨-, -, ⟨hfr, hlo⟩, -⟩ := id hC
  obtain ⟨hB1, hB2⟩ := id hB
  obtain ⟨Y, hin⟩ := X.into (g := F0 m pc ls rest) rfl hsize (by rw [hC.cc]; exact hdg) vs.toArray (R' := { frames := R.frames - 1, cells := R.cells - cells, slots := R.slots - slots, locals := R.locals - (fx_ct rest + M'.2.2.1 + 11) }) n2 n3 n7 hpk (by show R.frames - 1 + 1 ≤ _; omega)
    (by show 2 * 0 + fx_ct rest + (ck.maxLocals + 11) + (R.locals - (fx_ct rest + M'.2.2.1 + 11)) ≤ R.locals; rw [n5]; omega) (by show cells + (R.cells - cells) ≤ _; omega) (by show slots + (R.slots - slots) ≤ _; omega)
  have hC' : fx_C G d' M' p l { frames := R.frames - 1, cells := R.cells - cells, slots := R.slots - slots, locals := R.locals - (fx_ct rest + M'.2.2.1 + 11) } (T.calling (F0 m pc ls rest) mk vs.toArray) mk methk ck :=
    ⟨⟨hC.x, n4, n5, n6, n7, n8⟩, ⟨findClass_of_methodNamed hn, (name_of_methodNamed hn n2).1, hwT, hC.2.1.2.2.2⟩, ⟨by show d'.1 ≤ R.frames - 1; omega, by show d'.2 ≤ R.locals - (fx_ct rest + M'.2.2.1 + 11); omega⟩, hC.2.2.2⟩
  have hl' := lv_entry vs (n := M'.2.2.1) hvs
  generalize hU : ((T.setTop (F0 m pc ls rest)).pushFrame (.java (entryFrame mk vs.toArray ck.maxLocals))) = U at Y hin
  have hUh : U.heap = H := by rw [← hU]; exact hT
  have hW := hgo p l e _ _ mk vs.toArray (.java (F0 m pc ls rest) :: below) methk ck H [] 0 0 _ hC' ⟨hH.1, hH.2.1, hH.2.2.1, fun q h => by cases h⟩ ⟨by show 0 + _ ≤ R.cells - cells; omega, by show 0 + _ ≤ R.slots - slots; omega⟩ hl'
  obtain ⟨t, hst, hrun, o, S', Lc, kc, nc, hend, hwm, hsame, hHt, hLt, hO⟩ := hW U hUh Y
  have hst' : ∀ acts, Steps p.tables e below (doInvoke e (T.setTop (F0 m pc ls rest)) acts mk vs.toArray).1 t := fun acts => by
    rw [hin acts, n5, lg_entry_eq]
    exact Steps.weaken (mid := [.java (F0 m pc ls rest)]) hst
  obtain ⟨hL1, hL2⟩ := hLt
  have hB' : fx_L S' R (cells + kc) (slots + nc) := by
    refine ⟨?_, ?_⟩
    · have h1 : kc + (2000 - (fx_m S' + fx_x S')) ≤ R.cells - cells := hL1
      omega
    · have h1 : nc + (20000 - fx_k S') ≤ R.slots - slots := hL2
      omega
  have hlocs : ∀ q ∈ locs ++ Lc, fx_B G ≤ q.base := fun q hq => by
    rcases List.mem_append.mp hq with h | h
    · exact hH.2.2.2 q h
    · exact hHt.2.2.2 q h
  cases o with
  | returned v =>
    obtain ⟨T', X', -, -, htT⟩ := X.outOf (g := F0 m pc ls rest) rfl (by rw [hC.cc]; exact hdg) hend hwm hsame
    have hheap : t.heap = T'.heap := by rw [htT]; rfl
    rw [hheap] at hHt
    obtain ⟨t2, s2, e2⟩ := hk v S' hO p l e R s m args below meth c T'.heap (locs ++ Lc) (cells + kc) (slots + nc) ls hC ⟨hHt.1, hHt.2.1, hHt.2.2.1, hlocs⟩ hB' hl T' rfl X'
    exact ⟨t2, fun acts => (hst' acts).trans (by rw [htT]; exact s2), e2⟩
  | threw x =>
    obtain ⟨T', X', -, -, htT⟩ := X.outOfThrown (g := F0 m pc ls rest) rfl hend hwm hsame
    have hheap : t.heap = T'.heap := by rw [htT]; rfl
    obtain ⟨k, cell, o1, o2, o3, o4⟩ := hO
    rw [hheap] at hHt o1
    obtain ⟨hw, hr, he, hwm2, hsm2⟩ := X'.leaveThrown x (g := F0 m pc ls rest) rfl rfl rfl (fun y hy => by
      have hmem : (y.startPc, y.endPc, y.handlerPc, y.catchType) ∈ M.2.2.2.2 := by
        rw [← hC.1.2.2.2.2.2]; exact List.mem_map.mpr ⟨y, hy, rfl⟩
      have := hex _ hmem
      simp only [covers]
      simp only [Bool.and_eq_false_iff, decide_eq_false_iff_not]
      by_cases h1 : y.startPc ≤ pc
      · exact Or.inr fun h2 => this ⟨h1, h2⟩
      · exact Or.inl h1) (hlocks := hC.lk)
    exact ⟨T'.setFrames (.throwing x :: below), fun acts => (hst' acts).trans (by rw [htT]; exact hw), hr, .threw x, S', locs ++ Lc, cells + kc, slots + nc, he, hwm2, hsm2, ⟨hHt.1, hHt.2.1, hHt.2.2.1, hlocs⟩, hB', ⟨k, cell, o1, o2, o3, ht k S' o4⟩⟩
end FXK
