section FXI
variable {G : fx_G} {d : Nat × Nat} {M : fx_M} {pc n : Nat} {L : List (Nat × Value)} {st : List Value} {S : fx_S} {Q : fx_R → fx_S → Prop}
variable {M' : fx_M} {na index : Nat} {d' : Nat × Nat} {vs rest : List Value} {L0 : List (Nat × Value)} {Q' : fx_R → fx_S → Prop}
def fx_cp (d d' : Nat × Nat) (pc : Nat) (M M' : fx_M) (vs rest : List Value) (L0 : List (Nat × Value)) : Prop := (lg_sl vs).length ≤ M'.2.2.1 ∧ d'.1 + 1 ≤ d.1 ∧ fx_ct rest + M'.2.2.1 + 11 + d'.2 ≤ d.2 ∧ (∀ x ∈ M.2.2.2.2, ¬ (x.1 ≤ pc ∧ pc < x.2.1)) ∧ lv_args 0 vs = L0
theorem fx_mw.len {M : fx_M} {na : Nat} (h : fx_mw M na) {sig : MethodDescriptor} (hs : parseMethodDescriptor M.1.desc = some sig) : na = sig.parameters.length := by
  have h2 := h.2.2.2
  rw [hs] at h2
  exact (Option.some.inj h2).symm
/-- static, not of a nest mate's private ones -/
theorem fx_callS (hd : decode M.2.1 pc = .ok (.invokestatic index, 3)) (hM : fx_mw M' na) (hw : Cond.methodLink M.1.cls index M'.1 ∈ lw_tbl ∧ Cond.static M'.1 ∈ lw_tbl ∧ Cond.initialized M'.1.cls ∈ lw_tbl) (hna : vs.length = na) (hs : st = vs.reverse ++ rest) (hp : fx_cp d d' pc M M' vs rest L0)
    (hn : pc + 3 = n) (hgo : fx_Go G d' M' 0 L0 [] S Q') (hk : ∀ v S', Q' (.inl v) S' → fx_Go G d M n L (v.toList ++ rest) S' Q) (ht : ∀ k S', Q' (.inr k) S' → Q (.inr k) S') : fx_Go G d M pc L st S Q := by
  obtain ⟨hvs, hdd, hroom, hex, rfl⟩ := hp
  subst hs
  subst hn
  intro p l e R s m args below meth c H locs cells slots ls hC hH hB hl T hT X
  obtain ⟨mk, methk, ck, n1, n2, n3, n4, n5, n6, n7, n8, n9⟩ := hM.at hC.2.2.2 hC.warm
  have hstat : methk.isStatic = true := Cond.static_spec n1 n2 (hC.w hw.2.1 (Or.inl rfl) args)
  obtain ⟨kP, hkP, -⟩ := className_of_methodNamed n1
  have hinitP : kP.init = .initialized := Cond.initialized_spec (findClass_of_methodNamed n1) hkP (hC.w hw.2.2 (Or.inl rfl) args)
  obtain ⟨vm₁, X₁, hstep₁⟩ := X.invokestatic hC.x hC.own (hC.w hw.1 (Or.inl rfl) args) n1 n2 hstat hkP hinitP hM.2.1 (g := F0 m pc ls (vs.reverse ++ rest)) rfl (argsL := vs) (rest := rest) (hna.trans (hM.len n9)) rfl (by rw [hC.cc]; exact hd)
  obtain ⟨t, h1, h2⟩ := fx_core hC hH hB hl hM hvs hdd hroom hd hex hgo hk ht (T := T.setVm vm₁) hT X₁ (X₁.named n1)
  exact ⟨t, hstep₁ t h1, h2⟩
theorem fx_callSN {host : String} (hd : decode M.2.1 pc = .ok (.invokestatic index, 3)) (hM : fx_mw M' na) (hw : Cond.methodLinkNest M.1.cls index M'.1 host ∈ lw_tbl ∧ Cond.static M'.1 ∈ lw_tbl ∧ Cond.initialized M'.1.cls ∈ lw_tbl) (hna : vs.length = na) (hs : st = vs.reverse ++ rest) (hp : fx_cp d d' pc M M' vs rest L0)
    (hn : pc + 3 = n) (hgo : fx_Go G d' M' 0 L0 [] S Q') (hk : ∀ v S', Q' (.inl v) S' → fx_Go G d M n L (v.toList ++ rest) S' Q) (ht : ∀ k S', Q' (.inr k) S' → Q (.inr k) S') : fx_Go G d M pc L st S Q := by
  obtain ⟨hvs, hdd, hroom, hex, rfl⟩ := hp
  subst hs
  subst hn
  intro p l e R s m args below meth c H locs cells slots ls hC hH hB hl T hT X
  obtain ⟨mk, methk, ck, n1, n2, n3, n4, n5, n6, n7, n8, n9⟩ := hM.at hC.2.2.2 hC.warm
  have hstat : methk.isStatic = true := Cond.static_spec n1 n2 (hC.w hw.2.1 (Or.inl rfl) args)
  obtain ⟨kP, hkP, -⟩ := className_of_methodNamed n1
  have hinitP : kP.init = .initialized := Cond.initialized_spec (findClass_of_methodNamed n1) hkP (hC.w hw.2.2 (Or.inl rfl) args)
  have hlink : (Cond.methodLinkNest M.1.cls index M'.1 host).before args s = true := va_Nw.use rfl (va_Nw.warmM hC.warm (va_Nw.of rfl (hC.2.2.2.1 _ hw.1)))
  obtain ⟨vm₁, X₁, hstep₁⟩ := X.invokestaticNest hC.x hC.own hlink n1 n2 hstat hkP hinitP hM.2.1 (g := F0 m pc ls (vs.reverse ++ rest)) rfl (argsL := vs) (rest := rest) (hna.trans (hM.len n9)) rfl (by rw [hC.cc]; exact hd)
  obtain ⟨t, h1, h2⟩ := fx_core hC hH hB hl hM hvs hdd hroom hd hex hgo hk ht (T := T.setVm vm₁) hT X₁ (X₁.named n1)
  exact ⟨t, hstep₁ t h1, h2⟩
theorem fx_recv {s : State} {H : Heap} {locs : List Loc} (hH : fx_H G S H locs) {a c : Nat} {q : vw_C} (hK : va_K G.2.2.1 vwCl (fx_tys G.2.2.2) s) (hc : c < 100) (ha : a < fx_m S) (hk : fx_kd S a = c) (hq : vwCl[c]? = some q) : ∃ cell : Cell, H[fx_B G + a]? = some cell ∧ cell.vm.isStatics = false ∧ s.vm.findClass q.1 = some cell.cls := by
  have hat := hH.1 a ha
  rw [fx_ent_obj hk hc] at hat
  obtain ⟨r, h1, cell, q1, q2, q3, -⟩ := hat
  exact ⟨cell, q1, by rw [q3]; rfl, by rw [q2]; exact (hK.1 c q hq).2.1⟩
theorem fx_callV {a c : Nat} {q : vw_C} (hd : decode M.2.1 pc = .ok (.invokevirtual index, 3)) (hM : fx_mw M' na) (hw : Cond.methodLink M.1.cls index M'.1 ∈ lw_tbl ∧ Cond.instanceMethod M'.1 ∈ lw_tbl ∧ Cond.selects q.1 M'.1 M'.1 ∈ lw_tbl) (hq : vwCl[c]? = some q) (hc : c < 100) (ha : a < fx_m S) (hka : fx_kd S a = c)
    (hna : vs.length = na) (hs : st = vs.reverse ++ fx_r G a :: rest) (hp : fx_cp d d' pc M M' (fx_r G a :: vs) rest L0)
    (hn : pc + 3 = n) (hgo : fx_Go G d' M' 0 L0 [] S Q') (hk : ∀ v S', Q' (.inl v) S' → fx_Go G d M n L (v.toList ++ rest) S' Q) (ht : ∀ k S', Q' (.inr k) S' → Q (.inr k) S') : fx_Go G d M pc L st S Q := by
  obtain ⟨hvs, hdd, hroom, hex, rfl⟩ := hp
  subst hs
  subst hn
  intro p l e R s m args below meth c0 H locs cells slots ls hC hH hB hl T hT X
  obtain ⟨mk, methk, ck, n1, n2, n3, n4, n5, n6, n7, n8, n9⟩ := hM.at hC.2.2.2 hC.warm
  obtain ⟨mk2, meth2, m1, m2, hst, hab⟩ := Cond.instanceMethod_spec (hC.w hw.2.1 (Or.inl rfl) args)
  cases n1.symm.trans m1
  cases n2.symm.trans m2
  obtain ⟨cellB, hcB, hoB, hclB⟩ := fx_recv hH hC.K hc ha hka hq
  obtain ⟨c2, r2, m3, q1, q2, q3, q4, kP, hkP, hkPi⟩ := Cond.selects_spec (hC.w hw.2.2 (Or.inl rfl) args)
  cases hclB.symm.trans q1
  cases (State.methodFound?_of_named n1 hM.2.1).symm.trans q2
  cases n1.symm.trans q3
  have hselP : selectMethod e.platform s.vm cellB.cls mk = .method mk := by rw [Launch.admits_selectMethod X.admits]; exact q4
  obtain ⟨vm₁, X₁, hstep₁⟩ := X.invokevirtual hC.x hC.own (hC.w hw.1 (Or.inl rfl) args) n1 n2 hst hkP hkPi hM.2.1 (a := fx_B G + a) (cell := cellB) (by rw [hT]; exact hcB) (fun z h => by rw [h] at hoB; cases hoB) hselP n2 hab hkP hkPi (g := F0 m pc ls (vs.reverse ++ fx_r G a :: rest)) rfl (argsL := vs) (rest := rest) (hna.trans (hM.len n9)) rfl (by rw [hC.cc]; exact hd)
  obtain ⟨t, h1, h2⟩ := fx_core hC hH hB hl hM hvs hdd hroom hd hex hgo hk ht (T := T.setVm vm₁) hT X₁ (X₁.named n1)
  exact ⟨t, hstep₁ t h1, h2⟩
theorem fx_callI {a : Nat} (hd : decode M.2.1 pc = .ok (.invokespecial index, 3)) (hM : fx_mw M' na) (hi : M'.1.name = "<init>" ∧ M'.2.2.2.1 = none ∧ M'.2.2.2.2 = []) (hw : Cond.methodLink M.1.cls index M'.1 ∈ lw_tbl ∧ Cond.instanceMethod M'.1 ∈ lw_tbl ∧ Cond.code M'.1 M'.2.1 M'.2.2.1 none ∈ lw_tbl)
    (hna : vs.length = na) (hs : st = vs.reverse ++ fx_r G a :: rest) (hp : fx_cp d d' pc M M' (fx_r G a :: vs) rest L0)
    (hn : pc + 3 = n) (hgo : fx_Go G d' M' 0 L0 [] S Q') (hk : ∀ v S', Q' (.inl v) S' → fx_Go G d M n L (v.toList ++ rest) S' Q) (ht : ∀ k S', Q' (.inr k) S' → Q (.inr k) S') : fx_Go G d M pc L st S Q := by
  obtain ⟨hvs, hdd, hroom, hex, rfl⟩ := hp
  subst hs
  subst hn
  intro p l e R s m args below meth c0 H locs cells slots ls hC hH hB hl T hT X
  have hpl : e.platform.magicAccessors = ({} : Platform).magicAccessors := by rw [X.admits.platform]
  obtain ⟨mk, methM, cM, kP, vm₁, hnamed, hmethM, hcodeM, -, hlocalsM, -, hkP, -, hW₁, hstep₁⟩ := Steps.initColdArgs (e := e) X.here hC.x X.warmed hpl hC.own hi.1 hM.2.1 (hC.w hw.1 (Or.inl rfl) args) (hC.w hw.2.1 (Or.inl rfl) args) (hC.w hw.2.2 (Or.inl rfl) args) (f := F0 m pc ls (vs.reverse ++ fx_r G a :: rest)) rfl (argsL := vs) (rest := rest) (fun sig hsig => hna.trans (hM.len hsig)) rfl (by rw [hC.cc]; exact hd)
  have X₁ := X.noted hW₁
  obtain ⟨t, h1, h2⟩ := fx_core hC hH hB hl hM hvs hdd hroom hd hex hgo hk ht (T := T.setVm vm₁) hT X₁ (X₁.named hnamed)
  exact ⟨t, hstep₁ t h1, h2⟩
theorem fx_callIN {a : Nat} {host : String} (hd : decode M.2.1 pc = .ok (.invokespecial index, 3)) (hM : fx_mw M' na) (hi : M'.1.name = "<init>" ∧ M'.2.2.2.1 = none ∧ M'.2.2.2.2 = []) (hw : Cond.methodLinkNest M.1.cls index M'.1 host ∈ lw_tbl ∧ Cond.instanceMethod M'.1 ∈ lw_tbl ∧ Cond.code M'.1 M'.2.1 M'.2.2.1 none ∈ lw_tbl)
    (hna : vs.length = na) (hs : st = vs.reverse ++ fx_r G a :: rest) (hp : fx_cp d d' pc M M' (fx_r G a :: vs) rest L0)
    (hn : pc + 3 = n) (hgo : fx_Go G d' M' 0 L0 [] S Q') (hk : ∀ v S', Q' (.inl v) S' → fx_Go G d M n L (v.toList ++ rest) S' Q) (ht : ∀ k S', Q' (.inr k) S' → Q (.inr k) S') : fx_Go G d M pc L st S Q := by
  obtain ⟨hvs, hdd, hroom, hex, rfl⟩ := hp
  subst hs
  subst hn
  intro p l e R s m args below meth c0 H locs cells slots ls hC hH hB hl T hT X
  have hpl : e.platform.magicAccessors = ({} : Platform).magicAccessors := by rw [X.admits.platform]
  have hlink : (Cond.methodLinkNest M.1.cls index M'.1 host).before args s = true := va_Nw.use rfl (va_Nw.warmM hC.warm (va_Nw.of rfl (hC.2.2.2.1 _ hw.1)))
  obtain ⟨mk, methM, cM, kP, vm₁, hnamed, hmethM, hcodeM, -, hlocalsM, -, hkP, -, hW₁, hstep₁⟩ := Steps.initColdArgsNest (e := e) X.here hC.x X.warmed hpl hC.own hi.1 hM.2.1 hlink (hC.w hw.2.1 (Or.inl rfl) args) (hC.w hw.2.2 (Or.inl rfl) args) (f := F0 m pc ls (vs.reverse ++ fx_r G a :: rest)) rfl (argsL := vs) (rest := rest) (fun sig hsig => hna.trans (hM.len hsig)) rfl (by rw [hC.cc]; exact hd)
  have X₁ := X.noted hW₁
  obtain ⟨t, h1, h2⟩ := fx_core hC hH hB hl hM hvs hdd hroom hd hex hgo hk ht (T := T.setVm vm₁) hT X₁ (X₁.named hnamed)
  exact ⟨t, hstep₁ t h1, h2⟩
/-- Object's own constructor -/
theorem fx_objInit {a : Nat} (hd : decode M.2.1 pc = .ok (.invokespecial index, 3)) (hw : Cond.methodLink M.1.cls index Lib.objectInit ∈ lw_tbl ∧ Cond.instanceMethod Lib.objectInit ∈ lw_tbl ∧ Cond.code Lib.objectInit ⟨#[0xb1]⟩ 1 none ∈ lw_tbl) (hn : pc + 3 = n) (hr : 1 ≤ d.1 ∧ fx_ct st + 12 ≤ d.2) (kk : fx_Go G d M n L st S Q) : fx_Go G d M pc L (fx_r G a :: st) S Q := by
  subst hn
  intro p l e R s m args below meth c0 H locs cells slots ls hC hH hB hl
  obtain ⟨-, -, ⟨hfr, hlo⟩, -⟩ := id hC
  exact W.objInit hC.x hC.cc hC.own (hC.w hw.1 (Or.inl rfl) args) (hC.w hw.2.1 (Or.inl rfl) args) (hC.w hw.2.2 (Or.inl rfl) args) rfl (hl.1.trans hC.ml.symm) rfl hd (by omega) (by show 2 * 0 + fx_ct st + 12 ≤ _; omega) (kk p l e R s m args below meth c0 H locs cells slots ls hC hH hB hl)
theorem fx_mmax {x y : Int32} (hd : decode M.2.1 pc = .ok (.invokestatic index, 3)) (hw : Cond.methodLink M.1.cls index Lib.Math.max.name ∈ lw_tbl ∧ Cond.static Lib.Math.max.name ∈ lw_tbl ∧ Cond.initialized "java/lang/Math" ∈ lw_tbl ∧ Cond.code Lib.Math.max.name Lib.Math.max.code 2 (some .int) ∈ lw_tbl) (hn : pc + 3 = n) (hr : 1 ≤ d.1 ∧ fx_ct st + 13 ≤ d.2)
    (kk : fx_Go G d M n L (.int (if x < y then y else x) :: st) S Q) : fx_Go G d M pc L (.int y :: .int x :: st) S Q := by
  subst hn
  intro p l e R s m args below meth c0 H locs cells slots ls hC hH hB hl
  obtain ⟨-, -, ⟨hfr, hlo⟩, -⟩ := id hC
  obtain ⟨hB1, hB2⟩ := id hB
  exact va_mmax hC.x hC.cc (hC.ml.trans hl.1.symm) hC.own (hC.w hw.1 (Or.inl rfl) args) (hC.w hw.2.1 (Or.inl rfl) args) (hC.w hw.2.2.1 (Or.inl rfl) args) (hC.w hw.2.2.2 (Or.inl rfl) args) (by omega) (by show fx_ct st + 13 ≤ _; omega) (by omega) (by omega) hd (kk p l e R s m args below meth c0 H locs cells slots ls hC hH hB hl)
theorem fx_mmin {x y : Int32} (hd : decode M.2.1 pc = .ok (.invokestatic index, 3)) (hw : Cond.methodLink M.1.cls index Lib.Math.min.name ∈ lw_tbl ∧ Cond.static Lib.Math.min.name ∈ lw_tbl ∧ Cond.initialized "java/lang/Math" ∈ lw_tbl ∧ Cond.code Lib.Math.min.name Lib.Math.min.code 2 (some .int) ∈ lw_tbl) (hn : pc + 3 = n) (hr : 1 ≤ d.1 ∧ fx_ct st + 13 ≤ d.2)
    (kk : fx_Go G d M n L (.int (if y < x then y else x) :: st) S Q) : fx_Go G d M pc L (.int y :: .int x :: st) S Q := by
  subst hn
  intro p l e R s m args below meth c0 H locs cells slots ls hC hH hB hl
  obtain ⟨-, -, ⟨hfr, hlo⟩, -⟩ := id hC
  obtain ⟨hB1, hB2⟩ := id hB
  exact va_mmin hC.x hC.cc (hC.ml.trans hl.1.symm) hC.own (hC.w hw.1 (Or.inl rfl) args) (hC.w hw.2.1 (Or.inl rfl) args) (hC.w hw.2.2.1 (Or.inl rfl) args) (hC.w hw.2.2.2 (Or.inl rfl) args) (by omega) (by show fx_ct st + 13 ≤ _; omega) (by omega) (by omega) hd (kk p l e R s m args below meth c0 H locs cells slots ls hC hH hB hl)
end FXI
