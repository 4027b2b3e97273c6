/-! fields, arrays, new cells, over fx_Go -/
def fx_cw (c : Nat) (C : String) (T : u_T) (N : Nat) : Prop := vwCl[c]? = some (C, T, N) ∧ (∀ w ∈ u_ws C T N, w ∈ lw_tbl) ∧ (∃ ty0 : Nat → FieldType, (∀ k, k < N → parseFieldDescriptor (T k).2.2.1 = some (ty0 k)) ∧ ∀ k, k < N → defaultValue (ty0 k) = if fx_isr c k = true then .null else .int 0) ∧ ∀ a, a < N → ∀ b, b < N → a ≠ b → (T a).2.1 ≠ (T b).2.1
def fx_fw (own : String) (index c j : Nat) (ty : FieldType) (fin : Bool) : Prop := ∃ (C : String) (T : u_T) (N : Nat), fx_cw c C T N ∧ j < N ∧ Cond.fieldLink own index (T j).1 (T j).2.1 (T j).2.2.1 ∈ lw_tbl ∧ parseFieldDescriptor (T j).2.2.1 = some ty ∧ (T j).2.2.2 = fin
def fx_dc (c j : Nat) : String := match vwCl[c]? with
  | some q => (q.2.1 j).1
  | none => ""
theorem fx_layGood {C : String} {T : u_T} {N : Nat} {w : Cond} (hw : w ∈ u_ws C T N) : (w.onTables && w.keeps) = true ∨ ∃ ty, w = .arrayClass ty := by
  obtain ⟨k, -, rfl⟩ := List.mem_map.mp hw
  unfold u_lay
  split <;> exact Or.inl rfl
theorem fx_cw.N {c : Nat} {C : String} {T : u_T} {N : Nat} (h : fx_cw c C T N) : fx_N c = N := by
  unfold fx_N
  rw [h.1]
theorem fx_fs_V {G : fx_G} {S : fx_S} {c i j : Nat} (hj : j < fx_N c) : vp_V (fx_fs G S c i) j = if fx_isr c j = true then va_rf (fx_rf G (fx_P S i j)) else .int (fx_I S i j) := by
  simp [vp_V, fx_fs, List.getD_eq_getElem?_getD, List.getElem?_range hj]
section FXF
variable {G : fx_G} {d : Nat × Nat} {M : fx_M} {pc n : Nat} {L : List (Nat × Value)} {st : List Value} {S : fx_S} {Q : fx_R → fx_S → Prop}
theorem fx_get0 {a j c index : Nat} {ty : FieldType} {fin : Bool} (hd : decode M.2.1 pc = .ok (.getfield index, 3)) (hw : fx_fw M.1.cls index c j ty fin) (hc : c < 100) (hn : pc + 3 = n) (ha : a < fx_m S) (hk : fx_kd S a = c) {v : Value} (hv : (if fx_isr c j = true then va_rf (fx_rf G (fx_P S a j)) else .int (fx_I S a j)) = v)
    (kk : fx_Go G d M n L (v :: st) S Q) : fx_Go G d M pc L (fx_r G a :: st) S Q := by
  subst hn
  intro p l e R s m args below meth c0 H locs cells slots ls hC hH hB hl
  obtain ⟨C, T, N, hcw, hj, hlk, -⟩ := hw
  have hat := hH.1 a ha
  rw [fx_ent_obj hk hc] at hat
  obtain ⟨r, h1, cell, q1, q2, q3, q4⟩ := hat
  have hr' : r = (C, T, N) := Option.some.inj (h1.symm.trans hcw.1)
  subst hr'
  obtain ⟨hS, hfc, kC, hkC, hkind⟩ := hC.K.1 c _ hcw.1
  obtain ⟨cf, kf, fi, f, hi, hsl⟩ := hS j hj
  refine W.getf hC.x hC.cc hC.own (hC.w hlk (Or.inl rfl) _) hi (u_facts (args := args) hfc hkC (u_lays (ws := u_ws C T N) (fun w hw => hC.w (hcw.2.1 w hw) (fx_layGood hw) _) (fun w h => h) hj) hi).1 q1 (by rw [q3]; exact fun h => by cases h) (v := v) ?_ rfl rfl hd (kk p l e R s m args below meth c0 H locs cells slots ls hC hH hB hl)
  rw [hsl, q4 j hj, ← hv]
  exact congrArg some (fx_fs_V (by rw [hcw.N]; exact hj))
theorem fx_getI {a j c index : Nat} {ty : FieldType} {fin : Bool} (hd : decode M.2.1 pc = .ok (.getfield index, 3)) (hw : fx_fw M.1.cls index c j ty fin) (hc : c < 100) (hr : fx_isr c j = false) (hn : pc + 3 = n) (ha : a < fx_m S) (hk : fx_kd S a = c)
    (kk : fx_Go G d M n L (.int (fx_I S a j) :: st) S Q) : fx_Go G d M pc L (fx_r G a :: st) S Q :=
  fx_get0 hd hw hc hn ha hk (by rw [hr]; rfl) kk
theorem fx_getP {a j c index r : Nat} {ty : FieldType} {fin : Bool} (hd : decode M.2.1 pc = .ok (.getfield index, 3)) (hw : fx_fw M.1.cls index c j ty fin) (hc : c < 100) (hr : fx_isr c j = true) (hn : pc + 3 = n) (ha : a < fx_m S) (hk : fx_kd S a = c) (hp : fx_P S a j = some r)
    (kk : fx_Go G d M n L (fx_r G r :: st) S Q) : fx_Go G d M pc L (fx_r G a :: st) S Q :=
  fx_get0 hd hw hc hn ha hk (by rw [hr, hp]; rfl) kk
theorem fx_putI {a j c index : Nat} {x : Int32} {ty : FieldType} (hd : decode M.2.1 pc = .ok (.putfield index, 3)) (hw : fx_fw M.1.cls index c j ty false) (hc : c < 100) (hr : fx_isr c j = false) (hnr : narrow ty (.int x) = .int x) (hft : fits ty (.int x) = true) (hn : pc + 3 = n) (ha : a < fx_m S) (hk : fx_kd S a = c)
    (kk : fx_Go G d M n L st (fx_setI S a j x) Q) : fx_Go G d M pc L (.int x :: fx_r G a :: st) S Q := by
  subst hn
  intro p l e R s m args below meth c0 H locs cells slots ls hC hH hB hl
  obtain ⟨C, T, N, hcw, hj, hlk, hpd, hfin⟩ := hw
  obtain ⟨ty0, hty, -⟩ := hcw.2.2.1
  have hts : ∀ w ∈ u_ws C T N, w.before args s = true := fun w hw => hC.w (hcw.2.1 w hw) (fx_layGood hw) _
  have hat := hH.1 a ha
  rw [fx_ent_obj hk hc] at hat
  obtain ⟨r, h1, cell, q1, q2, q3, q4⟩ := hat
  have hr' : r = (C, T, N) := Option.some.inj (h1.symm.trans hcw.1)
  subst hr'
  have hap := va_apart (own := M.1.cls) hts (fun w h => h) ty0 hty hcw.2.2.2 hC.K hcw.1
  obtain ⟨hS, hfc, kC, hkC, hkind⟩ := hC.K.1 c _ hcw.1
  obtain ⟨cf, kf, fi, f, hi, hsl⟩ := hS j hj
  have hlay := hts _ (u_in_lay hj)
  unfold u_lay at hlay
  rw [if_neg (by rw [hfin]; decide)] at hlay
  have hst := (u_facts hfc hkC (u_lays hts (fun w h => h) hj) hi).1
  have h6 := u_store hfc hkC hkind hlay hi hpd hnr hft
  refine W.putK hC.x hC.cc (f := f) ⟨hC.own, hC.w hlk (Or.inl rfl) _, ⟨_, _, _, hi⟩, hst⟩ (by rw [q2]; exact h6) q1 q3 (by rw [hsl]; exact k2_hasslot (q4 j hj)) rfl rfl hd fun H' e1 e2 e3 => ?_
  rw [hsl] at e1 ⊢
  refine kk p l e R s m args below meth c0 H' _ cells slots ls hC (fx_H.upd (S := S) (S' := fx_setI S a j x) hH e2 e3 ?_ (fun i hi => fx_setR_ent hi) rfl) hB hl
  rw [fx_ent_obj (S := fx_setI S a j x) (c := c) hk hc]
  refine ⟨_, hcw.1, t_OB.to (V := updV (vp_V (fx_fs G S c a)) j (.int x)) ⟨_, e1, q2, q3, t_set q4 hap hj (.int x)⟩ (fun k hk1 => ?_)⟩
  have hkN : k < fx_N c := by rw [hcw.N]; exact hk1
  have eI : fx_I (fx_setI S a j x) a = upd (fx_I S a) j x := fx_row_self _ _ _
  rw [fx_fs_V hkN, eI]
  by_cases hkj : k = j
  · subst hkj
    simp [updV, upd, hr]
  · simp only [updV, upd, if_neg hkj]
    rw [fx_fs_V hkN]
    rfl
theorem fx_putP {a j c index r : Nat} {ty : FieldType} (hd : decode M.2.1 pc = .ok (.putfield index, 3)) (hw : fx_fw M.1.cls index c j ty true) (hc : c < 100) (hr : fx_isr c j = true) (hin2 : M.1.name = "<init>") (hdc : fx_dc c j = M.1.cls) (hnr : ∀ q : Nat, narrow ty (.ref q) = .ref q) (hft : ∀ q : Nat, fits ty (.ref q) = true) (hn : pc + 3 = n) (ha : a < fx_m S) (hk : fx_kd S a = c)
    (kk : fx_Go G d M n L st (fx_setP S a j (some r)) Q) : fx_Go G d M pc L (fx_r G r :: fx_r G a :: st) S Q := by
  subst hn
  intro p l e R s m args below meth c0 H locs cells slots ls hC hH hB hl
  obtain ⟨C, T, N, hcw, hj, hlk, hpd, hfin⟩ := hw
  have hdecl : (T j).1 = M.1.cls := by rw [← hdc]; unfold fx_dc; rw [hcw.1]
  obtain ⟨ty0, hty, -⟩ := hcw.2.2.1
  have hts : ∀ w ∈ u_ws C T N, w.before args s = true := fun w hw => hC.w (hcw.2.1 w hw) (fx_layGood hw) _
  have hat := hH.1 a ha
  rw [fx_ent_obj hk hc] at hat
  obtain ⟨r0, h1, cell, q1, q2, q3, q4⟩ := hat
  have hr' : r0 = (C, T, N) := Option.some.inj (h1.symm.trans hcw.1)
  subst hr'
  have hap := va_apart (own := M.1.cls) hts (fun w h => h) ty0 hty hcw.2.2.2 hC.K hcw.1
  obtain ⟨hS, hfc, kC, hkC, hkind⟩ := hC.K.1 c _ hcw.1
  obtain ⟨cf, kf, fi, f, hi, hsl⟩ := hS j hj
  have hlay := hts _ (u_in_lay hj)
  unfold u_lay at hlay
  rw [if_pos hfin] at hlay
  have hst := (u_facts hfc hkC (u_lays hts (fun w h => h) hj) hi).1
  have hcf : m.cls = cf := by
    obtain ⟨_, _, c', _, _, _, -, -, hf', -, -, -, hown2, -⟩ := Cond.laysFinal_spec hlay
    have e1 : c' = cf := by have := hi.symm.trans hf'; simp at this; exact this.1.symm
    rw [hdecl] at hown2
    rw [← e1]; exact Option.some.inj (hC.own.symm.trans hown2)
  have h6 := u_fits hfc hkC hkind (Or.inr hlay) hi hpd (hnr (fx_B G + r)) (hft (fx_B G + r))
  refine W.putFinK hC.x hC.cc hC.own (hC.w hlk (Or.inl rfl) _) hi hst hcf (hC.2.1.2.1.trans hin2) (by rw [q2]; exact h6) q1 q3 (by rw [hsl]; exact k2_hasslot (q4 j hj)) rfl rfl hd fun H' e1 e2 e3 => ?_
  rw [hsl] at e1 ⊢
  refine kk p l e R s m args below meth c0 H' _ cells slots ls hC (fx_H.upd (S := S) (S' := fx_setP S a j (some r)) hH e2 e3 ?_ (fun i hi => fx_setP_ent hi) rfl) hB hl
  rw [fx_ent_obj (S := fx_setP S a j (some r)) (c := c) hk hc]
  refine ⟨_, hcw.1, t_OB.to (V := updV (vp_V (fx_fs G S c a)) j (fx_r G r)) ⟨_, e1, q2, q3, t_set q4 hap hj (fx_r G r)⟩ (fun k hk1 => ?_)⟩
  have hkN : k < fx_N c := by rw [hcw.N]; exact hk1
  have eI : fx_P (fx_setP S a j (some r)) a = va_up (fx_P S a) j (some r) := fx_row_self _ _ _
  rw [fx_fs_V hkN, eI]
  by_cases hkj : k = j
  · subst hkj
    simp [updV, va_up, hr, fx_rf, va_rf]
  · simp only [updV, va_up, if_neg hkj]
    rw [fx_fs_V hkN]
    rfl
theorem fx_alen {a : Nat} (hd : decode M.2.1 pc = .ok (.arraylength, 1)) (hn : pc + 1 = n) (ha : a < fx_m S) (hk : fx_kd S a = 100) (kk : fx_Go G d M n L (.int (Int32.ofNat (fx_ln S a)) :: st) S Q) : fx_Go G d M pc L (fx_r G a :: st) S Q := by
  subst hn
  intro p l e R s m args below meth c0 H locs cells slots ls hC hH hB hl
  have hat := hH.1 a ha
  rw [fx_ent_i hk] at hat
  exact W.alen (n := Int32.ofNat (fx_ln S a)) hC.x hC.cc hat ((hC.K.2 0 _ rfl).1 _ (fun j => .int (fx_I S a j))) (by show (arrV _ _ _).slots.size.toInt32 = _; rw [arrV_size]) rfl rfl hd (kk p l e R s m args below meth c0 H locs cells slots ls hC hH hB hl)
theorem fx_iald {a : Nat} {i : Int32} (hd : decode M.2.1 pc = .ok (.iaload, 1)) (hn : pc + 1 = n) (ha : a < fx_m S) (hk : fx_kd S a = 100) (hin : vp_in i (fx_ln S a)) (kk : fx_Go G d M n L (.int (fx_I S a i.toNatClampNeg) :: st) S Q) : fx_Go G d M pc L (.int i :: fx_r G a :: st) S Q := by
  subst hn
  intro p l e R s m args below meth c0 H locs cells slots ls hC hH hB hl
  have hat := hH.1 a ha
  rw [fx_ent_i hk] at hat
  have hlt : i.toNatClampNeg < fx_ln S a := Nat.not_le.mp fun q => hin (Or.inr q)
  exact W.iald (v := .int (fx_I S a i.toNatClampNeg)) hC.x hC.cc hat ((hC.K.2 0 _ rfl).1 _ (fun j => .int (fx_I S a j))) (fun q => by cases q) (by show ¬ (i < 0 ∨ (arrV _ _ _).slots.size ≤ _); rw [arrV_size]; exact hin) (by show (arrV _ _ _).slots[_]? = _; rw [arrV_read _ _ hlt]) rfl rfl hd (kk p l e R s m args below meth c0 H locs cells slots ls hC hH hB hl)
theorem fx_zald {a : Nat} {i : Int32} (hd : decode M.2.1 pc = .ok (.baload, 1)) (hn : pc + 1 = n) (ha : a < fx_m S) (hk : fx_kd S a = 101) (hin : vp_in i (fx_ln S a)) (kk : fx_Go G d M n L (.int (fx_I S a i.toNatClampNeg) :: st) S Q) : fx_Go G d M pc L (.int i :: fx_r G a :: st) S Q := by
  subst hn
  intro p l e R s m args below meth c0 H locs cells slots ls hC hH hB hl
  have hat := hH.1 a ha
  rw [fx_ent_z hk] at hat
  have hlt : i.toNatClampNeg < fx_ln S a := Nat.not_le.mp fun q => hin (Or.inr q)
  exact W.zald (v := .int (fx_I S a i.toNatClampNeg)) hC.x hC.cc hat ((hC.K.2 1 _ rfl).1 _ (fun j => .int (fx_I S a j))) (fun q => by cases q) (by show ¬ (i < 0 ∨ (arrV _ _ _).slots.size ≤ _); rw [arrV_size]; exact hin) (by show (arrV _ _ _).slots[_]? = _; rw [arrV_read _ _ hlt]) rfl rfl hd (kk p l e R s m args below meth c0 H locs cells slots ls hC hH hB hl)
theorem fx_cald {a : Nat} {i : Int32} (hd : decode M.2.1 pc = .ok (.caload, 1)) (hn : pc + 1 = n) (ha : a < fx_m S) (hk : fx_kd S a = 102) (hin : vp_in i (fx_ln S a)) (kk : fx_Go G d M n L (.int (fx_I S a i.toNatClampNeg) :: st) S Q) : fx_Go G d M pc L (.int i :: fx_r G a :: st) S Q := by
  subst hn
  intro p l e R s m args below meth c0 H locs cells slots ls hC hH hB hl
  have hat := hH.1 a ha
  rw [fx_ent_c hk] at hat
  have hlt : i.toNatClampNeg < fx_ln S a := Nat.not_le.mp fun q => hin (Or.inr q)
  exact W.cald (v := .int (fx_I S a i.toNatClampNeg)) hC.x hC.cc hat ((hC.K.2 2 _ rfl).1 _ (fun j => .int (fx_I S a j))) (fun q => by cases q) (by show ¬ (i < 0 ∨ (arrV _ _ _).slots.size ≤ _); rw [arrV_size]; exact hin) (by show (arrV _ _ _).slots[_]? = _; rw [arrV_read _ _ hlt]) rfl rfl hd (kk p l e R s m args below meth c0 H locs cells slots ls hC hH hB hl)
theorem fx_lald {a : Nat} {i : Int32} (hd : decode M.2.1 pc = .ok (.laload, 1)) (hn : pc + 1 = n) (ha : a < fx_m S) (hk : fx_kd S a = 103) (hin : vp_in i (fx_ln S a)) (kk : fx_Go G d M n L (.long (fx_J S a i.toNatClampNeg) :: st) S Q) : fx_Go G d M pc L (.int i :: fx_r G a :: st) S Q := by
  subst hn
  intro p l e R s m args below meth c0 H locs cells slots ls hC hH hB hl
  have hat := hH.1 a ha
  rw [fx_ent_l hk] at hat
  have hlt : i.toNatClampNeg < fx_ln S a := Nat.not_le.mp fun q => hin (Or.inr q)
  exact W.lald (v := .long (fx_J S a i.toNatClampNeg)) hC.x hC.cc hat ((hC.K.2 3 _ rfl).1 _ (fun j => .long (fx_J S a j))) (fun q => by cases q) (by show ¬ (i < 0 ∨ (arrV _ _ _).slots.size ≤ _); rw [arrV_size]; exact hin) (by show (arrV _ _ _).slots[_]? = _; rw [arrV_read _ _ hlt]) rfl rfl hd (kk p l e R s m args below meth c0 H locs cells slots ls hC hH hB hl)
theorem fx_aald {a r : Nat} {i : Int32} (hd : decode M.2.1 pc = .ok (.aaload, 1)) (hn : pc + 1 = n) (ha : a < fx_m S) (hk : fx_kd S a = 104) (hin : vp_in i (fx_ln S a)) (hp : fx_P S a i.toNatClampNeg = some r) (kk : fx_Go G d M n L (fx_r G r :: st) S Q) : fx_Go G d M pc L (.int i :: fx_r G a :: st) S Q := by
  subst hn
  intro p l e R s m args below meth c0 H locs cells slots ls hC hH hB hl
  have hat := hH.1 a ha
  rw [fx_ent_q hk] at hat
  have hlt : i.toNatClampNeg < fx_ln S a := Nat.not_le.mp fun q => hin (Or.inr q)
  exact W.aald (v := fx_r G r) (ty := .object "FixupVolume$Sheet") hC.x hC.cc hat ((hC.K.2 4 _ rfl).1 _ (fun j => va_rf (fx_rf G (fx_P S a j)))) rfl (fun q => by cases q) (by show ¬ (i < 0 ∨ (arrV _ _ _).slots.size ≤ _); rw [arrV_size]; exact hin) (by show (arrV _ _ _).slots[_]? = _; rw [arrV_read _ _ hlt]; show some (va_rf (fx_rf G (fx_P S a i.toNatClampNeg))) = _; rw [hp]; rfl) rfl rfl hd (kk p l e R s m args below meth c0 H locs cells slots ls hC hH hB hl)
theorem fx_updI (f : Nat → Int32) (j : Nat) (x : Int32) : (fun q => Value.int (upd f j x q)) = updV (fun q => Value.int (f q)) j (.int x) := by
  funext q
  by_cases hq : q = j
  · simp [updV, upd, hq]
  · simp [updV, upd, hq]
theorem fx_iast {a : Nat} {i x : Int32} (hd : decode M.2.1 pc = .ok (.iastore, 1)) (hn : pc + 1 = n) (ha : a < fx_m S) (hk : fx_kd S a = 100) (hin : vp_in i (fx_ln S a)) (kk : fx_Go G d M n L st (fx_setI S a i.toNatClampNeg x) Q) : fx_Go G d M pc L (.int x :: .int i :: fx_r G a :: st) S Q := by
  subst hn
  intro p l e R s m args below meth c0 H locs cells slots ls hC hH hB hl
  have hat := hH.1 a ha
  rw [fx_ent_i hk] at hat
  refine W.iast hC.x hC.cc hat ((hC.K.2 0 _ rfl).1 _ (fun j => .int (fx_I S a j))) (fun q => by cases q) (by show ¬ (i < 0 ∨ (arrV _ _ _).slots.size ≤ _); rw [arrV_size]; exact hin) rfl rfl hd fun H1 e1 z oq => ?_
  refine kk p l e R s m args below meth c0 H1 _ cells slots ls hC (fx_H.upd (S := S) (S' := fx_setI S a i.toNatClampNeg x) hH z oq ?_ (fun i hi => fx_setR_ent hi) rfl) hB hl
  rw [fx_ent_i (S := fx_setI S a i.toNatClampNeg x) hk]
  show H1[_]? = some (vp_cell _ _)
  rw [e1, vp_cell_i, vp_cell_i, arrV_store, ← fx_updI]
  show _ = some (arrV _ (fx_ln S a) (fun j => Value.int (fx_row _ a _ a j)))
  rw [fx_row_self]
theorem fx_zast {a : Nat} {i x : Int32} (hd : decode M.2.1 pc = .ok (.bastore, 1)) (hn : pc + 1 = n) (ha : a < fx_m S) (hk : fx_kd S a = 101) (hin : vp_in i (fx_ln S a)) (kk : fx_Go G d M n L st (fx_setI S a i.toNatClampNeg (vp_nar .boolean x)) Q) : fx_Go G d M pc L (.int x :: .int i :: fx_r G a :: st) S Q := by
  subst hn
  intro p l e R s m args below meth c0 H locs cells slots ls hC hH hB hl
  have hat := hH.1 a ha
  rw [fx_ent_z hk] at hat
  refine W.zast hC.x hC.cc hat ((hC.K.2 1 _ rfl).1 _ (fun j => .int (fx_I S a j))) (fun q => by cases q) (by show ¬ (i < 0 ∨ (arrV _ _ _).slots.size ≤ _); rw [arrV_size]; exact hin) rfl rfl hd fun H1 e1 z oq => ?_
  refine kk p l e R s m args below meth c0 H1 _ cells slots ls hC (fx_H.upd (S := S) (S' := fx_setI S a i.toNatClampNeg (vp_nar .boolean x)) hH z oq ?_ (fun i hi => fx_setR_ent hi) rfl) hB hl
  rw [fx_ent_z (S := fx_setI S a i.toNatClampNeg (vp_nar .boolean x)) hk]
  show H1[_]? = some (vp_cell _ _)
  rw [e1, vp_cell_i, vp_cell_i, show narrow .boolean (.int x) = .int (vp_nar .boolean x) from rfl, arrV_store, ← fx_updI]
  show _ = some (arrV _ (fx_ln S a) (fun j => Value.int (fx_row _ a _ a j)))
  rw [fx_row_self]
theorem fx_cast {a : Nat} {i x : Int32} (hd : decode M.2.1 pc = .ok (.castore, 1)) (hn : pc + 1 = n) (ha : a < fx_m S) (hk : fx_kd S a = 102) (hin : vp_in i (fx_ln S a)) (kk : fx_Go G d M n L st (fx_setI S a i.toNatClampNeg (vp_nar .char x)) Q) : fx_Go G d M pc L (.int x :: .int i :: fx_r G a :: st) S Q := by
  subst hn
  intro p l e R s m args below meth c0 H locs cells slots ls hC hH hB hl
  have hat := hH.1 a ha
  rw [fx_ent_c hk] at hat
  refine W.cast hC.x hC.cc hat ((hC.K.2 2 _ rfl).1 _ (fun j => .int (fx_I S a j))) (fun q => by cases q) (by show ¬ (i < 0 ∨ (arrV _ _ _).slots.size ≤ _); rw [arrV_size]; exact hin) rfl rfl hd fun H1 e1 z oq => ?_
  refine kk p l e R s m args below meth c0 H1 _ cells slots ls hC (fx_H.upd (S := S) (S' := fx_setI S a i.toNatClampNeg (vp_nar .char x)) hH z oq ?_ (fun i hi => fx_setR_ent hi) rfl) hB hl
  rw [fx_ent_c (S := fx_setI S a i.toNatClampNeg (vp_nar .char x)) hk]
  show H1[_]? = some (vp_cell _ _)
  rw [e1, vp_cell_i, vp_cell_i, show narrow .char (.int x) = .int (vp_nar .char x) from rfl, arrV_store, ← fx_updI]
  show _ = some (arrV _ (fx_ln S a) (fun j => Value.int (fx_row _ a _ a j)))
  rw [fx_row_self]
theorem fx_last {a : Nat} {i : Int32} {x : Int64} (hd : decode M.2.1 pc = .ok (.lastore, 1)) (hn : pc + 1 = n) (ha : a < fx_m S) (hk : fx_kd S a = 103) (hin : vp_in i (fx_ln S a)) (kk : fx_Go G d M n L st (fx_setJ S a i.toNatClampNeg x) Q) : fx_Go G d M pc L (.long x :: .int i :: fx_r G a :: st) S Q := by
  subst hn
  intro p l e R s m args below meth c0 H locs cells slots ls hC hH hB hl
  have hat := hH.1 a ha
  rw [fx_ent_l hk] at hat
  refine W.last hC.x hC.cc hat ((hC.K.2 3 _ rfl).1 _ (fun j => .long (fx_J S a j))) (fun q => by cases q) (by show ¬ (i < 0 ∨ (arrV _ _ _).slots.size ≤ _); rw [arrV_size]; exact hin) rfl rfl hd fun H1 e1 z oq => ?_
  refine kk p l e R s m args below meth c0 H1 _ cells slots ls hC (fx_H.upd (S := S) (S' := fx_setJ S a i.toNatClampNeg x) hH z oq ?_ (fun i hi => fx_setJ_ent hi) rfl) hB hl
  rw [fx_ent_l (S := fx_setJ S a i.toNatClampNeg x) hk]
  show H1[_]? = some (vp_cell _ _)
  rw [e1, vp_cell_l, vp_cell_l, arrV_store]
  show _ = some (arrV _ (fx_ln S a) (fun j => Value.long (fx_row _ a _ a j)))
  rw [fx_row_self]
  congr 2
  funext q
  by_cases hq : q = i.toNatClampNeg
  · simp [updV, vp_updL, hq]
  · simp [updV, vp_updL, hq]
end FXF
