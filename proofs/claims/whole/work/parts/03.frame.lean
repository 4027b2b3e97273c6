/-! The judgement fx_Go: a method's run over a pure state (cells by number, at the addresses behind the law's start). -/
/-- (cells that are followed, cells of exceptions, slots of all of them), (kind, length) of a cell, its numbers, its references, its longs -/
abbrev fx_S : Type := (Nat × Nat × Nat) × (Nat → Nat × Nat) × (Nat → Nat → Int32) × (Nat → Nat → Option Nat) × (Nat → Nat → Int64)
def fx_m (S : fx_S) : Nat := S.1.1
def fx_x (S : fx_S) : Nat := S.1.2.1
def fx_k (S : fx_S) : Nat := S.1.2.2
def fx_kd (S : fx_S) (i : Nat) : Nat := (S.2.1 i).1
def fx_ln (S : fx_S) (i : Nat) : Nat := (S.2.1 i).2
def fx_I (S : fx_S) : Nat → Nat → Int32 := S.2.2.1
def fx_P (S : fx_S) : Nat → Nat → Option Nat := S.2.2.2.1
def fx_J (S : fx_S) : Nat → Nat → Int64 := S.2.2.2.2
def fx_row {α : Type} (f : Nat → Nat → α) (a : Nat) (g : Nat → α) : Nat → Nat → α := fun b => if b = a then g else f b
theorem fx_row_self {α : Type} (f : Nat → Nat → α) (a : Nat) (g : Nat → α) : fx_row f a g a = g := by simp [fx_row]
theorem fx_row_ne {α : Type} (f : Nat → Nat → α) {a b : Nat} (g : Nat → α) (h : b ≠ a) : fx_row f a g b = f b := by simp [fx_row, h]
def fx_setR (S : fx_S) (a : Nat) (g : Nat → Int32) : fx_S := (S.1, S.2.1, fx_row S.2.2.1 a g, S.2.2.2)
def fx_setI (S : fx_S) (a j : Nat) (x : Int32) : fx_S := fx_setR S a (upd (fx_I S a) j x)
def fx_setP (S : fx_S) (a j : Nat) (r : Option Nat) : fx_S := (S.1, S.2.1, S.2.2.1, fx_row S.2.2.2.1 a (va_up (fx_P S a) j r), S.2.2.2.2)
def fx_setJ (S : fx_S) (a j : Nat) (x : Int64) : fx_S := (S.1, S.2.1, S.2.2.1, S.2.2.2.1, fx_row S.2.2.2.2 a (vp_updL (fx_J S a) j x))
/-- a new cell of a kind, with so many slots -/
def fx_new (S : fx_S) (kd ln sl : Nat) : fx_S := ((S.1.1 + 1, S.1.2.1, S.1.2.2 + sl), (fun i => if i = S.1.1 then (kd, ln) else S.2.1 i), fx_row S.2.2.1 S.1.1 (fun _ => 0), fx_row S.2.2.2.1 S.1.1 (fun _ => none), fx_row S.2.2.2.2 S.1.1 (fun _ => 0))
abbrev fx_G : Type := State × Array Value × va_G × (Nat → ClassId)
def fx_B (G : fx_G) : Nat := G.1.heap.size
def fx_rf (G : fx_G) (r : Option Nat) : Option Nat := r.map (fun i => fx_B G + i)
abbrev fx_r (G : fx_G) (a : Nat) : Value := .ref (fx_B G + a)
def fx_N (c : Nat) : Nat := match vwCl[c]? with
  | some q => q.2.2
  | none => 0
def fx_isr (c j : Nat) : Bool := match vwCl[c]? with
  | some q => !((q.2.1 j).2.2.1 == "I" || (q.2.1 j).2.2.1 == "Z")
  | none => false
def fx_fs (G : fx_G) (S : fx_S) (c i : Nat) : List Value := (List.range (fx_N c)).map (fun j => if fx_isr c j = true then va_rf (fx_rf G (fx_P S i j)) else .int (fx_I S i j))
def fx_ent (G : fx_G) (S : fx_S) (i : Nat) : va_E :=
  if fx_kd S i = 100 then .inl (G.2.2.2 0, fx_ln S i, .inl (fx_I S i))
  else if fx_kd S i = 101 then .inl (G.2.2.2 1, fx_ln S i, .inl (fx_I S i))
  else if fx_kd S i = 102 then .inl (G.2.2.2 2, fx_ln S i, .inl (fx_I S i))
  else if fx_kd S i = 103 then .inl (G.2.2.2 3, fx_ln S i, .inr (.inl (fx_J S i)))
  else if fx_kd S i = 104 then .inl (G.2.2.2 4, fx_ln S i, .inr (.inr (.inr (.inr (fun j => fx_rf G (fx_P S i j))))))
  else .inr (fx_kd S i, fx_fs G S (fx_kd S i) i)
def fx_tys (cA : Nat → ClassId) : List (ClassId × FieldType) := [(cA 0, .int), (cA 1, .boolean), (cA 2, .char), (cA 3, .long), (cA 4, .object "FixupVolume$Sheet")]
/-- what holds of the start for the whole run -/
def fx_ok (G : fx_G) : Prop := (∀ w ∈ lw_tbl, w.before G.2.1 G.1 = true) ∧ va_K G.2.2.1 vwCl (fx_tys G.2.2.2) G.1 ∧ (Jvm.Cond.and given_1 narrow_1).before G.2.1 G.1 = true
/-- the heap holds the state -/
def fx_H (G : fx_G) (S : fx_S) (H : Heap) (locs : List Loc) : Prop :=
  (∀ i, i < fx_m S → va_at G.2.2.1 vwCl (fx_B G + i, fx_ent G S i) H) ∧ (∀ q, q < fx_B G → H[q]? = G.1.heap[q]?) ∧ H.size = fx_B G + fx_m S + fx_x S ∧ ∀ q ∈ locs, fx_B G ≤ q.base
/-- the room that is left for cells and slots: 2000 and 20000 in all -/
def fx_L (S : fx_S) (R : Room) (cells slots : Nat) : Prop := cells + (2000 - (fx_m S + fx_x S)) ≤ R.cells ∧ slots + (20000 - fx_k S) ≤ R.slots
/-- name, code, locals, answer's type, handlers -/
abbrev fx_M : Type := fx_M0
def fx_C (G : fx_G) (d : Nat × Nat) (M : fx_M) (p : Program) (l : Launch) (R : Room) (s : State) (m : MethodId) (meth : Method) (c : Code) : Prop :=
  (p.tables.exec = Jvm.exec ∧ c.code = M.2.1 ∧ c.maxLocals = M.2.2.1 ∧ meth.sig.returnType = M.2.2.2.1 ∧ meth.locks = false ∧ c.exceptionTable.toList.map (fun h => (h.startPc, h.endPc, h.handlerPc, h.catchType)) = M.2.2.2.2) ∧
  (s.vm.findClass M.1.cls = some m.cls ∧ meth.name = M.1.name ∧ G.1.WarmedH s.vm ∧ l.flags = flags0) ∧ (d.1 ≤ R.frames ∧ d.2 ≤ R.locals) ∧ fx_ok G
abbrev fx_R : Type := Option Value ⊕ Nat
/-- the names of what may be thrown -/
def fx_ex (k : Nat) : String := if k = 1 then "java/lang/IllegalStateException" else if k = 2 then "java/lang/IllegalArgumentException" else "java/lang/UnsupportedOperationException"
def fx_O (G : fx_G) (t : State) (S : fx_S) (Q : fx_R → fx_S → Prop) : Outcome → Prop
  | .returned v => Q (.inl v) S
  | .threw a => ∃ (k : Nat) (cell : Cell), t.heap[a]? = some cell ∧ cell.vm.isStatics = false ∧ G.1.vm.findClass (fx_ex k) = some cell.cls ∧ Q (.inr k) S
def fx_E (G : fx_G) (R : Room) (s : State) (below : List Frame) (Q : fx_R → fx_S → Prop) : State → Prop := fun t =>
  t.status = .running ∧ ∃ (o : Outcome) (S : fx_S) (L : List Loc) (k n : Nat), Ended t below o ∧ s.WarmedH t.vm ∧ s.sameButNew ({ t with vm := s.vm } : State) L k n ∧ fx_H G S t.heap L ∧ fx_L S R k n ∧ fx_O G t S Q o
def fx_Go (G : fx_G) (d : Nat × Nat) (M : fx_M) (pc : Nat) (L : List (Nat × Value)) (st : List Value) (S : fx_S) (Q : fx_R → fx_S → Prop) : Prop :=
  ∀ (p : Program) (l : Launch) (e : Env) (R : Room) (s : State) (m : MethodId) (args : Array Value) (below : List Frame) (meth : Method) (c : Code) (H : Heap) (locs : List Loc) (cells slots : Nat) (ls : Array Slot),
    fx_C G d M p l R s m meth c → fx_H G S H locs → fx_L S R cells slots → lv_has ls M.2.2.1 L → W p l e R s m args below meth c H locs cells slots (fx_E G R s below Q) (F0 m pc ls st)
section FXC
variable {G : fx_G} {d : Nat × Nat} {M : fx_M} {p : Program} {l : Launch} {R : Room} {s : State} {m : MethodId} {meth : Method} {c : Code}
theorem fx_C.x (h : fx_C G d M p l R s m meth c) : p.tables.exec = Jvm.exec := h.1.1
theorem fx_C.cc (h : fx_C G d M p l R s m meth c) : c.code = M.2.1 := h.1.2.1
theorem fx_C.ml (h : fx_C G d M p l R s m meth c) : c.maxLocals = M.2.2.1 := h.1.2.2.1
theorem fx_C.ret (h : fx_C G d M p l R s m meth c) : meth.sig.returnType = M.2.2.2.1 := h.1.2.2.2.1
theorem fx_C.lk (h : fx_C G d M p l R s m meth c) : meth.locks = false := h.1.2.2.2.2.1
theorem fx_C.own (h : fx_C G d M p l R s m meth c) : s.vm.findClass M.1.cls = some m.cls := h.2.1.1
theorem fx_C.warm (h : fx_C G d M p l R s m meth c) : G.1.WarmedH s.vm := h.2.1.2.2.1
theorem fx_C.K (h : fx_C G d M p l R s m meth c) : va_K G.2.2.1 vwCl (fx_tys G.2.2.2) s := va_K.moved h.warm.alike h.2.2.2.2.1
theorem fx_C.w (h : fx_C G d M p l R s m meth c) {w : Cond} (hw : w ∈ lw_tbl) (hg : (w.onTables && w.keeps) = true ∨ ∃ ty, w = .arrayClass ty) (a : Array Value) : w.before a s = true := word_at h.warm hg (h.2.2.2.1 w hw)
end FXC
theorem fx_wmono {p : Program} {l : Launch} {e : Env} {R : Room} {s : State} {m : MethodId} {args : Array Value} {below : List Frame} {meth : Method} {c : Code} {H : Heap} {locs : List Loc} {cells slots : Nat} {Q Q' : State → Prop} {g : JFrame} (h : ∀ t, Q t → Q' t)
    (k : W p l e R s m args below meth c H locs cells slots Q g) : W p l e R s m args below meth c H locs cells slots Q' g := by
  intro T hT X
  obtain ⟨t, a, b⟩ := k T hT X
  exact ⟨t, a, h t b⟩
theorem fx_ent_obj {G : fx_G} {S : fx_S} {i c : Nat} (hk : fx_kd S i = c) (hc : c < 100) : fx_ent G S i = .inr (c, fx_fs G S c i) := by
  subst hk
  simp only [fx_ent]
  rw [if_neg (by omega), if_neg (by omega), if_neg (by omega), if_neg (by omega), if_neg (by omega)]
theorem fx_ent_i {G : fx_G} {S : fx_S} {i : Nat} (hk : fx_kd S i = 100) : fx_ent G S i = .inl (G.2.2.2 0, fx_ln S i, .inl (fx_I S i)) := by simp [fx_ent, hk]
theorem fx_ent_z {G : fx_G} {S : fx_S} {i : Nat} (hk : fx_kd S i = 101) : fx_ent G S i = .inl (G.2.2.2 1, fx_ln S i, .inl (fx_I S i)) := by simp [fx_ent, hk]
theorem fx_ent_c {G : fx_G} {S : fx_S} {i : Nat} (hk : fx_kd S i = 102) : fx_ent G S i = .inl (G.2.2.2 2, fx_ln S i, .inl (fx_I S i)) := by simp [fx_ent, hk]
theorem fx_ent_l {G : fx_G} {S : fx_S} {i : Nat} (hk : fx_kd S i = 103) : fx_ent G S i = .inl (G.2.2.2 3, fx_ln S i, .inr (.inl (fx_J S i))) := by simp [fx_ent, hk]
theorem fx_ent_q {G : fx_G} {S : fx_S} {i : Nat} (hk : fx_kd S i = 104) : fx_ent G S i = .inl (G.2.2.2 4, fx_ln S i, .inr (.inr (.inr (.inr (fun j => fx_rf G (fx_P S i j)))))) := by simp [fx_ent, hk]
/-- one cell has changed -/
theorem fx_H.upd {G : fx_G} {S S' : fx_S} {H H' : Heap} {locs : List Loc} {a k : Nat} (h : fx_H G S H locs) (hz : H'.size = H.size) (ho : ∀ q, q ≠ fx_B G + a → H'[q]? = H[q]?) (ha : va_at G.2.2.1 vwCl (fx_B G + a, fx_ent G S' a) H')
    (he : ∀ i, i ≠ a → fx_ent G S' i = fx_ent G S i) (h1 : S'.1 = S.1) : fx_H G S' H' (locs ++ [⟨fx_B G + a, k⟩]) := by
  obtain ⟨hP, hO, hS, hl⟩ := h
  have hm : fx_m S' = fx_m S := by unfold fx_m; rw [h1]
  have hx : fx_x S' = fx_x S := by unfold fx_x; rw [h1]
  refine ⟨fun i hi => ?_, fun q hq => ?_, by rw [hz, hS, hm, hx], fun q hq => ?_⟩
  · by_cases hia : i = a
    · subst hia; exact ha
    · rw [he i hia]
      exact (hP i (by rw [← hm]; exact hi)).kept (ho _ (fun z => hia (Nat.add_left_cancel z)))
  · rw [ho q (by omega)]; exact hO q hq
  · rcases List.mem_append.mp hq with h | h
    · exact hl q h
    · rw [List.mem_singleton.mp h]; exact Nat.le_add_right _ _
theorem fx_setR_ent {G : fx_G} {S : fx_S} {a : Nat} {g : Nat → Int32} {i : Nat} (h : i ≠ a) : fx_ent G (fx_setR S a g) i = fx_ent G S i := by
  have e1 : fx_I (fx_setR S a g) i = fx_I S i := fx_row_ne _ _ h
  simp only [fx_ent, fx_fs, e1]
  rfl
theorem fx_setP_ent {G : fx_G} {S : fx_S} {a j : Nat} {r : Option Nat} {i : Nat} (h : i ≠ a) : fx_ent G (fx_setP S a j r) i = fx_ent G S i := by
  have e1 : fx_P (fx_setP S a j r) i = fx_P S i := fx_row_ne _ _ h
  simp only [fx_ent, fx_fs, e1]
  rfl
theorem fx_setJ_ent {G : fx_G} {S : fx_S} {a j : Nat} {x : Int64} {i : Nat} (h : i ≠ a) : fx_ent G (fx_setJ S a j x) i = fx_ent G S i := by
  have e1 : fx_J (fx_setJ S a j x) i = fx_J S i := fx_row_ne _ _ h
  simp only [fx_ent, fx_fs, e1]
  rfl
def fx_ct (vs : List Value) : Nat := (vs.map fun v => v.category).sum
theorem fx_nx {P : (Nat × Nat × Nat × Nat) → Prop} : ∀ x ∈ ([] : List (Nat × Nat × Nat × Nat)), P x := fun _ h => absurd h List.not_mem_nil
