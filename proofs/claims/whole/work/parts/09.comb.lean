def fx_is (S : fx_S) (a c : Nat) : Prop := a < fx_m S ∧ fx_kd S a = c
def fx_room (S : fx_S) (N : Nat) : Prop := fx_x S = 0 ∧ fx_m S + fx_x S + 1 ≤ 2000 ∧ fx_k S + N ≤ 20000
def fx_cpy (S : fx_S) (b a : Nat) (sp dp k : Int32) : Prop := ¬ sp < 0 ∧ ¬ dp < 0 ∧ ¬ k < 0 ∧ sp.toNatClampNeg + k.toNatClampNeg ≤ fx_ln S b ∧ dp.toNatClampNeg + k.toNatClampNeg ≤ fx_ln S a
def fx_roomx (S : fx_S) : Prop := fx_m S + fx_x S + 1 ≤ 2000 ∧ fx_k S + 6 ≤ 20000
def fx_exc (S : fx_S) : fx_S := ((S.1.1, S.1.2.1 + 1, S.1.2.2 + 6), S.2)
section FXQ
variable {G : fx_G} {d : Nat × Nat} {M : fx_M} {pc n : Nat} {L : List (Nat × Value)} {st : List Value} {S : fx_S} {Q : fx_R → fx_S → Prop}
theorem fx_qi_k {F : Int32 → fx_S → Prop} {rest : List Value} (hk : ∀ r S', F r S' → fx_Go G d M n L (.int r :: rest) S' Q) : ∀ v S', fx_qi F Q (.inl v) S' → fx_Go G d M n L (v.toList ++ rest) S' Q := by
  intro v S' h
  match v, h with
  | some (.int r), h => exact hk r S' h
theorem fx_qv_k {F : fx_S → Prop} {rest : List Value} (hk : ∀ S', F S' → fx_Go G d M n L rest S' Q) : ∀ v S', fx_qv F Q (.inl v) S' → fx_Go G d M n L (v.toList ++ rest) S' Q := by
  intro v S' h
  match v, h with
  | none, h => exact hk S' h
theorem fx_ldc {index : Nat} {v : Int32} (hd : decode M.2.1 pc = .ok (.ldc index, 2)) (hw : Cond.constant M.1.cls index v ∈ lw_tbl) (hn : pc + 2 = n) (kk : fx_Go G d M n L (.int v :: st) S Q) : fx_Go G d M pc L st S Q := by
  subst hn
  intro p l e R s m args below meth c H locs cells slots ls hC hH hB hl
  exact lv_ldc hC.x hC.cc hC.own (hC.w hw (Or.inl rfl) args) hd (kk p l e R s m args below meth c H locs cells slots ls hC hH hB hl)
end FXQ
