/-! the shape once more, as the program's rows ask it -/
def isA (a n : Nat) : Prop := a < 85 ∧ sh_kd a = (100, n)
def isAM (a n : Nat) : Prop := (85 ≤ a ∧ a < 95) ∧ sh_kd a = (100, n)
def fx_cp2 (Nb Na : Nat) (sp dp k : Int32) : Prop := ¬ sp < 0 ∧ ¬ dp < 0 ∧ ¬ k < 0 ∧ sp.toNatClampNeg + k.toNatClampNeg ≤ Nb ∧ dp.toNatClampNeg + k.toNatClampNeg ≤ Na
theorem fx_cp2.to {S : fx_S} {b a Nb Na : Nat} {sp dp k : Int32} (hb : fx_ln S b = Nb) (ha : fx_ln S a = Na) (h : fx_cp2 Nb Na sp dp k) : fx_cpy S b a sp dp k := by
  subst hb; subst ha; exact h
theorem vin_lt {i : Int32} {n : Nat} (h : vp_in i n) : i.toNatClampNeg < n := Nat.not_le.mp fun q => h (Or.inr q)
theorem isH.n {a : Nat} (h : isH a) : isN (a + 1) := h.2.2.2.2.2.2.1
theorem isH.y {a : Nat} (h : isH a) : isY (a + 4) := h.2.2.2.2.2.2.2
theorem isA_image : isA 83 64 := by unfold isA; decide
theorem isA_entries : isA 84 12 := by unfold isA; decide
theorem isH.h {a : Nat} (h : isH a) : isA (a + 3) 54 := ⟨by have := h.1; omega, h.2.2.1⟩
section SH2
variable {S : fx_S} {a n : Nat} {i : Int32}
theorem shC.iN (h : shC S) (hp : isN a) : fx_is S a 2 := h.is (I := fx_I S) (by have := hp.1; omega) (congrArg Prod.fst hp.2.1)
theorem shC.iNl (h : shC S) (hp : isN a) : fx_is S (a + 1) 100 := h.is (I := fx_I S) hp.1 (congrArg Prod.fst hp.2.2.1)
theorem shC.lNl (h : shC S) (hp : isN a) : fx_ln S (a + 1) = 8 := h.ln (I := fx_I S) hp.1 (congrArg Prod.snd hp.2.2.1)
theorem shC.vNl (h : shC S) (hp : isN a) (hi : vp_in i 8) : vp_in i (fx_ln S (a + 1)) := by rw [h.lNl hp]; exact hi
theorem shC.pN (h : shC S) (hp : isN a) : fx_P S a 0 = some (a + 1) := h.P (I := fx_I S) (by have := hp.1; omega) hp.2.2.2
theorem shC.iY (h : shC S) (hp : isY a) : fx_is S a 1 := h.is (I := fx_I S) (by have := hp.1; omega) (congrArg Prod.fst hp.2.1)
theorem shC.iYl (h : shC S) (hp : isY a) : fx_is S (a + 1) 100 := h.is (I := fx_I S) hp.1 (congrArg Prod.fst hp.2.2.1)
theorem shC.lYl (h : shC S) (hp : isY a) : fx_ln S (a + 1) = 63 := h.ln (I := fx_I S) hp.1 (congrArg Prod.snd hp.2.2.1)
theorem shC.vYl (h : shC S) (hp : isY a) (hi : vp_in i 63) : vp_in i (fx_ln S (a + 1)) := by rw [h.lYl hp]; exact hi
theorem shC.pY (h : shC S) (hp : isY a) : fx_P S a 0 = some (a + 1) := h.P (I := fx_I S) (by have := hp.1; omega) hp.2.2.2
theorem shC.iH (h : shC S) (hp : isH a) : fx_is S a 3 := h.is (I := fx_I S) (by have := hp.1; omega) (congrArg Prod.fst hp.2.1)
theorem shC.iA (h : shC S) (hp : isA a n) : fx_is S a 100 := h.is (I := fx_I S) hp.1 (congrArg Prod.fst hp.2)
theorem shC.lA (h : shC S) (hp : isA a n) : fx_ln S a = n := h.ln (I := fx_I S) hp.1 (congrArg Prod.snd hp.2)
theorem shC.vA (h : shC S) (hp : isA a n) (hi : vp_in i n) : vp_in i (fx_ln S a) := by rw [h.lA hp]; exact hi
theorem shC.iHh (h : shC S) (hp : isH a) : fx_is S (a + 3) 100 := h.iA hp.h
theorem shC.lHh (h : shC S) (hp : isH a) : fx_ln S (a + 3) = 54 := h.lA hp.h
theorem shC.vHh (h : shC S) (hp : isH a) (hi : vp_in i 54) : vp_in i (fx_ln S (a + 3)) := h.vA hp.h hi
theorem shC.pHn (h : shC S) (hp : isH a) : fx_P S a 5 = some (a + 1) := h.P (I := fx_I S) (by have := hp.1; omega) hp.2.2.2.1
theorem shC.pHh (h : shC S) (hp : isH a) : fx_P S a 6 = some (a + 3) := h.P (I := fx_I S) (by have := hp.1; omega) hp.2.2.2.2.1
theorem shC.pHy (h : shC S) (hp : isH a) : fx_P S a 7 = some (a + 4) := h.P (I := fx_I S) (by have := hp.1; omega) hp.2.2.2.2.2.1
theorem shM.iA (h : shM S) (hp : isAM a n) : fx_is S a 100 := h.is (I := fx_I S) hp.1 (congrArg Prod.fst hp.2)
theorem shM.lA (h : shM S) (hp : isAM a n) : fx_ln S a = n := h.ln (I := fx_I S) hp.1 (congrArg Prod.snd hp.2)
theorem shM.vA (h : shM S) (hp : isAM a n) (hi : vp_in i n) : vp_in i (fx_ln S a) := by rw [h.lA hp]; exact hi
end SH2
section CONS
variable {G : fx_G} {d : Nat × Nat} {M : fx_M} {pc : Nat} {L : List (Nat × Value)} {st : List Value} {S : fx_S} {Q Q' : fx_R → fx_S → Prop}
theorem fx_cons (h : fx_Go G d M pc L st S Q') (hq : ∀ o S1, Q' o S1 → Q o S1) : fx_Go G d M pc L st S Q := by
  intro p l e R s m args below meth c H locs cells slots ls hC hH hB hl
  refine fx_wmono (fun t ht => ?_) (h p l e R s m args below meth c H locs cells slots ls hC hH hB hl)
  obtain ⟨h1, o, S1, L1, k, n, h2, h3, h4, h5, h6, h7⟩ := ht
  refine ⟨h1, o, S1, L1, k, n, h2, h3, h4, h5, h6, ?_⟩
  cases o with
  | returned v => exact hq _ _ h7
  | threw a =>
    obtain ⟨k9, cell, g1, g2, g3, g4⟩ := h7
    exact ⟨k9, cell, g1, g2, g3, hq _ _ g4⟩
theorem fx_qi_m {F F' : Int32 → fx_S → Prop} (h : ∀ r S1, F' r S1 → F r S1) : ∀ o S1, fx_qi F' Q o S1 → fx_qi F Q o S1 := by
  intro o S1 hq
  match o, hq with
  | .inl (some (.int r)), hq => exact h r S1 hq
  | .inr k, hq => exact hq
theorem fx_qv_m {F F' : fx_S → Prop} (h : ∀ S1, F' S1 → F S1) : ∀ o S1, fx_qv F' Q o S1 → fx_qv F Q o S1 := by
  intro o S1 hq
  match o, hq with
  | .inl none, hq => exact h S1 hq
  | .inr k, hq => exact hq
end CONS
