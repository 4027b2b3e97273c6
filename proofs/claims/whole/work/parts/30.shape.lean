/-! THE PURE PART. What the cells are behind the constructors; states by their ints alone. -/
def sh_kd (i : Nat) : Nat × Nat :=
  if i < 4 then (match i with
    | 0 => (4, 0)
    | 1 => (0, 0)
    | 2 => (100, 2048)
    | _ => (104, 12))
  else if i < 76 then (match (i - 4) % 6 with
    | 0 => (3, 0)
    | 1 => (2, 0)
    | 2 => (100, 8)
    | 3 => (100, 54)
    | 4 => (1, 0)
    | _ => (100, 63))
  else match i with
    | 76 => (101, 128)
    | 77 => (2, 0)
    | 78 => (100, 8)
    | 79 => (2, 0)
    | 80 => (100, 8)
    | 81 => (1, 0)
    | 82 => (100, 63)
    | 83 => (100, 64)
    | 84 => (100, 12)
    | 85 => (5, 0)
    | 86 => (100, 2048)
    | 87 => (101, 12)
    | 88 => (101, 128)
    | 89 => (102, 8)
    | 90 => (100, 64)
    | 91 => (100, 64)
    | 92 => (101, 64)
    | 93 => (100, 64)
    | 94 => (100, 12)
    | _ => (0, 0)
def sh_P (i j : Nat) : Option Nat :=
  if i = 0 then (match j with
    | 0 => some 1
    | 1 => some 3
    | 2 => some 76
    | 3 => some 77
    | 5 => some 79
    | 6 => some 81
    | 7 => some 83
    | 8 => some 84
    | _ => none)
  else if i = 1 then (if j = 0 then some 2 else none)
  else if i = 3 then (if j < 12 then some (4 + 6 * j) else none)
  else if 4 ≤ i ∧ i < 76 then (match (i - 4) % 6 with
    | 0 => if j = 5 then some (i + 1) else if j = 6 then some (i + 3) else if j = 7 then some (i + 4) else none
    | 1 => if j = 0 then some (i + 1) else none
    | 4 => if j = 0 then some (i + 1) else none
    | _ => none)
  else if i = 77 ∨ i = 79 ∨ i = 81 then (if j = 0 then some (i + 1) else none)
  else if i = 85 then (match j with
    | 1 => some 86
    | 2 => some 87
    | 3 => some 88
    | 7 => some 89
    | 8 => some 90
    | 11 => some 91
    | 12 => some 92
    | 13 => some 93
    | 15 => some 94
    | _ => none)
  else none
/-- the class's cells, 0 to 84; the reference's, 85 to 94 -/
def shC (S : fx_S) : Prop := 85 ≤ fx_m S ∧ (∀ i, i < 85 → S.2.1 i = sh_kd i) ∧ ∀ i, i < 85 → fx_P S i = sh_P i
def shM (S : fx_S) : Prop := 95 ≤ fx_m S ∧ (∀ i, 85 ≤ i → i < 95 → S.2.1 i = sh_kd i) ∧ ∀ i, 85 ≤ i → i < 95 → fx_P S i = sh_P i
/-- the same state with other ints -/
def fx_wI (S : fx_S) (I : Nat → Nat → Int32) : fx_S := (S.1, S.2.1, I, S.2.2.2)
def fx_w (I : Nat → Nat → Int32) (a j : Nat) (x : Int32) : Nat → Nat → Int32 := fx_row I a (upd (I a) j x)
theorem wI_self (S : fx_S) : fx_wI S (fx_I S) = S := rfl
theorem wI_I (S : fx_S) (I : Nat → Nat → Int32) : fx_I (fx_wI S I) = I := rfl
theorem wI_setI (S : fx_S) (I : Nat → Nat → Int32) (a j : Nat) (x : Int32) : fx_setI (fx_wI S I) a j x = fx_wI S (fx_w I a j x) := rfl
theorem wI_setR (S : fx_S) (I : Nat → Nat → Int32) (a : Nat) (g : Nat → Int32) : fx_setR (fx_wI S I) a g = fx_wI S (fx_row I a g) := rfl
theorem fw_at (I : Nat → Nat → Int32) (a j : Nat) (x : Int32) : fx_w I a j x a j = x := by simp [fx_w, fx_row, upd]
theorem fw_ne {I : Nat → Nat → Int32} {a j b : Nat} {x : Int32} (h : b ≠ a) : fx_w I a j x b = I b := by simp [fx_w, fx_row, h]
theorem fw_nj {I : Nat → Nat → Int32} {a j i : Nat} {x : Int32} (h : i ≠ j) : fx_w I a j x a i = I a i := by simp [fx_w, fx_row, upd, h]
theorem fw_if (I : Nat → Nat → Int32) (a j : Nat) (x : Int32) (b i : Nat) : fx_w I a j x b i = if b = a ∧ i = j then x else I b i := by
  by_cases hb : b = a
  · subst hb
    by_cases hi : i = j
    · subst hi; simp [fw_at]
    · simp [fw_nj hi, hi]
  · simp [fw_ne hb, hb]
section SH
variable {S : fx_S} {I : Nat → Nat → Int32} {a c j r N : Nat} {i : Int32}
theorem shC.is (h : shC S) (ha : a < 85) (hk : (sh_kd a).1 = c) : fx_is (fx_wI S I) a c := ⟨Nat.lt_of_lt_of_le ha h.1, (congrArg Prod.fst (h.2.1 a ha)).trans hk⟩
theorem shC.ln (h : shC S) (ha : a < 85) (hk : (sh_kd a).2 = N) : fx_ln (fx_wI S I) a = N := (congrArg Prod.snd (h.2.1 a ha)).trans hk
theorem shC.P (h : shC S) (ha : a < 85) (hp : sh_P a j = some r) : fx_P (fx_wI S I) a j = some r := (congrFun (h.2.2 a ha) j).trans hp
theorem shC.vin (h : shC S) (ha : a < 85) (hk : (sh_kd a).2 = N) (hi : vp_in i N) : vp_in i (fx_ln (fx_wI S I) a) := by rw [h.ln ha hk]; exact hi
theorem shM.is (h : shM S) (ha : 85 ≤ a ∧ a < 95) (hk : (sh_kd a).1 = c) : fx_is (fx_wI S I) a c := ⟨Nat.lt_of_lt_of_le ha.2 h.1, (congrArg Prod.fst (h.2.1 a ha.1 ha.2)).trans hk⟩
theorem shM.ln (h : shM S) (ha : 85 ≤ a ∧ a < 95) (hk : (sh_kd a).2 = N) : fx_ln (fx_wI S I) a = N := (congrArg Prod.snd (h.2.1 a ha.1 ha.2)).trans hk
theorem shM.P (h : shM S) (ha : 85 ≤ a ∧ a < 95) (hp : sh_P a j = some r) : fx_P (fx_wI S I) a j = some r := (congrFun (h.2.2 a ha.1 ha.2) j).trans hp
theorem shM.vin (h : shM S) (ha : 85 ≤ a ∧ a < 95) (hk : (sh_kd a).2 = N) (hi : vp_in i N) : vp_in i (fx_ln (fx_wI S I) a) := by rw [h.ln ha hk]; exact hi
end SH
/-- a name's object (its letters behind it), a layout's (its places behind it), a sheet's -/
def isN (a : Nat) : Prop := a + 1 < 85 ∧ sh_kd a = (2, 0) ∧ sh_kd (a + 1) = (100, 8) ∧ sh_P a 0 = some (a + 1)
def isY (a : Nat) : Prop := a + 1 < 85 ∧ sh_kd a = (1, 0) ∧ sh_kd (a + 1) = (100, 63) ∧ sh_P a 0 = some (a + 1)
def isH (a : Nat) : Prop := a + 5 < 85 ∧ sh_kd a = (3, 0) ∧ sh_kd (a + 3) = (100, 54) ∧ sh_P a 5 = some (a + 1) ∧ sh_P a 6 = some (a + 3) ∧ sh_P a 7 = some (a + 4) ∧ isN (a + 1) ∧ isY (a + 4)
theorem isH_at : ∀ r, r < 12 → isH (4 + 6 * r) := by
  unfold isH isN isY
  decide
theorem sheet_at : ∀ r, r < 12 → sh_P 3 r = some (4 + 6 * r) := by decide
theorem isN_draft : isN 77 := by unfold isN; decide
theorem isN_given : isN 79 := by unfold isN; decide
theorem isY_plan : isY 81 := by unfold isY; decide
