/-! What a record says (an abstract sheet), and the 64 bytes that say it. -/
def gd (l : List Nat) (i : Nat) : Nat := l.getD i 0
theorem gd_nil (i : Nat) : gd [] i = 0 := rfl
theorem gd_0 (a : Nat) (l : List Nat) : gd (a :: l) 0 = a := rfl
theorem gd_s (a : Nat) (l : List Nat) (i : Nat) : gd (a :: l) (i + 1) = gd l i := rfl
theorem gd_l {l m : List Nat} {i : Nat} (h : i < l.length) : gd (l ++ m) i = gd l i := by
  unfold gd
  rw [List.getD_eq_getElem?_getD, List.getD_eq_getElem?_getD, List.getElem?_append_left h]
theorem gd_r {l m : List Nat} {i : Nat} (h : l.length ≤ i) : gd (l ++ m) i = gd m (i - l.length) := by
  unfold gd
  rw [List.getD_eq_getElem?_getD, List.getD_eq_getElem?_getD, List.getElem?_append_right h]
theorem gd_ra {l m : List Nat} (i : Nat) : gd (l ++ m) (l.length + i) = gd m i := by
  rw [gd_r (Nat.le_add_right _ _), Nat.add_sub_cancel_left]
theorem gd_out {l : List Nat} {i : Nat} (h : l.length ≤ i) : gd l i = 0 := by
  unfold gd
  rw [List.getD_eq_getElem?_getD, List.getElem?_eq_none h]
  rfl
theorem gd_mem {l : List Nat} {i : Nat} (h : i < l.length) : gd l i ∈ l := by
  unfold gd
  rw [List.getD_eq_getElem?_getD, List.getElem?_eq_getElem h]
  exact List.getElem_mem h
theorem gd_lt {l : List Nat} {b : Nat} (hb : 0 < b) (h : ∀ x ∈ l, x < b) (i : Nat) : gd l i < b := by
  by_cases hi : i < l.length
  · exact h _ (gd_mem hi)
  · rw [gd_out (by omega)]; exact hb
/-- state, parent, number, name, kind, bytes or entries, size of what is outside, its clusters -/
abbrev AS : Type := Nat × Nat × Nat × List Nat × Nat × List Nat × Nat × List (Option Nat)
def aS (s : AS) : Nat := s.1
def aP (s : AS) : Nat := s.2.1
def aN (s : AS) : Nat := s.2.2.1
def aM (s : AS) : List Nat := s.2.2.2.1
def aK (s : AS) : Nat := s.2.2.2.2.1
def aH (s : AS) : List Nat := s.2.2.2.2.2.1
def aZ (s : AS) : Nat := s.2.2.2.2.2.2.1
def aL (s : AS) : List (Option Nat) := s.2.2.2.2.2.2.2
/-- how many clusters go on a run -/
def cont : Option Nat → List (Option Nat) → Nat
  | none, none :: t => cont none t + 1
  | some c, some e :: t => if e = c + 1 then cont (some e) t + 1 else 0
  | _, _ => 0
theorem cont_le : ∀ (o : Option Nat) (l : List (Option Nat)), cont o l ≤ l.length
  | none, none :: t => by simp only [cont, List.length_cons]; have := cont_le none t; omega
  | some c, some e :: t => by
    simp only [cont, List.length_cons]
    have := cont_le (some e) t
    split <;> omega
  | none, some e :: t => by simp [cont]
  | some c, none :: t => by simp [cont]
  | none, [] => by simp [cont]
  | some c, [] => by simp [cont]
/-- the bytes of the runs, by fuel (as many as there are clusters) -/
def rnF : Nat → Nat → List (Option Nat) → List Nat
  | 0, _, _ => []
  | _ + 1, _, [] => []
  | n + 1, b, none :: t => 1 :: (cont none t + 1) :: rnF n b (t.drop (cont none t))
  | n + 1, b, some c :: t => 17 :: (cont (some c) t + 1) :: ((c + 256 - b) % 256) :: rnF n c (t.drop (cont (some c) t))
def rn (b : Nat) (l : List (Option Nat)) : List Nat := rnF l.length b l
theorem rnF_fuel : ∀ (n m b : Nat) (l : List (Option Nat)), l.length ≤ n → l.length ≤ m → rnF n b l = rnF m b l
  | 0, 0, _, _, _, _ => rfl
  | 0, m + 1, b, [], _, _ => rfl
  | n + 1, 0, b, [], _, _ => rfl
  | n + 1, m + 1, b, [], _, _ => rfl
  | n + 1, m + 1, b, none :: t, h, h' => by
    simp only [List.length_cons] at h h'
    simp only [rnF]
    rw [rnF_fuel n m b (t.drop (cont none t)) (by rw [List.length_drop]; omega) (by rw [List.length_drop]; omega)]
  | n + 1, m + 1, b, some c :: t, h, h' => by
    simp only [List.length_cons] at h h'
    simp only [rnF]
    rw [rnF_fuel n m c (t.drop (cont (some c) t)) (by rw [List.length_drop]; omega) (by rw [List.length_drop]; omega)]
  | 0, m + 1, b, x :: t, h, _ => by simp at h
  | n + 1, 0, b, x :: t, _, h => by simp at h
theorem rn_nil (b : Nat) : rn b [] = [] := rfl
theorem rn_none (b : Nat) (t : List (Option Nat)) : rn b (none :: t) = 1 :: (cont none t + 1) :: rn b (t.drop (cont none t)) := by
  simp only [rn, List.length_cons, rnF]
  rw [rnF_fuel t.length (t.drop (cont none t)).length b (t.drop (cont none t)) (by rw [List.length_drop]; omega) (Nat.le_refl _)]
theorem rn_some (b c : Nat) (t : List (Option Nat)) : rn b (some c :: t) = 17 :: (cont (some c) t + 1) :: ((c + 256 - b) % 256) :: rn c (t.drop (cont (some c) t)) := by
  simp only [rn, List.length_cons, rnF]
  rw [rnF_fuel t.length (t.drop (cont (some c) t)).length c (t.drop (cont (some c) t)) (by rw [List.length_drop]; omega) (Nat.le_refl _)]
def nmA (nm : List Nat) : List Nat := if nm.length = 0 then [] else 1 :: (nm.length + 2) :: nm
/-- the attribute of the data: of kind 3, else 2 or 4; none of a free record (kind 0) -/
def dtA (s : AS) : List Nat :=
  if aK s = 0 then []
  else if aK s = 3 then 3 :: (5 + (rn 48 (aL s)).length) :: (aZ s % 256) :: (aZ s / 256) :: (rn 48 (aL s) ++ [0])
  else aK s :: ((aH s).length + 2) :: aH s
def atA (s : AS) : List Nat := nmA (aM s) ++ dtA s
/-- the bytes as reading gives them -/
def rv (s : AS) (k : Nat) : Nat :=
  if k = 0 then aS s else if k = 1 then aP s else if k = 2 then aN s % 256 else if k = 3 then aN s / 256
  else if k = 8 then (atA s).length else if k < 10 then 0 else gd (atA s) (k - 10)
def byt (D : Nat → Nat) (r k : Nat) : Nat :=
  if k = 30 ∨ k = 31 then D (64 * r + k - 26) else if k = 62 ∨ k = 63 then D (64 * r + k - 56)
  else if 3 < k ∧ k < 8 then 0 else D (64 * r + k)
/-- record r reads as the sheet -/
def Rec (D : Nat → Nat) (r : Nat) (s : AS) : Prop := ∀ k, k < 64 → byt D r k = rv s k
theorem nmA_len (nm : List Nat) : (nmA nm).length = if nm.length = 0 then 0 else nm.length + 2 := by
  unfold nmA
  split <;> simp
theorem dtA_len (s : AS) : (dtA s).length = if aK s = 0 then 0 else if aK s = 3 then 5 + (rn 48 (aL s)).length else (aH s).length + 2 := by
  unfold dtA
  split
  · rfl
  · split <;> simp <;> omega
/-- what a sheet in use must be -/
def wf (s : AS) : Prop :=
  (aS s = 1 ∧ (aK s = 2 ∨ aK s = 3) ∨ aS s = 2 ∧ aK s = 4) ∧ aP s < 12 ∧ aN s < 65536 ∧ (aM s).length ≤ 8 ∧ (∀ x ∈ aM s, 48 ≤ x ∧ x ≤ 122) ∧ (atA s).length ≤ 54 ∧
  (∀ x ∈ aH s, x < 256) ∧ (aK s = 4 → ∀ x ∈ aH s, x < 12) ∧ (aK s ≠ 3 → aL s = []) ∧ (aK s = 3 → 0 < aZ s ∧ aZ s ≤ 1000 ∧ (aL s).length = (aZ s + 15) / 16 ∧ aH s = [] ∧ ∀ c, some c ∈ aL s → 48 ≤ c ∧ c < 128)
theorem rv_at (s : AS) (i : Nat) : rv s (10 + i) = gd (atA s) i := by
  unfold rv
  rw [if_neg (by omega), if_neg (by omega), if_neg (by omega), if_neg (by omega), if_neg (by omega), if_neg (by omega), Nat.add_sub_cancel_left]
theorem rv_nm (s : AS) (i : Nat) (h : i < (aM s).length) : rv s (12 + i) = gd (aM s) i := by
  have : 12 + i = 10 + (i + 1 + 1) := by omega
  rw [this, rv_at]
  unfold atA
  rw [gd_l (by rw [nmA_len, if_neg (by omega)]; omega)]
  unfold nmA
  rw [if_neg (by omega)]
  rfl
theorem rv_10 (s : AS) (h : (aM s).length ≠ 0) : rv s 10 = 1 ∧ rv s 11 = (aM s).length + 2 := by
  have e0 := rv_at s 0
  have e1 := rv_at s 1
  unfold atA nmA at e0 e1
  rw [if_neg h] at e0 e1
  exact ⟨e0, e1⟩
theorem rv_dt (s : AS) (i : Nat) : rv s (10 + (nmA (aM s)).length + i) = gd (dtA s) i := by
  rw [Nat.add_assoc, rv_at]
  unfold atA
  rw [gd_ra]
theorem atA_len (s : AS) : (atA s).length = (nmA (aM s)).length + (dtA s).length := by
  unfold atA
  rw [List.length_append]
theorem rv_8 (s : AS) : rv s 8 = (atA s).length := rfl
theorem rv_d0 (s : AS) (h : aK s ≠ 0) : rv s (10 + (nmA (aM s)).length) = aK s := by
  have := rv_dt s 0
  rw [Nat.add_zero] at this
  rw [this]
  unfold dtA
  rw [if_neg h]
  by_cases h3 : aK s = 3
  · rw [if_pos h3, gd_0, h3]
  · rw [if_neg h3, gd_0]
theorem rv_d1 (s : AS) (h : aK s ≠ 0) : rv s (10 + (nmA (aM s)).length + 1) = (dtA s).length := by
  rw [rv_dt s 1, dtA_len, if_neg h]
  unfold dtA
  rw [if_neg h]
  by_cases h3 : aK s = 3
  · rw [if_pos h3, if_pos h3]; rfl
  · rw [if_neg h3, if_neg h3]; rfl
