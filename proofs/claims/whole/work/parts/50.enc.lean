/-! What a record that was written reads as. -/
def bfr (s : AS) (i : Nat) : Nat := if i = 0 then aS s else if i = 1 then aP s else if i < 10 then 0 else gd (atA s) (i - 10)
def encB (s : AS) (n : Nat) : Nat → Nat := fixB (bfr s) n (atA s).length
def setN (s : AS) (n : Nat) : AS := (aS s, aP s, n, aM s, aK s, aH s, aZ s, aL s)
theorem setN_at (s : AS) (n : Nat) : atA (setN s n) = atA s := rfl
theorem fixB_cg {b b' : Nat → Nat} {n l : Nat} (h : ∀ i, i < 64 → b i = b' i) : ∀ i, i < 64 → fixB b n l i = fixB b' n l i := by
  intro i hi
  unfold fixB
  rw [h 30 (by omega), h 31 (by omega), h 62 (by omega), h 63 (by omega), h i hi]
theorem secP_cg {D b b' : Nat → Nat} {r k n : Nat} (hk : k + n ≤ 64) (h : ∀ i, i < 64 → b i = b' i) : secP D r k n b = secP D r k n b' := by
  funext q
  unfold secP
  split
  · exact h _ (by omega)
  · rfl
theorem stD_cg {D b b' : Nat → Nat} {r t : Nat} (h : ∀ i, i < 64 → b i = b' i) : stD D r b t = stD D r b' t := by
  unfold stD secD
  rw [secP_cg (D := D) (k := 32 * 0) (by omega) h, secP_cg (k := 32 * 1) (by omega) h]
theorem putL_bfr {b : Nat → Nat} {s : AS} (hb : ∀ i, i < 64 → b i = bg (aS s) (aP s) i) : ∀ i, i < 64 → putL b 10 (atA s) i = bfr s i := by
  intro i hi
  unfold putL bfr
  by_cases h : 10 ≤ i ∧ i < 10 + (atA s).length ∧ i < 64
  · rw [if_pos h, if_neg (by omega), if_neg (by omega), if_neg (by omega)]
  · rw [if_neg h, hb i hi]
    unfold bg
    by_cases h0 : i = 0
    · rw [if_pos h0, if_pos h0]
    · rw [if_neg h0, if_neg h0]
      by_cases h1 : i = 1
      · rw [if_pos h1, if_pos h1]
      · rw [if_neg h1, if_neg h1]
        by_cases h2 : i < 10
        · rw [if_pos h2]
        · rw [if_neg h2, gd_out (by omega)]
/-- both sectors, one sector -/
def st2 (D : Nat → Nat) (r : Nat) (b : Nat → Nat) : Nat → Nat := secD (secD D r 0 b) r 1 b
theorem st2_in (D : Nat → Nat) (r : Nat) (b : Nat → Nat) (j : Nat) (h : j < 64) : st2 D r b (64 * r + j) = b j := by
  unfold st2 secD secP
  by_cases h1 : 32 ≤ j
  · rw [if_pos (by omega)]; congr 1; omega
  · rw [if_neg (by omega), if_pos (by omega)]; congr 1; omega
theorem st2_out (D : Nat → Nat) (r : Nat) (b : Nat → Nat) (q : Nat) (h : q < 64 * r ∨ 64 * r + 64 ≤ q) : st2 D r b q = D q := by
  unfold st2 secD secP
  rw [if_neg (by omega), if_neg (by omega)]
theorem st1_in (D : Nat → Nat) (r : Nat) (b : Nat → Nat) (j : Nat) (h : j < 32) : secD D r 0 b (64 * r + j) = b j := by
  unfold secD secP
  rw [if_pos (by omega)]; congr 1; omega
theorem st1_out (D : Nat → Nat) (r : Nat) (b : Nat → Nat) (q : Nat) (h : q < 64 * r ∨ 64 * r + 32 ≤ q) : secD D r 0 b q = D q := by
  unfold secD secP
  rw [if_neg (by omega)]
theorem stD_out (D : Nat → Nat) (r : Nat) (b : Nat → Nat) (t q : Nat) (h : q < 64 * r ∨ 64 * r + 64 ≤ q) : stD D r b t q = D q := by
  unfold stD
  split
  · rfl
  · split
    · exact st1_out _ _ _ _ (by omega)
    · exact st2_out _ _ _ _ h
theorem stD_ok {t : Nat} (h : stOk t = true) (D : Nat → Nat) (r : Nat) (b : Nat → Nat) : stD D r b t = st2 D r b := by
  unfold stOk at h
  simp at h
  unfold stD
  rw [if_neg h.1, if_neg h.2]
  rfl
theorem byt_cg {D D' : Nat → Nat} {r k : Nat} (hk : k < 64) (h : ∀ j, j < 64 → D' (64 * r + j) = D (64 * r + j)) : byt D' r k = byt D r k := by
  unfold byt
  have e1 := h 4 (by omega)
  have e2 := h 5 (by omega)
  have e3 := h 6 (by omega)
  have e4 := h 7 (by omega)
  by_cases h30 : k = 30
  · subst h30; exact e1
  by_cases h31 : k = 31
  · subst h31; exact e2
  by_cases h62 : k = 62
  · subst h62; exact e3
  by_cases h63 : k = 63
  · subst h63; exact e4
  rw [if_neg (by omega), if_neg (by omega), h k hk]
  rw [if_neg (show ¬ (k = 30 ∨ k = 31) by omega), if_neg (show ¬ (k = 62 ∨ k = 63) by omega)]
theorem Rec.cg {D D' : Nat → Nat} {r : Nat} {s : AS} (hR : Rec D r s) (h : ∀ j, j < 64 → D' (64 * r + j) = D (64 * r + j)) : Rec D' r s := fun k hk => (byt_cg hk h).trans (hR k hk)
theorem Rec.other {D : Nat → Nat} {r r' : Nat} {s : AS} (hR : Rec D r s) (h : r ≠ r') (b : Nat → Nat) (t : Nat) : Rec (stD D r' b t) r s := hR.cg fun j hj => stD_out _ _ _ _ _ (by omega)
theorem encB_lo (s : AS) (n : Nat) : encB s n 4 = gd (atA s) 20 ∧ encB s n 5 = gd (atA s) 21 ∧ encB s n 6 = gd (atA s) 52 ∧ encB s n 7 = gd (atA s) 53 := ⟨rfl, rfl, rfl, rfl⟩
theorem Rec.new (D : Nat → Nat) (r : Nat) (s : AS) (n : Nat) : Rec (st2 D r (encB s n)) r (setN s n) := by
  obtain ⟨l4, l5, l6, l7⟩ := encB_lo s n
  have e4 := st2_in D r (encB s n) 4 (by omega)
  have e5 := st2_in D r (encB s n) 5 (by omega)
  have e6 := st2_in D r (encB s n) 6 (by omega)
  have e7 := st2_in D r (encB s n) 7 (by omega)
  intro k hk
  unfold byt
  by_cases h30 : k = 30
  · subst h30; exact e4.trans l4
  by_cases h31 : k = 31
  · subst h31; exact e5.trans l5
  by_cases h62 : k = 62
  · subst h62; exact e6.trans l6
  by_cases h63 : k = 63
  · subst h63; exact e7.trans l7
  rw [if_neg (by omega), if_neg (by omega), st2_in _ _ _ _ hk]
  unfold rv
  rw [setN_at]
  by_cases h47 : 3 < k ∧ k < 8
  · rw [if_pos h47, if_neg (by omega), if_neg (by omega), if_neg (by omega), if_neg (by omega), if_neg (by omega), if_pos (by omega)]
  · rw [if_neg h47]
    unfold encB fixB bfr
    by_cases h0 : k = 0
    · subst h0; rfl
    by_cases h1 : k = 1
    · subst h1; rfl
    by_cases h2 : k = 2
    · subst h2; rfl
    by_cases h3 : k = 3
    · subst h3; rfl
    by_cases h8 : k = 8
    · subst h8; rfl
    rw [if_neg h8, if_neg (by omega), if_neg (by omega), if_neg (by omega), if_neg (by omega), if_neg (by omega), if_neg (by omega), if_neg h0, if_neg h1, if_neg h0, if_neg h1, if_neg h2, if_neg h3, if_neg h8]
theorem encB_n (s : AS) (n : Nat) : encB s n 2 = n % 256 ∧ encB s n 3 = n / 256 ∧ encB s n 30 = n % 256 ∧ encB s n 31 = n / 256 ∧ encB s n 62 = n % 256 ∧ encB s n 63 = n / 256 ∧ encB s n 0 = aS s := ⟨rfl, rfl, rfl, rfl, rfl, rfl, rfl⟩
theorem st2_w (D : Nat → Nat) (r : Nat) (s : AS) (n : Nat) : wrd (st2 D r (encB s n)) (64 * r + 2) = n ∧ wrd (st2 D r (encB s n)) (64 * r + 30) = n ∧ wrd (st2 D r (encB s n)) (64 * r + 62) = n ∧ st2 D r (encB s n) (64 * r) = aS s := by
  obtain ⟨a, b, c, d, e, f, g⟩ := encB_n s n
  unfold wrd
  have h := fun j hj => st2_in D r (encB s n) j hj
  have h0 := h 0 (by omega)
  rw [Nat.add_zero] at h0
  rw [Nat.add_assoc, Nat.add_assoc, Nat.add_assoc, h 2 (by omega), h (2 + 1) (by omega), h 30 (by omega), h (30 + 1) (by omega), h 62 (by omega), h (62 + 1) (by omega), h0, a, b, c, d, e, f, g]
  exact ⟨by omega, by omega, by omega, rfl⟩
theorem st1_w (D : Nat → Nat) (r : Nat) (s : AS) (n : Nat) : wrd (secD D r 0 (encB s n)) (64 * r + 2) = n ∧ wrd (secD D r 0 (encB s n)) (64 * r + 30) = n ∧ wrd (secD D r 0 (encB s n)) (64 * r + 62) = wrd D (64 * r + 62) := by
  obtain ⟨a, b, c, d, e, f, g⟩ := encB_n s n
  unfold wrd
  have h := fun j hj => st1_in D r (encB s n) j hj
  rw [Nat.add_assoc, Nat.add_assoc, h 2 (by omega), h (2 + 1) (by omega), h 30 (by omega), h (30 + 1) (by omega), st1_out _ _ _ _ (by omega), st1_out _ _ _ _ (by omega), a, b, c, d]
  exact ⟨by omega, by omega, rfl⟩
theorem rnF_lt : ∀ (n b : Nat) (l : List (Option Nat)), l.length < 255 → ∀ x ∈ rnF n b l, x < 256
  | 0, _, _, _, x, h => by simp [rnF] at h
  | n + 1, _, [], _, x, h => by simp [rnF] at h
  | n + 1, b, none :: t, hl, x, h => by
    simp only [List.length_cons] at hl
    have := cont_le none t
    simp only [rnF, List.mem_cons] at h
    rcases h with h | h | h
    · omega
    · omega
    · exact rnF_lt n b _ (by rw [List.length_drop]; omega) x h
  | n + 1, b, some c :: t, hl, x, h => by
    simp only [List.length_cons] at hl
    have := cont_le (some c) t
    simp only [rnF, List.mem_cons] at h
    rcases h with h | h | h | h
    · omega
    · omega
    · omega
    · exact rnF_lt n c _ (by rw [List.length_drop]; omega) x h
theorem wf.at {s : AS} (h : wf s) : ∀ x ∈ atA s, x < 256 := by
  intro x hx
  have hal := h.al
  have hlen := atA_len s
  unfold atA at hx
  rcases List.mem_append.mp hx with hx | hx
  · unfold nmA at hx
    have hl := h.nl
    split at hx
    · simp at hx
    · simp only [List.mem_cons] at hx
      rcases hx with hx | hx | hx
      · omega
      · omega
      · have := h.nx x hx; omega
  · unfold dtA at hx
    split at hx
    · simp at hx
    · rename_i h0
      split at hx
      · rename_i h3
        have hz := h.z h3
        have hpl := h.pl
        have hl3 := h.l3 h3
        simp only [List.mem_cons, List.mem_append, List.not_mem_nil, or_false] at hx
        rcases hx with hx | hx | hx | hx | hx | hx
        · omega
        · omega
        · omega
        · omega
        · exact rnF_lt _ _ _ (by omega) x hx
        · omega
      · rename_i h3
        have hh := h.hl h3
        have hk := h.ka
        simp only [List.mem_cons] at hx
        rcases hx with hx | hx | hx
        · omega
        · omega
        · exact h.hb x hx
/-- a free record's sheet -/
def frA (n : Nat) : AS := (0, 0, n, [], 0, [], 0, [])
theorem encB_lt {s : AS} (n : Nat) (hn : n < 65536) (hS : aS s < 256) (hP : aP s < 256) (hl : (atA s).length < 256) (ha : ∀ x ∈ atA s, x < 256) (k : Nat) : encB s n k < 256 := by
  have hg := fun i => gd_lt (l := atA s) (b := 256) (by omega) ha i
  have hb : ∀ i, bfr s i < 256 := by
    intro i
    unfold bfr
    split
    · exact hS
    · split
      · exact hP
      · split
        · omega
        · exact hg _
  unfold encB fixB
  have h1 := hb 30
  have h2 := hb 31
  have h3 := hb 62
  have h4 := hb 63
  have h5 := hb k
  repeat' split
  all_goals omega
theorem secP_lt {D b : Nat → Nat} {r k n : Nat} (hB : ∀ k, D k < 256) (hb : ∀ k, b k < 256) (q : Nat) : secP D r k n b q < 256 := by
  unfold secP
  split
  · exact hb _
  · exact hB _
theorem st_lt {D b : Nat → Nat} {r t : Nat} (hB : ∀ k, D k < 256) (hb : ∀ k, b k < 256) (k : Nat) : stD D r b t k < 256 := by
  unfold stD secD
  split
  · exact hB _
  · split
    · exact secP_lt hB hb _
    · exact secP_lt (fun q => secP_lt hB hb q) hb _
theorem Rec.w {D : Nat → Nat} {r : Nat} {s : AS} (hR : Rec D r s) (hw : aN s < 65536) : wrd D (64 * r + 2) = aN s := by
  have h2 : D (64 * r + 2) = aN s % 256 := hR 2 (by omega)
  have h3 : D (64 * r + 2 + 1) = aN s / 256 := hR 3 (by omega)
  unfold wrd
  rw [h2, h3]
  omega
theorem Rec.s {D : Nat → Nat} {r : Nat} {s : AS} (hR : Rec D r s) : D (64 * r) = aS s := hR 0 (by omega)
theorem Rec.p {D : Nat → Nat} {r : Nat} {s : AS} (hR : Rec D r s) : D (64 * r + 1) = aP s := hR 1 (by omega)
