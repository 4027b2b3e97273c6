/-! The class: who leads to the root. -/
def cLr (U : Nat → Bool) (g : Nat → AS) : Nat → Nat → Bool
  | 0, _ => false
  | n + 1, k => if U k = true ∧ aS (g k) = 2 then (if k = 0 then true else cLr U g n (aP (g k))) else false
theorem cLr_lup (U : Nat → Bool) (g : Nat → AS) : ∀ (n k : Nat), cLr U g (n + 1) k = if U k = true ∧ aS (g k) = 2 then lup U g n k else false
  | 0, k => by
    unfold cLr lup
    by_cases c : U k = true ∧ aS (g k) = 2
    · rw [if_pos c, if_pos c]
      by_cases e : k = 0
      · rw [if_pos e, decide_eq_true e]
      · rw [if_neg e, decide_eq_false e]
        rfl
    · rw [if_neg c, if_neg c]
  | n + 1, k => by
    have ih := cLr_lup U g n (aP (g k))
    rw [show cLr U g (n + 1 + 1) k = if U k = true ∧ aS (g k) = 2 then (if k = 0 then true else cLr U g (n + 1) (aP (g k))) else false from rfl, ih]
    rfl
theorem cLr_mono (U : Nat → Bool) (g : Nat → AS) : ∀ (n k : Nat), cLr U g n k = true → cLr U g (n + 1) k = true
  | 0, k, h => by cases h
  | n + 1, k, h => by
    rw [show cLr U g (n + 1) k = if U k = true ∧ aS (g k) = 2 then (if k = 0 then true else cLr U g n (aP (g k))) else false from rfl] at h
    rw [show cLr U g (n + 1 + 1) k = if U k = true ∧ aS (g k) = 2 then (if k = 0 then true else cLr U g (n + 1) (aP (g k))) else false from rfl]
    by_cases c : U k = true ∧ aS (g k) = 2
    · rw [if_pos c] at h ⊢
      by_cases e : k = 0
      · rw [if_pos e]
      · rw [if_neg e] at h ⊢
        exact cLr_mono U g n _ h
    · rw [if_neg c] at h
      cases h
theorem cLr_stab (U : Nat → Bool) (g : Nat → AS) (hp : ∀ k, k < 12 → aP (g k) < 12) (n : Nat) (h : ∀ k, k < 12 → cLr U g (n + 1) k = cLr U g n k) : ∀ k, k < 12 → cLr U g (n + 1 + 1) k = cLr U g (n + 1) k := by
  intro k hk
  rw [show cLr U g (n + 1 + 1) k = if U k = true ∧ aS (g k) = 2 then (if k = 0 then true else cLr U g (n + 1) (aP (g k))) else false from rfl, h _ (hp k hk)]
  rfl
theorem fil_lt (p q : Nat → Bool) : ∀ (l : List Nat), (∀ x ∈ l, p x = true → q x = true) → (∃ x ∈ l, p x = false ∧ q x = true) → (l.filter p).length < (l.filter q).length
  | [], _, ⟨x, hx, _⟩ => by cases hx
  | y :: t, h, ⟨x, hx, h1, h2⟩ => by
    have hle : (t.filter p).length ≤ (t.filter q).length := by
      have : ∀ (t : List Nat), (∀ x ∈ t, p x = true → q x = true) → (t.filter p).length ≤ (t.filter q).length := by
        intro t
        induction t with
        | nil => intro _; exact Nat.le_refl _
        | cons z t ih =>
          intro hz
          have := ih (fun x hx => hz x (List.mem_cons_of_mem _ hx))
          have hz0 := hz z (List.mem_cons_self ..)
          rw [List.filter_cons, List.filter_cons]
          cases hp : p z with
          | true =>
            rw [if_pos rfl, if_pos (hz0 hp)]
            simp only [List.length_cons]
            omega
          | false =>
            rw [if_neg (by decide)]
            split
            · simp only [List.length_cons]
              omega
            · exact this
      exact this t (fun x hx => h x (List.mem_cons_of_mem _ hx))
    rw [List.filter_cons, List.filter_cons]
    rcases List.mem_cons.mp hx with e | e
    · subst e
      rw [h1, h2, if_neg (by decide), if_pos rfl]
      simp only [List.length_cons]
      omega
    · have ih := fil_lt p q t (fun x hx => h x (List.mem_cons_of_mem _ hx)) ⟨x, e, h1, h2⟩
      cases hp : p y with
      | true =>
        rw [if_pos rfl, if_pos (h y (List.mem_cons_self ..) hp)]
        simp only [List.length_cons]
        omega
      | false =>
        rw [if_neg (by decide)]
        split
        · simp only [List.length_cons]
          omega
        · exact ih
theorem cLr_12 (U : Nat → Bool) (g : Nat → AS) (hp : ∀ k, k < 12 → aP (g k) < 12) (k : Nat) (hk : k < 12) : cLr U g 13 k = cLr U g 12 k := by
  refine Decidable.byContradiction (fun hne => ?_)
  have hdiff : ∀ n, n ≤ 12 → ∃ x, x < 12 ∧ cLr U g (n + 1) x ≠ cLr U g n x := by
    have hd : ∀ m n, n + m = 12 → ∃ x, x < 12 ∧ cLr U g (n + 1) x ≠ cLr U g n x := by
      intro m
      induction m with
      | zero =>
        intro n hn
        have : n = 12 := by omega
        subst this
        exact ⟨k, hk, hne⟩
      | succ m ih =>
        intro n hn
        obtain ⟨x, hx, hx2⟩ := ih (n + 1) (by omega)
        refine Decidable.byContradiction (fun hc => hx2 (cLr_stab U g hp n (fun y hy => ?_) x hx))
        exact Decidable.byContradiction (fun hy2 => hc ⟨y, hy, hy2⟩)
    intro n hn
    exact hd (12 - n) n (by omega)
  have hcnt : ∀ n, n ≤ 13 → n ≤ ((List.range 12).filter (cLr U g n)).length := by
    intro n
    induction n with
    | zero => intro _; exact Nat.zero_le _
    | succ n ih =>
      intro hn
      have h1 := ih (by omega)
      obtain ⟨x, hx, hx2⟩ := hdiff n (by omega)
      have h2 := fil_lt (cLr U g n) (cLr U g (n + 1)) (List.range 12) (fun y _ => cLr_mono U g n y) ⟨x, List.mem_range.mpr hx, by
        cases hq : cLr U g n x with
        | true =>
          rw [hq, cLr_mono U g n x hq] at hx2
          exact absurd rfl hx2
        | false =>
          refine ⟨rfl, ?_⟩
          cases hq2 : cLr U g (n + 1) x with
          | true => rfl
          | false =>
            rw [hq, hq2] at hx2
            exact absurd rfl hx2⟩
      omega
  have h13 := hcnt 13 (Nat.le_refl _)
  have h12 := List.length_filter_le (cLr U g 13) (List.range 12)
  rw [List.length_range] at h12
  omega
theorem lup_cLr (U : Nat → Bool) (g : Nat → AS) (hp : ∀ k, k < 12 → aP (g k) < 12) (r : Nat) (hr : r < 12) (h0 : r ≠ 0) : lup U g 13 r = cLr U g 12 (aP (g r)) := by
  rw [← cLr_12 U g hp _ (hp r hr), cLr_lup]
  show (if r = 0 then true else if U (aP (g r)) = true ∧ aS (g (aP (g r))) = 2 then lup U g 12 (aP (g r)) else false) = _
  rw [if_neg h0]
theorem lup_mono (U : Nat → Bool) (g : Nat → AS) : ∀ (n k : Nat), lup U g n k = true → lup U g (n + 1) k = true
  | 0, k, h => by
    unfold lup at h ⊢
    rw [if_pos (of_decide_eq_true h)]
  | n + 1, k, h => by
    rw [show lup U g (n + 1) k = if k = 0 then true else if U (aP (g k)) = true ∧ aS (g (aP (g k))) = 2 then lup U g n (aP (g k)) else false from rfl] at h
    rw [show lup U g (n + 1 + 1) k = if k = 0 then true else if U (aP (g k)) = true ∧ aS (g (aP (g k))) = 2 then lup U g (n + 1) (aP (g k)) else false from rfl]
    by_cases e : k = 0
    · rw [if_pos e]
    · rw [if_neg e] at h ⊢
      by_cases c : U (aP (g k)) = true ∧ aS (g (aP (g k))) = 2
      · rw [if_pos c] at h ⊢
        exact lup_mono U g n _ h
      · rw [if_neg c] at h
        cases h
