/-! Trees of records; lists of what a directory has. -/
def ldB (U : Nat → Bool) (f : Nat → AS) : Nat → Nat → Bool
  | 0, k => decide (k = 0)
  | n + 1, k => decide (k = 0) || (decide (k < 12) && (U k && ldB U f n (aP (f k))))
theorem ldB_iff (U : Nat → Bool) (f : Nat → AS) : ∀ (n k : Nat), ldB U f n k = true ↔ ldN U f n k
  | 0, k => by unfold ldB ldN; exact decide_eq_true_iff
  | n + 1, k => by
    unfold ldB ldN
    rw [Bool.or_eq_true, Bool.and_eq_true, Bool.and_eq_true, decide_eq_true_iff, decide_eq_true_iff, ldB_iff U f n]
theorem ldN_s (U : Nat → Bool) (f : Nat → AS) : ∀ (n k : Nat), ldN U f n k → ldN U f (n + 1) k
  | 0, k, h => Or.inl h
  | n + 1, k, h => by
    rcases h with h | ⟨h1, h2, h3⟩
    · exact Or.inl h
    · exact Or.inr ⟨h1, h2, ldN_s U f n _ h3⟩
theorem ldB_stab (U : Nat → Bool) (f : Nat → AS) (hp : ∀ k, k < 12 → U k = true → aP (f k) < 12) (n : Nat) (h : ∀ k, k < 12 → ldB U f (n + 1) k = ldB U f n k) : ∀ k, k < 12 → ldB U f (n + 1 + 1) k = ldB U f (n + 1) k := by
  intro k hk
  show (decide (k = 0) || (decide (k < 12) && (U k && ldB U f (n + 1) (aP (f k))))) = (decide (k = 0) || (decide (k < 12) && (U k && ldB U f n (aP (f k)))))
  cases hu : U k with
  | false => rfl
  | true => rw [h _ (hp k hk hu)]
theorem ldB_12 (U : Nat → Bool) (f : Nat → AS) (hp : ∀ k, k < 12 → U k = true → aP (f k) < 12) (k : Nat) (hk : k < 12) : ldB U f 13 k = ldB U f 12 k := by
  refine Decidable.byContradiction (fun hne => ?_)
  have hdiff : ∀ n, n ≤ 12 → ∃ x, x < 12 ∧ ldB U f (n + 1) x ≠ ldB U f n x := by
    have hd : ∀ m n, n + m = 12 → ∃ x, x < 12 ∧ ldB U f (n + 1) x ≠ ldB U f n x := by
      intro m
      induction m with
      | zero =>
        intro n hn
        have : n = 12 := by omega
        subst this
        exact ⟨k, hk, hne⟩
      | succ m ih =>
        intro n hn
        obtain ⟨x, hx, hx2⟩ := ih (n + 1) (by omega)
        refine Decidable.byContradiction (fun hc => hx2 (ldB_stab U f hp n (fun y hy => ?_) x hx))
        exact Decidable.byContradiction (fun hy2 => hc ⟨y, hy, hy2⟩)
    intro n hn
    exact hd (12 - n) n (by omega)
  have hmono : ∀ n y, ldB U f n y = true → ldB U f (n + 1) y = true := fun n y h => (ldB_iff U f (n + 1) y).mpr (ldN_s U f n y ((ldB_iff U f n y).mp h))
  have hcnt : ∀ n, n ≤ 13 → n ≤ ((List.range 12).filter (ldB U f n)).length := by
    intro n
    induction n with
    | zero => intro _; exact Nat.zero_le _
    | succ n ih =>
      intro hn
      have h1 := ih (by omega)
      obtain ⟨x, hx, hx2⟩ := hdiff n (by omega)
      have h2 := fil_lt (ldB U f n) (ldB U f (n + 1)) (List.range 12) (fun y _ => hmono n y) ⟨x, List.mem_range.mpr hx, by
        cases hq : ldB U f n x with
        | true =>
          rw [hq, hmono n x hq] at hx2
          exact absurd rfl hx2
        | false =>
          refine ⟨rfl, ?_⟩
          cases hq2 : ldB U f (n + 1) x with
          | true => rfl
          | false =>
            rw [hq, hq2] at hx2
            exact absurd rfl hx2⟩
      omega
  have h13 := hcnt 13 (Nat.le_refl _)
  have h12 := List.length_filter_le (ldB U f 13) (List.range 12)
  rw [List.length_range] at h12
  omega
theorem ld12 {U : Nat → Bool} {f : Nat → AS} (hp : ∀ k, k < 12 → U k = true → aP (f k) < 12) (n k : Nat) (hk : k < 12) (h : ldN U f n k) : ldN U f 12 k := by
  have hst : ∀ m, ∀ y, y < 12 → ldB U f (12 + m + 1) y = ldB U f (12 + m) y := by
    intro m
    induction m with
    | zero => exact fun y hy => ldB_12 U f hp y hy
    | succ m ih => exact fun y hy => ldB_stab U f hp (12 + m) ih y hy
  have hall : ∀ m, ldB U f (12 + m) k = ldB U f 12 k := by
    intro m
    induction m with
    | zero => rfl
    | succ m ih => rw [← ih]; exact hst m k hk
  have hup : ∀ m, ldN U f (n + m) k := by
    intro m
    induction m with
    | zero => exact h
    | succ m ih => exact ldN_s U f _ _ ih
  have h2 := (ldB_iff U f (12 + n) k).mpr (by rw [Nat.add_comm]; exact hup 12)
  rw [hall n] at h2
  exact (ldB_iff U f 12 k).mp h2
theorem ldN_cg {U U' : Nat → Bool} {f f' : Nat → AS} (h : ∀ x, x < 12 → U x = true → U' x = true ∧ aP (f' x) = aP (f x)) : ∀ (n k : Nat), ldN U f n k → ldN U' f' n k
  | 0, _, hk => hk
  | n + 1, k, hk => by
    rcases hk with hk | ⟨h1, h2, h3⟩
    · exact Or.inl hk
    · obtain ⟨g1, g2⟩ := h k h1 h2
      exact Or.inr ⟨h1, g1, by rw [g2]; exact ldN_cg h n _ h3⟩
theorem ldN_rm {U U' : Nat → Bool} {f f' : Nat → AS} {r : Nat} (h : ∀ x, x < 12 → x ≠ r → U x = true → U' x = true ∧ aP (f' x) = aP (f x)) (hn : ∀ x, x < 12 → U x = true → aP (f x) ≠ r) : ∀ (n k : Nat), k ≠ r → ldN U f n k → ldN U' f' n k
  | 0, _, _, hk => hk
  | n + 1, k, hr, hk => by
    rcases hk with hk | ⟨h1, h2, h3⟩
    · exact Or.inl hk
    · obtain ⟨g1, g2⟩ := h k h1 hr h2
      exact Or.inr ⟨h1, g1, by rw [g2]; exact ldN_rm h hn n _ (hn k h1 h2) h3⟩
theorem ldN_mv1 {U : Nat → Bool} {f f' : Nat → AS} {r : Nat} (h : ∀ x, x < 12 → x ≠ r → aP (f' x) = aP (f x)) : ∀ (n k : Nat), isB f r n k = false → ldN U f n k → ldN U f' n k
  | 0, _, _, hk => hk
  | n + 1, k, hb, hk => by
    rcases hk with hk | ⟨h1, h2, h3⟩
    · exact Or.inl hk
    · unfold isB at hb
      by_cases e : k = r
      · rw [if_pos e] at hb
        cases hb
      · rw [if_neg e] at hb
        by_cases e0 : k = 0
        · exact Or.inl e0
        · rw [if_neg e0] at hb
          exact Or.inr ⟨h1, h2, by rw [h k h1 e]; exact ldN_mv1 h n _ hb h3⟩
theorem ldN_mv {U : Nat → Bool} {f f' : Nat → AS} {r : Nat} (h : ∀ x, x < 12 → x ≠ r → aP (f' x) = aP (f x)) (hr : ∃ m, ldN U f' m r) : ∀ (n k : Nat), ldN U f n k → ∃ m, ldN U f' m k
  | 0, _, hk => ⟨0, hk⟩
  | n + 1, k, hk => by
    rcases hk with hk | ⟨h1, h2, h3⟩
    · exact ⟨0, hk⟩
    · by_cases e : k = r
      · rw [e]; exact hr
      · obtain ⟨m, hm⟩ := ldN_mv h hr n _ h3
        exact ⟨m + 1, Or.inr ⟨h1, h2, by rw [h k h1 e]; exact hm⟩⟩
theorem lup_ld {U : Nat → Bool} {f : Nat → AS} (hp : ∀ k, k < 12 → aP (f k) < 12) : ∀ (n k : Nat), k < 12 → (k = 0 ∨ U k = true) → lup U f n k = true → ldN U f n k
  | 0, k, _, _, h => of_decide_eq_true (p := k = 0) h
  | n + 1, k, hk, hu, h => by
    unfold lup at h
    by_cases e : k = 0
    · exact Or.inl e
    · rw [if_neg e] at h
      by_cases c : U (aP (f k)) = true ∧ aS (f (aP (f k))) = 2
      · rw [if_pos c] at h
        exact Or.inr ⟨hk, by rcases hu with hu | hu; exact absurd hu e; exact hu, lup_ld hp n _ (hp k hk) (Or.inr c.1) h⟩
      · rw [if_neg c] at h
        cases h
theorem lup_pd {U : Nat → Bool} {f : Nat → AS} (n k : Nat) (h : lup U f (n + 1) k = true) (h0 : k ≠ 0) : U (aP (f k)) = true ∧ aS (f (aP (f k))) = 2 := by
  unfold lup at h
  rw [if_neg h0] at h
  by_cases c : U (aP (f k)) = true ∧ aS (f (aP (f k))) = 2
  · exact c
  · rw [if_neg c] at h
    cases h
theorem lup_all {U : Nat → Bool} {f : Nat → AS} (hp : ∀ k, k < 12 → aP (f k) < 12) (n k : Nat) (hk : k < 12) (h0 : k ≠ 0) (h : lup U f n k = true) : lup U f 13 k = true := by
  have hst : ∀ m, ∀ y, y < 12 → cLr U f (12 + m + 1) y = cLr U f (12 + m) y := by
    intro m
    induction m with
    | zero => exact fun y hy => cLr_12 U f hp y hy
    | succ m ih => exact fun y hy => cLr_stab U f hp (12 + m) ih y hy
  have hall : ∀ m y, y < 12 → cLr U f (12 + m) y = cLr U f 12 y := by
    intro m
    induction m with
    | zero => exact fun _ _ => rfl
    | succ m ih => exact fun y hy => by rw [← ih y hy]; exact hst m y hy
  have hup : ∀ m, lup U f (n + m) k = true := by
    intro m
    induction m with
    | zero => exact h
    | succ m ih => exact lup_mono U f _ _ ih
  have h2 := hup 13
  have e2 : lup U f (n + 13) k = cLr U f (12 + (n + 1)) (aP (f k)) := by
    rw [show 12 + (n + 1) = (n + 12) + 1 by omega, cLr_lup]
    show (if k = 0 then true else if U (aP (f k)) = true ∧ aS (f (aP (f k))) = 2 then lup U f (n + 12) (aP (f k)) else false) = _
    rw [if_neg h0]
  rw [e2, hall (n + 1) _ (hp k hk), ← lup_cLr U f hp k hk h0] at h2
  exact h2
theorem lup_mv {U : Nat → Bool} {f f' : Nat → AS} {r : Nat} (h : ∀ x, x < 12 → x ≠ r → aP (f' x) = aP (f x)) (hs : ∀ x, aS (f' x) = aS (f x)) (hp : ∀ k, k < 12 → aP (f k) < 12) (hr : ∀ n, lup U f n r = false) : ∀ (n k : Nat), k < 12 → lup U f n k = true → lup U f' n k = true
  | 0, _, _, hk => hk
  | n + 1, k, h12, hk => by
    have hkr : k ≠ r := fun e => by rw [e, hr] at hk; cases hk
    unfold lup at hk ⊢
    by_cases e : k = 0
    · rw [if_pos e]
    · rw [if_neg e] at hk ⊢
      rw [h k h12 hkr, hs]
      by_cases c : U (aP (f k)) = true ∧ aS (f (aP (f k))) = 2
      · rw [if_pos c] at hk ⊢
        exact lup_mv h hs hp hr n _ (hp k h12) hk
      · rw [if_neg c] at hk
        cases hk
theorem insA_iff {l : List Nat} {k r e : Nat} : e ∈ insA l k r ↔ e = r ∨ e ∈ l := by
  unfold insA
  rw [List.mem_append, List.mem_cons]
  have h : e ∈ l ↔ e ∈ l.take k ∨ e ∈ l.drop k := by rw [← List.mem_append, List.take_append_drop]
  rw [h]
  refine ⟨fun q => ?_, fun q => ?_⟩
  · rcases q with q | q | q
    · exact Or.inr (Or.inl q)
    · exact Or.inl q
    · exact Or.inr (Or.inr q)
  · rcases q with q | q | q
    · exact Or.inr (Or.inl q)
    · exact Or.inl q
    · exact Or.inr (Or.inr q)
theorem insA_nd {l : List Nat} {k r : Nat} (hn : l.Nodup) (hr : r ∉ l) : (insA l k r).Nodup := by
  unfold insA
  refine (List.perm_middle.nodup_iff).mpr ?_
  rw [List.take_append_drop]
  exact List.nodup_cons.mpr ⟨hr, hn⟩
theorem colL_iff (U : Nat → Bool) (f : Nat → AS) (d : Nat) : ∀ (m r : Nat) (acc : List Nat) (x : Nat), x ∈ colL U f d m r acc ↔ x ∈ acc ∨ (r ≤ x ∧ x < r + m ∧ U x = true ∧ aP (f x) = d)
  | 0, r, acc, x => ⟨fun h => Or.inl h, fun h => by
      rcases h with h | ⟨h1, h2, _⟩
      · exact h
      · omega⟩
  | m + 1, r, acc, x => by
    unfold colL
    split
    · rename_i q
      rw [colL_iff U f d m (r + 1) _ x, insA_iff]
      refine ⟨fun h => ?_, fun h => ?_⟩
      · rcases h with (h | h) | ⟨h1, h2, h3⟩
        · exact Or.inr ⟨by omega, by omega, by rw [h]; exact q.1, by rw [h]; exact q.2⟩
        · exact Or.inl h
        · exact Or.inr ⟨by omega, by omega, h3⟩
      · rcases h with h | ⟨h1, h2, h3⟩
        · exact Or.inl (Or.inr h)
        · by_cases e : x = r
          · exact Or.inl (Or.inl e)
          · exact Or.inr ⟨by omega, by omega, h3⟩
    · rename_i q
      rw [colL_iff U f d m (r + 1) _ x]
      refine ⟨fun h => ?_, fun h => ?_⟩
      · rcases h with h | ⟨h1, h2, h3⟩
        · exact Or.inl h
        · exact Or.inr ⟨by omega, by omega, h3⟩
      · rcases h with h | ⟨h1, h2, h3⟩
        · exact Or.inl h
        · by_cases e : x = r
          · rw [e] at h3
            exact absurd h3 q
          · exact Or.inr ⟨by omega, by omega, h3⟩
theorem colL_nd (U : Nat → Bool) (f : Nat → AS) (d : Nat) : ∀ (m r : Nat) (acc : List Nat), acc.Nodup → (∀ x ∈ acc, x < r) → (colL U f d m r acc).Nodup
  | 0, r, acc, h, _ => h
  | m + 1, r, acc, h, hx => by
    unfold colL
    split
    · refine colL_nd U f d m (r + 1) _ (insA_nd h (fun q => by have := hx r q; omega)) (fun x h2 => ?_)
      rcases insA_iff.mp h2 with e | e
      · omega
      · have := hx x e
        omega
    · exact colL_nd U f d m (r + 1) acc h (fun x h2 => by have := hx x h2; omega)
