/-! What a write leaves on the disk; the plan's clusters. -/
def Eff (pl : List (Option Nat)) (V : Nat → Option Nat) (D D' : Nat → Nat) : Prop := (∀ i c o, o < 16 → go pl i = some c → D' (16 * c + o) = (V (16 * i + o)).getD (D (16 * c + o))) ∧ ∀ q, (∀ i, go pl i ≠ some (q / 16)) → D' q = D q
def inj (pl : List (Option Nat)) : Prop := ∀ i j c, go pl i = some c → go pl j = some c → i = j
theorem Eff.uq {pl : List (Option Nat)} {V W : Nat → Option Nat} {D D' D'' : Nat → Nat} (h : Eff pl V D D') (h' : Eff pl W D D'') (e : ∀ k c, go pl (k / 16) = some c → V k = W k) : D' = D'' := by
  funext q
  by_cases hq : ∃ i, go pl i = some (q / 16)
  · obtain ⟨i, hi⟩ := hq
    have h1 := h.1 i (q / 16) (q % 16) (by omega) hi
    have h2 := h'.1 i (q / 16) (q % 16) (by omega) hi
    rw [show 16 * (q / 16) + q % 16 = q by omega] at h1 h2
    rw [h1, h2, e (16 * i + q % 16) (q / 16) (by rw [show (16 * i + q % 16) / 16 = i by omega]; exact hi)]
  · have hn : ∀ i, go pl i ≠ some (q / 16) := fun i hi => hq ⟨i, hi⟩
    rw [h.2 q hn, h'.2 q hn]
theorem Eff.cg {pl : List (Option Nat)} {V W : Nat → Option Nat} {D D' : Nat → Nat} (h : Eff pl V D D') (e : ∀ k c, go pl (k / 16) = some c → V k = W k) : Eff pl W D D' := by
  refine ⟨fun i c o ho hi => ?_, h.2⟩
  rw [h.1 i c o ho hi, e (16 * i + o) c (by rw [show (16 * i + o) / 16 = i by omega]; exact hi)]
def vcb (V W : Nat → Option Nat) (k : Nat) : Option Nat := match W k with
  | some v => some v
  | none => V k
theorem Eff.tr {pl : List (Option Nat)} {V W : Nat → Option Nat} {D D' D'' : Nat → Nat} (h : Eff pl V D D') (h' : Eff pl W D' D'') : Eff pl (vcb V W) D D'' := by
  refine ⟨fun i c o ho hi => ?_, fun q hq => by rw [h'.2 q hq, h.2 q hq]⟩
  rw [h'.1 i c o ho hi, h.1 i c o ho hi]
  unfold vcb
  cases W (16 * i + o) with
  | none => rfl
  | some v => rfl
theorem Eff.no (pl : List (Option Nat)) (D : Nat → Nat) : Eff pl (fun _ => none) D D := ⟨fun _ _ _ _ _ => rfl, fun _ _ => rfl⟩
theorem plD_eff {pl : List (Option Nat)} (hi : inj pl) (D : Nat → Nat) (k v : Nat) : Eff pl (fun j => if j = k then some v else none) D (plD D pl k v) := by
  unfold plD
  cases he : go pl (k / 16) with
  | none =>
    refine ⟨fun i c o ho hc => ?_, fun q _ => rfl⟩
    by_cases e : 16 * i + o = k
    · have : i = k / 16 := by omega
      rw [this, he] at hc
      cases hc
    · simp only [if_neg e]
      rfl
  | some e =>
    refine ⟨fun i c o ho hc => ?_, fun q hq => ?_⟩
    · show up D (16 * e + k % 16) v (16 * c + o) = _
      by_cases ek : 16 * i + o = k
      · have ei : i = k / 16 := by omega
        rw [ei, he] at hc
        cases hc
        simp only [if_pos ek]
        unfold up
        rw [if_pos (by omega)]
        rfl
      · simp only [if_neg ek]
        unfold up
        rw [if_neg]
        · rfl
        · intro z
          have ec : c = e := by omega
          subst ec
          have := hi i (k / 16) c hc he
          omega
    · show up D (16 * e + k % 16) v q = _
      unfold up
      rw [if_neg]
      intro z
      have ee : e = q / 16 := by omega
      rw [ee] at he
      exact hq _ he
theorem plw_eff {pl : List (Option Nat)} (hi : inj pl) (val : Nat → Option Nat) : ∀ (n k : Nat) (D : Nat → Nat), Eff pl (fun j => if k ≤ j ∧ j < k + n then val j else none) D (plw pl val n k D)
  | 0, k, D => (Eff.no pl D).cg (fun j c _ => by rw [if_neg (by omega)])
  | n + 1, k, D => by
    unfold plw
    have h2 := plw_eff hi val n (k + 1) (match val k with
      | some v => plD D pl k v
      | none => D)
    have h1 : Eff pl (fun j => if j = k then val k else none) D (match val k with
      | some v => plD D pl k v
      | none => D) := by
      cases val k with
      | none => exact (Eff.no pl D).cg (fun j c _ => by simp)
      | some v => exact plD_eff hi D k v
    refine (h1.tr h2).cg (fun j c _ => ?_)
    unfold vcb
    simp only
    by_cases e : j = k
    · subst e
      rw [if_neg (by omega), if_pos rfl, if_pos (by omega)]
    · rw [if_neg e]
      by_cases c : k + 1 ≤ j ∧ j < k + 1 + n
      · rw [if_pos c, if_pos (by omega)]
        cases val j <;> rfl
      · rw [if_neg c, if_neg (by omega)]
theorem alT_in (fr : Nat → Bool) : ∀ (n i : Nat) (T : Nat → Bool) (m : Nat → Option Nat), frcF (fun j => !fr j) n i ≤ frcF T 80 48 → (∀ j, i ≤ j → j < i + n → fr j = true → ∃ c, (alT fr n i T m).2 j = some c ∧ T c = false ∧ 48 ≤ c ∧ c < 128) ∧ (∀ j j' c, i ≤ j → j < i + n → fr j = true → i ≤ j' → j' < i + n → fr j' = true → (alT fr n i T m).2 j = some c → (alT fr n i T m).2 j' = some c → j = j') ∧ (∀ c, (alT fr n i T m).1 c = true ↔ T c = true ∨ ∃ j, i ≤ j ∧ j < i + n ∧ fr j = true ∧ (alT fr n i T m).2 j = some c) ∧ ∀ j, j < i ∨ i + n ≤ j ∨ fr j = false → (alT fr n i T m).2 j = m j
  | 0, i, T, m, _ => ⟨fun j h1 h2 _ => by omega, fun j j' c h1 h2 _ _ _ _ _ _ => by omega, fun c => ⟨fun h => Or.inl h, fun h => by
      rcases h with h | ⟨j, h1, h2, _⟩
      · exact h
      · omega⟩, fun _ _ => rfl⟩
  | n + 1, i, T, m, h => by
    rw [show frcF (fun j => !fr j) (n + 1) i = (if (!fr i) = false then 1 else 0) + frcF (fun j => !fr j) n (i + 1) from rfl] at h
    by_cases hf : fr i = true
    · rw [hf, if_pos (show (!true) = false from rfl)] at h
      obtain ⟨c, l1, l2, l3, l4⟩ := lowF_some T 80 48 (by omega)
      have hup := frcF_up T c 80 48 l2 l3 l4
      have e : alT fr (n + 1) i T m = alT fr n (i + 1) (up T c true) (up m i (some c)) := by
        show (if fr i = true then _ else _) = _
        rw [if_pos hf, l1]
      rw [e]
      obtain ⟨g1, g2, g3, g4⟩ := alT_in fr n (i + 1) (up T c true) (up m i (some c)) (by omega)
      have gi : (alT fr n (i + 1) (up T c true) (up m i (some c))).2 i = some c := by
        rw [g4 i (Or.inl (by omega))]
        unfold up
        rw [if_pos rfl]
      have gn : ∀ j, i + 1 ≤ j → j < i + 1 + n → fr j = true → ∃ c', (alT fr n (i + 1) (up T c true) (up m i (some c))).2 j = some c' ∧ c' ≠ c ∧ T c' = false ∧ 48 ≤ c' ∧ c' < 128 := by
        intro j j1 j2 j3
        obtain ⟨c', q1, q2, q3, q4⟩ := g1 j j1 j2 j3
        unfold up at q2
        by_cases ec : c' = c
        · rw [if_pos ec] at q2
          cases q2
        · rw [if_neg ec] at q2
          exact ⟨c', q1, ec, q2, q3, q4⟩
      refine ⟨fun j j1 j2 j3 => ?_, fun j j' c0 j1 j2 j3 j1' j2' j3' e1 e2 => ?_, fun c0 => ?_, fun j hj => ?_⟩
      · by_cases ej : j = i
        · subst ej
          exact ⟨c, gi, l4, l2, by omega⟩
        · obtain ⟨c', q1, _, q2, q3, q4⟩ := gn j (by omega) (by omega) j3
          exact ⟨c', q1, q2, q3, q4⟩
      · by_cases ej : j = i
        · by_cases ej' : j' = i
          · omega
          · subst ej
            obtain ⟨c', q1, q2, _⟩ := gn j' (by omega) (by omega) j3'
            rw [gi] at e1
            rw [q1] at e2
            cases e1
            cases e2
            exact absurd rfl q2
        · by_cases ej' : j' = i
          · subst ej'
            obtain ⟨c', q1, q2, _⟩ := gn j (by omega) (by omega) j3
            rw [gi] at e2
            rw [q1] at e1
            cases e1
            cases e2
            exact absurd rfl q2
          · exact g2 j j' c0 (by omega) (by omega) j3 (by omega) (by omega) j3' e1 e2
      · rw [g3 c0]
        refine ⟨fun q => ?_, fun q => ?_⟩
        · rcases q with q | ⟨j, j1, j2, j3, j4⟩
          · unfold up at q
            by_cases ec : c0 = c
            · subst ec
              exact Or.inr ⟨i, Nat.le_refl _, by omega, hf, gi⟩
            · rw [if_neg ec] at q
              exact Or.inl q
          · exact Or.inr ⟨j, by omega, by omega, j3, j4⟩
        · rcases q with q | ⟨j, j1, j2, j3, j4⟩
          · left
            unfold up
            split
            · rfl
            · exact q
          · by_cases ej : j = i
            · subst ej
              rw [gi] at j4
              cases j4
              left
              unfold up
              rw [if_pos rfl]
            · exact Or.inr ⟨j, by omega, by omega, j3, j4⟩
      · have ej : j ≠ i := by
          rcases hj with hj | hj | hj
          · omega
          · omega
          · intro z
            rw [z, hf] at hj
            cases hj
        rw [g4 j (by rcases hj with hj | hj | hj; exact Or.inl (by omega); exact Or.inr (Or.inl (by omega)); exact Or.inr (Or.inr hj))]
        unfold up
        rw [if_neg ej]
    · have hf' : fr i = false := by simpa using hf
      have e : alT fr (n + 1) i T m = alT fr n (i + 1) T m := by
        show (if fr i = true then _ else _) = _
        rw [if_neg hf]
      rw [hf', if_neg (show ¬ (!false) = false by decide), Nat.zero_add] at h
      rw [e]
      obtain ⟨g1, g2, g3, g4⟩ := alT_in fr n (i + 1) T m h
      have hne : ∀ j, fr j = true → j ≠ i := fun j hj z => by rw [z, hf'] at hj; cases hj
      refine ⟨fun j j1 j2 j3 => g1 j (by have := hne j j3; omega) (by omega) j3, fun j j' c0 j1 j2 j3 j1' j2' j3' e1 e2 => g2 j j' c0 (by have := hne j j3; omega) (by omega) j3 (by have := hne j' j3'; omega) (by omega) j3' e1 e2, fun c0 => ?_, fun j hj => ?_⟩
      · rw [g3 c0]
        refine ⟨fun q => ?_, fun q => ?_⟩
        · rcases q with q | ⟨j, j1, j2, j3, j4⟩
          · exact Or.inl q
          · exact Or.inr ⟨j, by omega, by omega, j3, j4⟩
        · rcases q with q | ⟨j, j1, j2, j3, j4⟩
          · exact Or.inl q
          · exact Or.inr ⟨j, by have := hne j j3; omega, by omega, j3, j4⟩
      · by_cases ej : j = i
        · exact g4 j (Or.inl (by omega))
        · exact g4 j (by rcases hj with hj | hj | hj; exact Or.inl (by omega); exact Or.inr (Or.inl (by omega)); exact Or.inr (Or.inr hj))
theorem lowF_skip (T T' : Nat → Bool) : ∀ (n c k : Nat), (∀ x, c ≤ x → x < c + n → T' x = true) → (∀ x, c + n ≤ x → x < c + n + k → T' x = T x) → lowF T' (n + k) c = lowF T k (c + n)
  | 0, c, k, _, h2 => by
    rw [Nat.zero_add, Nat.add_zero]
    rw [Nat.add_zero] at h2
    induction k generalizing c with
    | zero => rfl
    | succ k ih =>
      unfold lowF
      rw [h2 c (Nat.le_refl _) (by omega)]
      split
      · rfl
      · exact ih (c + 1) (fun x h3 h4 => by omega) (fun x h3 h4 => h2 x (by omega) (by omega))
  | n + 1, c, k, h1, h2 => by
    rw [show n + 1 + k = n + k + 1 by omega]
    unfold lowF
    rw [h1 c (Nat.le_refl _) (by omega), if_neg (by decide), lowF_skip T T' n (c + 1) k (fun x h3 h4 => h1 x (by omega) (by omega)) (fun x h3 h4 => h2 x (by omega) (by omega)), show c + 1 + n = c + (n + 1) by omega]
    cases k with
    | zero => rfl
    | succ k => rfl
theorem lowF_min (T : Nat → Bool) : ∀ (n c e : Nat), lowF T n c = some e → ∀ x, c ≤ x → x < e → T x = true
  | 0, c, e, h, x, _, _ => by simp [lowF] at h
  | n + 1, c, e, h, x, h1, h2 => by
    unfold lowF at h
    by_cases hT : T c = false
    · rw [if_pos hT] at h
      cases h
      omega
    · rw [if_neg hT] at h
      by_cases ex : x = c
      · rw [ex]
        simpa using hT
      · exact lowF_min T n (c + 1) e h x (by omega) h2
theorem lowF_none (T : Nat → Bool) (n c : Nat) (h : lowF T n c = none) : frcF T n c = 0 := by
  refine Nat.eq_zero_of_not_pos (fun q => ?_)
  obtain ⟨e, h1, _⟩ := lowF_some T n c q
  rw [h] at h1
  cases h1
def cpl (fr : Nat → Bool) (m : Nat → Option Nat) (T : Nat → Bool) : Nat → Nat → Nat → Option (List (Option Nat))
  | 0, _, _ => some []
  | n + 1, i, x => if fr i = true then (match lowF T (128 - x) x with
      | some c => (match cpl fr m T n (i + 1) (c + 1) with
        | some l => some (some c :: l)
        | none => none)
      | none => none)
    else (match cpl fr m T n (i + 1) x with
      | some l => some (m i :: l)
      | none => none)
theorem cpl_al (fr : Nat → Bool) (m : Nat → Option Nat) (T : Nat → Bool) : ∀ (n i x : Nat) (T' : Nat → Bool) (m' : Nat → Option Nat), 48 ≤ x → x ≤ 128 → (∀ c, 48 ≤ c → c < x → T' c = true) → (∀ c, x ≤ c → T' c = T c) → (∀ j, i ≤ j → m' j = m j) →
    (frcF T' 80 48 < frcF (fun j => !fr j) n i → cpl fr m T n i x = none) ∧ (frcF (fun j => !fr j) n i ≤ frcF T' 80 48 → ∃ l, cpl fr m T n i x = some l ∧ l.length = n ∧ ∀ j, j < n → go l j = (alT fr n i T' m').2 (i + j))
  | 0, i, x, T', m', _, _, _, _, _ => ⟨fun h => absurd h (Nat.not_lt_zero _), fun _ => ⟨[], rfl, rfl, fun j hj => absurd hj (Nat.not_lt_zero _)⟩⟩
  | n + 1, i, x, T', m', h48, h128, h1, h2, h3 => by
    rw [show frcF (fun j => !fr j) (n + 1) i = (if (!fr i) = false then 1 else 0) + frcF (fun j => !fr j) n (i + 1) from rfl]
    have hlow : lowF T' 80 48 = lowF T (128 - x) x := by
      have := lowF_skip T T' (x - 48) 48 (128 - x) (fun c c1 c2 => h1 c c1 (by omega)) (fun c c1 c2 => h2 c (by omega))
      rw [show x - 48 + (128 - x) = 80 by omega, show 48 + (x - 48) = x by omega] at this
      exact this
    by_cases hf : fr i = true
    · rw [hf, if_pos (show (!true) = false from rfl)]
      unfold cpl
      rw [if_pos hf, ← hlow]
      cases hl : lowF T' 80 48 with
      | none =>
        have h0 := lowF_none T' 80 48 hl
        exact ⟨fun _ => rfl, fun h => by omega⟩
      | some c =>
        obtain ⟨q1, q2, q3⟩ := lowF_T T' 80 48 c hl
        have hmin := lowF_min T' 80 48 c hl
        have hcx : x ≤ c := Nat.not_lt.mp (fun z => by rw [h1 c q1 z] at q3; cases q3)
        have hup := frcF_up T' c 80 48 q1 q2 q3
        have e : alT fr (n + 1) i T' m' = alT fr n (i + 1) (up T' c true) (up m' i (some c)) := by
          show (if fr i = true then _ else _) = _
          rw [if_pos hf, hl]
        obtain ⟨g1, g2⟩ := cpl_al fr m T n (i + 1) (c + 1) (up T' c true) (up m' i (some c)) (by omega) (by omega) (fun y y1 y2 => by
            unfold up
            split
            · rfl
            · exact hmin y y1 (by omega)) (fun y y1 => by
            unfold up
            rw [if_neg (by omega)]
            exact h2 y (by omega)) (fun j hj => by
            unfold up
            rw [if_neg (by omega)]
            exact h3 j (by omega))
        refine ⟨fun h => ?_, fun h => ?_⟩
        · simp only
          rw [g1 (by omega)]
        · obtain ⟨l, e1, e2, e3⟩ := g2 (by omega)
          simp only
          rw [e1]
          refine ⟨_, rfl, by simp only [List.length_cons]; omega, fun j hj => ?_⟩
          rw [e]
          cases j with
          | zero =>
            rw [go_0, Nat.add_zero i, alT_out fr n (i + 1) _ _ i (by omega)]
            unfold up
            rw [if_pos rfl]
          | succ j =>
            rw [go_s, e3 j (by omega), show i + 1 + j = i + (j + 1) by omega]
    · have hf' : fr i = false := by simpa using hf
      rw [hf', if_neg (show ¬ (!false) = false by decide), Nat.zero_add]
      have e : alT fr (n + 1) i T' m' = alT fr n (i + 1) T' m' := by
        show (if fr i = true then _ else _) = _
        rw [if_neg hf]
      unfold cpl
      rw [if_neg hf]
      obtain ⟨g1, g2⟩ := cpl_al fr m T n (i + 1) x T' m' h48 h128 h1 h2 (fun j hj => h3 j (by omega))
      refine ⟨fun h => by rw [g1 h], fun h => ?_⟩
      obtain ⟨l, e1, e2, e3⟩ := g2 h
      rw [e1]
      refine ⟨_, rfl, by simp only [List.length_cons]; omega, fun j hj => ?_⟩
      rw [e]
      cases j with
      | zero =>
        rw [go_0, Nat.add_zero i, alT_out fr n (i + 1) _ _ i (by omega)]
        exact (h3 i (Nat.le_refl _)).symm
      | succ j =>
        rw [go_s, e3 j (by omega), show i + 1 + j = i + (j + 1) by omega]
