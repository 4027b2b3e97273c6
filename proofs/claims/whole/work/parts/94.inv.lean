/-! What always holds. -/
def NB (N : Nat) (D : Nat → Nat) : Prop := ∀ r, r < 12 → wrd D (64 * r + 62) ≤ wrd D (64 * r + 2) ∧ wrd D (64 * r + 2) ≤ N
def ltr (l : List Nat) : Prop := ∀ x ∈ l, isLt x = true
def sgd (r : Nat) (s : AS) : Prop := ltr (aM s) ∧ (r = 0 → aS s = 2 ∧ aP s = 0 ∧ aM s = []) ∧ (r ≠ 0 → aM s ≠ [])
def DDs (V : Nat → Bool) (f : Nat → AS) : Prop := ∀ r r' i j c, r < 12 → r' < 12 → V r = true → V r' = true → go (aL (f r)) i = some c → go (aL (f r')) j = some c → r = r' ∧ i = j
def AI (N : Nat) (A : VS) (f : Nat → AS) : Prop := BI A ∧ ltr (vl A) ∧ NB N (vD A) ∧ (∀ r, r < 12 → inU (vD A) r = true → Rec (vD A) r (f r) ∧ wf (f r) ∧ sgd r (f r)) ∧ (∀ r, r < 12 → inU (vD A) r = false → f r = frA (wrd (vD A) (64 * r + 2))) ∧ DDs (inU (vD A)) f
def OJ (N : Nat) (A : VS) : Prop := AI N A (vf A) ∧ ∀ r, r < 12 → vU A r = inU (vD A) r
def INV (N : Nat) (A : VS) : Prop := (∃ f, AI N A f) ∧ (vo A = true → OI A ∧ OJ N A)
theorem NB.mono {N M : Nat} {D : Nat → Nat} (h : NB N D) (hm : N ≤ M) : NB M D := fun r hr => ⟨(h r hr).1, by have := (h r hr).2; omega⟩
theorem AI.mono {N M : Nat} {A : VS} {f : Nat → AS} (h : AI N A f) (hm : N ≤ M) : AI M A f := ⟨h.1, h.2.1, h.2.2.1.mono hm, h.2.2.2⟩
theorem OJ.mono {N M : Nat} {A : VS} (h : OJ N A) (hm : N ≤ M) : OJ M A := ⟨h.1.mono hm, h.2⟩
theorem AI.mr {N : Nat} {A : VS} {f : Nat → AS} (h : AI N A f) : MR (vD A) f := ⟨fun r hr hu => ⟨(h.2.2.2.1 r hr hu).1, (h.2.2.2.1 r hr hu).2.1, (h.2.2.2.1 r hr hu).2.2.1⟩, h.2.2.2.2.1, fun hu => ⟨((h.2.2.2.1 0 (by omega) hu).2.2.2.1 rfl).1, ((h.2.2.2.1 0 (by omega) hu).2.2.2.1 rfl).2.1⟩⟩
theorem OJ.rc {N : Nat} {A : VS} (h : OJ N A) : Recs (vD A) (vU A) (vf A) := fun r hr hu => by
  rw [h.2 r hr] at hu
  exact ⟨(h.1.2.2.2.1 r hr hu).1, (h.1.2.2.2.1 r hr hu).2.1⟩
theorem OJ.good {N : Nat} {A : VS} (h : OJ N A) {r : Nat} (hr : r < 12) (hu : vU A r = true) : sgd r (vf A r) := by
  rw [h.2 r hr] at hu
  exact (h.1.2.2.2.1 r hr hu).2.2
theorem OJ.dd {N : Nat} {A : VS} (h : OJ N A) : DDs (vU A) (vf A) := fun r r' i j c hr hr' hu hu' => by
  rw [h.2 r hr] at hu
  rw [h.2 r' hr'] at hu'
  exact h.1.2.2.2.2.2 r r' i j c hr hr' hu hu'
theorem OJ.gk {N : Nat} {A : VS} (h : OJ N A) : GK (vU A) (vf A) := fun r hr => ⟨fun hu => (h.rc r hr hu).2, fun hu => by
  rw [h.2 r hr] at hu
  exact ⟨_, wrd_lt h.1.1.1 _, h.1.2.2.2.2.1 r hr hu⟩⟩
theorem OJ.ml {N : Nat} {A : VS} (h : OJ N A) (ho : vo A = true) : ML A := ⟨h.gk, h.rc, h.1.1, ho⟩
theorem rec_same {D D' : Nat → Nat} {r : Nat} (h : ∀ j, j < 64 → D' (64 * r + j) = D (64 * r + j)) : (∀ p, p < 63 → wrd D' (64 * r + p) = wrd D (64 * r + p)) ∧ inU D' r = inU D r := by
  have w : ∀ p, p < 63 → wrd D' (64 * r + p) = wrd D (64 * r + p) := by
    intro p hp
    unfold wrd
    rw [h p (by omega), show 64 * r + p + 1 = 64 * r + (p + 1) by omega, h (p + 1) (by omega)]
  refine ⟨w, ?_⟩
  unfold inU torn
  have h0 := h 0 (by omega)
  rw [Nat.add_zero] at h0
  rw [w 30 (by omega), w 2 (by omega), w 62 (by omega), h0]
theorem AI.sd {N : Nat} {A : VS} {f : Nat → AS} (h : AI N A f) {D : Nat → Nat} (hD : ∀ q, q < 768 → D q = vD A q) (hB : ∀ q, D q < 256) : AI N (setD A D) f := by
  obtain ⟨h1, h2, h3, h4, h5, h6⟩ := h
  have hs : ∀ r, r < 12 → (∀ p, p < 63 → wrd D (64 * r + p) = wrd (vD A) (64 * r + p)) ∧ inU D r = inU (vD A) r := fun r hr => rec_same (fun j hj => hD _ (by omega))
  refine ⟨h1.sd hB, h2, fun r hr => ?_, fun r hr hu => ?_, fun r hr hu => ?_, fun r r' i j c hr hr' hu hu' => ?_⟩
  · change wrd D (64 * r + 62) ≤ wrd D (64 * r + 2) ∧ wrd D (64 * r + 2) ≤ N
    rw [(hs r hr).1 62 (by omega), (hs r hr).1 2 (by omega)]
    exact h3 r hr
  · change inU D r = true at hu
    rw [(hs r hr).2] at hu
    obtain ⟨g1, g2⟩ := h4 r hr hu
    exact ⟨g1.cg (fun j hj => hD _ (by omega)), g2⟩
  · change inU D r = false at hu
    rw [(hs r hr).2] at hu
    change f r = frA (wrd D (64 * r + 2))
    rw [(hs r hr).1 2 (by omega)]
    exact h5 r hr hu
  · change inU D r = true at hu
    change inU D r' = true at hu'
    rw [(hs r hr).2] at hu
    rw [(hs r' hr').2] at hu'
    exact h6 r r' i j c hr hr' hu hu'
theorem OJ.sd {N : Nat} {A : VS} (h : OJ N A) {D : Nat → Nat} (hD : ∀ q, q < 768 → D q = vD A q) (hB : ∀ q, D q < 256) : OJ N (setD A D) := ⟨h.1.sd hD hB, fun r hr => by
  have hs := rec_same (D := vD A) (D' := D) (r := r) (fun j hj => hD _ (by omega))
  change vU A r = inU D r
  rw [hs.2]
  exact h.2 r hr⟩
theorem fr_enc {t : AS} (hf : ∀ n, setN t n = frA n) (n m : Nat) : encB t n = encB (frA m) n := by
  have e : encB t n = encB (setN t m) n := rfl
  rw [e, hf m]
theorem OJ.st {N : Nat} {A : VS} (h : OJ N A) (r : Nat) (hr : r < 12) (t : AS) (hN : N < 65535) (hg : aS t ≠ 0 → wf (setN t (nN (vD A) r)) ∧ sgd r t) (hf : aS t = 0 → ∀ n, setN t n = frA n) (hd : DDs (up (vU A) r (decide (aS t ≠ 0))) (up (vf A) r t)) :
    (stOk (vt A) = true → OJ (N + 1) (stA A r t)) ∧ (stOk (vt A) = false → ∃ f, AI (N + 1) (stA A r t) f) := by
  obtain ⟨⟨h1, h2, h3, h4, h5, h6⟩, h7⟩ := h
  have hwr := h3 r hr
  have hn : nN (vD A) r = wrd (vD A) (64 * r + 2) + 1 := by
    unfold nN nxt
    rw [if_neg (by omega)]
  have hnl := nN_lt h1.1 r
  have hby : ∀ k, encB t (nN (vD A) r) k < 256 := by
    by_cases c : aS t = 0
    · rw [fr_enc (hf c) _ 0]
      exact enc_fr_lt hnl
    · exact enc_wf_lt hnl (hg c).1
  have hB : BI (stA A r t) := h1.st r t hby
  have hot : ∀ x, x ≠ r → ∀ j, j < 64 → stD (vD A) r (encB t (nN (vD A) r)) (vt A) (64 * x + j) = vD A (64 * x + j) := fun x hx j hj => stD_out _ _ _ _ _ (by omega)
  refine ⟨fun hok => ?_, fun hok => ?_⟩
  · have eD : vD (stA A r t) = st2 (vD A) r (encB t (nN (vD A) r)) := stD_ok hok _ _ _
    obtain ⟨w2, w30, w62, ws⟩ := st2_w (vD A) r t (nN (vD A) r)
    have hur : inU (vD (stA A r t)) r = decide (aS t ≠ 0) := by
      rw [eD]
      unfold inU torn
      rw [w2, w30, w62, ws]
      by_cases c : aS t = 0
      · rw [c]
        simp
      · have := (hg c).1.1
        change (aS t = 1 ∧ _ ∨ aS t = 2 ∧ _) at this
        have e12 : aS t = 1 ∨ aS t = 2 := by omega
        rw [decide_eq_true c]
        rcases e12 with e | e <;> rw [e] <;> simp
    have hux : ∀ x, x ≠ r → inU (vD (stA A r t)) x = inU (vD A) x ∧ ∀ p, p < 63 → wrd (vD (stA A r t)) (64 * x + p) = wrd (vD A) (64 * x + p) := fun x hx => by
      have := rec_same (hot x hx)
      exact ⟨this.2, this.1⟩
    have hV : ∀ x, x < 12 → up (vU A) r (decide (aS t ≠ 0)) x = inU (vD (stA A r t)) x := by
      intro x hx
      by_cases e : x = r
      · rw [e, up_at, hur]
      · rw [up_ne _ _ e, (hux x e).1, h7 x hx]
    refine ⟨⟨hB, h2, fun x hx => ?_, fun x hx hu => ?_, fun x hx hu => ?_, fun x x' i j c hx hx' hu hu' e e' => ?_⟩, hV⟩
    · by_cases e : x = r
      · rw [e, eD, w62, w2]
        omega
      · rw [(hux x e).2 62 (by omega), (hux x e).2 2 (by omega)]
        have := h3 x hx
        omega
    · by_cases e : x = r
      · subst e
        rw [hur] at hu
        have c := of_decide_eq_true hu
        rw [(stA_r (A := A) (s := t)).1, eD]
        exact ⟨Rec.new _ _ _ _, (hg c).1, (hg c).2⟩
      · rw [(hux x e).1] at hu
        obtain ⟨g1, g2⟩ := h4 x hx hu
        rw [(stA_f (A := A) (s := t) e).1]
        exact ⟨g1.cg (hot x e), g2⟩
    · by_cases e : x = r
      · subst e
        rw [hur] at hu
        have c : aS t = 0 := Decidable.byContradiction (fun z => of_decide_eq_false hu z)
        rw [(stA_r (A := A) (s := t)).1, hf c, eD, w2]
      · rw [(hux x e).1] at hu
        rw [(stA_f (A := A) (s := t) e).1, (hux x e).2 2 (by omega)]
        exact h5 x hx hu
    · rw [← hV x hx] at hu
      rw [← hV x' hx'] at hu'
      have el : ∀ y, aL (vf (stA A r t) y) = aL (up (vf A) r t y) := by
        intro y
        by_cases ey : y = r
        · rw [ey, (stA_r (A := A) (s := t)).1, up_at]
          rfl
        · rw [(stA_f (A := A) (s := t) ey).1, up_ne _ _ ey]
      rw [el] at e e'
      exact hd x x' i j c hx hx' hu hu' e e'
  · have hc : vt A = 1 ∨ vt A = 2 := by
      unfold stOk at hok
      rw [Bool.not_eq_false', Bool.or_eq_true, decide_eq_true_eq, decide_eq_true_eq] at hok
      exact hok
    rcases hc with hc | hc
    · have eD : vD (stA A r t) = vD A := by
        show stD (vD A) r (encB t (nN (vD A) r)) (vt A) = vD A
        unfold stD
        rw [if_pos hc]
      refine ⟨vf A, hB, h2, ?_, ?_, ?_, ?_⟩
      · rw [eD]
        exact h3.mono (by omega)
      · rw [eD]; exact h4
      · rw [eD]; exact h5
      · rw [eD]; exact h6
    · have eD : vD (stA A r t) = secD (vD A) r 0 (encB t (nN (vD A) r)) := by
        show stD (vD A) r (encB t (nN (vD A) r)) (vt A) = _
        unfold stD
        rw [if_neg (by omega), if_pos hc]
      obtain ⟨w2, w30, w62⟩ := st1_w (vD A) r t (nN (vD A) r)
      have hur : inU (vD (stA A r t)) r = false := by
        rw [eD]
        unfold inU torn
        rw [w2, w30, w62, decide_eq_false (p := wrd (vD A) (64 * r + 62) = nN (vD A) r) (by omega)]
        simp
      have hux : ∀ x, x ≠ r → inU (vD (stA A r t)) x = inU (vD A) x ∧ ∀ p, p < 63 → wrd (vD (stA A r t)) (64 * x + p) = wrd (vD A) (64 * x + p) := fun x hx => by
        have := rec_same (hot x hx)
        exact ⟨this.2, this.1⟩
      refine ⟨up (vf A) r (frA (nN (vD A) r)), hB, h2, fun x hx => ?_, fun x hx hu => ?_, fun x hx hu => ?_, fun x x' i j c hx hx' hu hu' e e' => ?_⟩
      · by_cases e : x = r
        · rw [e, eD, w62, w2]
          omega
        · rw [(hux x e).2 62 (by omega), (hux x e).2 2 (by omega)]
          have := h3 x hx
          omega
      · have e : x ≠ r := fun z => by rw [z, hur] at hu; cases hu
        rw [(hux x e).1] at hu
        obtain ⟨g1, g2⟩ := h4 x hx hu
        rw [up_ne _ _ e]
        exact ⟨g1.cg (hot x e), g2⟩
      · by_cases e : x = r
        · rw [e, up_at, eD, w2]
        · rw [(hux x e).1] at hu
          rw [up_ne _ _ e, (hux x e).2 2 (by omega)]
          exact h5 x hx hu
      · have e1 : x ≠ r := fun z => by rw [z, hur] at hu; cases hu
        have e2 : x' ≠ r := fun z => by rw [z, hur] at hu'; cases hu'
        rw [(hux x e1).1] at hu
        rw [(hux x' e2).1] at hu'
        rw [up_ne _ _ e1] at e
        rw [up_ne _ _ e2] at e'
        exact h6 x x' i j c hx hx' hu hu' e e'
def PTk (U : Nat → Bool) (f : Nat → AS) : Prop := (∀ r, r < 12 → U r = true → U (aP (f r)) = true ∧ aS (f (aP (f r))) = 2) ∧ ∀ r, r < 12 → U r = true → ldN U f 12 r
def LSt (U : Nat → Bool) (f : Nat → AS) : Prop := ∀ d, d < 12 → U d = true → aS (f d) = 2 → (aH (f d)).Nodup ∧ ∀ x, x ∈ aH (f d) ↔ (0 < x ∧ x < 12 ∧ U x = true ∧ aP (f x) = d)
def TKt (U : Nat → Bool) (f : Nat → AS) (T : Nat → Bool) : Prop := ∀ c, c < 128 → (T c = true ↔ ∃ r, r < 12 ∧ U r = true ∧ some c ∈ aL (f r))
theorem OI.mk {N : Nat} {A : VS} (h : OJ N A) (h0 : vU A 0 = true) (hp : PTk (vU A) (vf A)) (hl : LSt (vU A) (vf A)) (ht : TKt (vU A) (vf A) (vT A)) : OI A :=
  ⟨h.rc, fun r hr hu => by rw [h.2 r hr] at hu; exact h.1.2.2.2.2.1 r hr hu, ⟨h0, (h.good (by omega) h0).2.1 rfl⟩, fun r h1 h2 hu => (h.good h2 hu).2.2 (by omega), hp.1, hp.2, hl, ht, h.dd⟩
theorem OI.pt {A : VS} (h : OI A) : PTk (vU A) (vf A) := ⟨h.2.2.2.2.1, h.2.2.2.2.2.1⟩
theorem OI.ls {A : VS} (h : OI A) : LSt (vU A) (vf A) := h.2.2.2.2.2.2.1
theorem OI.tk {A : VS} (h : OI A) : TKt (vU A) (vf A) (vT A) := h.2.2.2.2.2.2.2.1
theorem DDs.ls {V : Nat → Bool} {f : Nat → AS} (h : DDs V f) {V' : Nat → Bool} {f' : Nat → AS} (hs : ∀ x, x < 12 → V' x = true → aL (f' x) = [] ∨ (V x = true ∧ aL (f' x) = aL (f x))) : DDs V' f' := by
  intro r r' i j c hr hr' hu hu' e e'
  rcases hs r hr hu with g | ⟨g1, g2⟩
  · rw [g] at e
    cases e
  · rcases hs r' hr' hu' with k | ⟨k1, k2⟩
    · rw [k] at e'
      cases e'
    · rw [g2] at e
      rw [k2] at e'
      exact h r r' i j c hr hr' g1 k1 e e'
