/-! The reference's mount. -/
def inU (D : Nat → Nat) (r : Nat) : Bool := !torn D r && (decide (D (64 * r) = 1) || decide (D (64 * r) = 2))
def okU (D : Nat → Nat) (U : Nat → Bool) : Prop := ∀ r, r < 12 → U r = inU D r
def mSt (A : VS) (U : Nat → Bool) (f : Nat → AS) : VS := (vD A, vt A, vl A, true, U, f, vT A)
def mRoot (A : VS) : Nat × VS := if vU A 0 = true then (0, A) else (1, stA A 0 rootS)
def sMnt (A : VS) : Nat × VS :=
  if vo (mRoot A).2 = false then mRoot A
  else if vo (mPar 11 1 (mRoot A).1 (mRoot A).2).2 = false then mPar 11 1 (mRoot A).1 (mRoot A).2
  else mLis 12 0 (mPar 11 1 (mRoot A).1 (mRoot A).2).1 (mPar 11 1 (mRoot A).1 (mRoot A).2).2
/-- the clusters that records below n have -/
def tkT (U : Nat → Bool) (f : Nat → AS) (n : Nat) (T : Nat → Bool) : Prop := ∀ c, c < 128 → (T c = true ↔ ∃ r, r < n ∧ U r = true ∧ some c ∈ aL (f r))
section MMNT2
variable {G : fx_G} {S : fx_S} {I : Nat → Nat → Int32} {Q : fx_R → fx_S → Prop} {F : Int32 → fx_S → Prop}
theorem cM_mt154 (hS : shM S) {pl : List (Option Nat)} (hl : pl.length ≤ 63) (hx : ∀ c, some c ∈ pl → c < 128) (r : Nat) : ∀ (n i : Nat) (T : Nat → Bool) (I : Nat → Nat → Int32) {v1 v2 : Int32}, i + n = pl.length → I 88 = bF T → I 85 10 = nI pl.length → rowO I 91 pl →
    (∀ I' T', Fr [88] [] I I' → I' 88 = bF T' → (∀ c, T' c = true ↔ T c = true ∨ some c ∈ pl.drop i) → fx_Go G (7, 105) mm_M_mount 119 [(0, fx_r G 85), (1, .int (nI (r + 1)))] [] (fx_wI S I') Q) → v1 = nI r → v2 = nI i →
    fx_Go G (7, 105) mm_M_mount 154 [(0, fx_r G 85), (1, .int v1), (2, .int v2)] [] (fx_wI S I) Q := by
  intro n
  induction n with
  | zero =>
    intro i T I v1 v2 hi hT hc hm h e1 e2
    subst e1 e2
    have := h I T (Fr.rfl' _ _ _) hT (fun c => by rw [List.drop_of_length_le (by omega)]; simp)
    refine bs_M_mount_154 hS.w _ _ ?_
    simp only [wI_I, hc]
    refine pk_le pl.length i (fun _ => ?_) (fun q => absurd q (by omega)) rfl rfl (by omega) (by omega)
    rw [show nI r + Int32.ofInt 1 = nI (r + 1) from nI_1 r]
    exact this
  | succ n ih =>
    intro i T I v1 v2 hi hT hc hm h e1 e2
    subst e1 e2
    have hgo : ∀ c, go pl i = some c → c < 128 := fun c e => hx c (e ▸ go_mem (show i < pl.length by omega))
    have hgo' : ∀ c, go pl i = some c → c < 2 ^ 31 := fun c e => by have := hgo c e; omega
    rw [dropO _ _ (show i < pl.length by omega)] at h
    refine bs_M_mount_154 hS.w _ _ ?_
    simp only [wI_I, hc]
    refine pk_le pl.length i (fun q => absurd q (by omega)) (fun _ => ⟨pk_in i 64 (by omega) rfl, ?_⟩) rfl rfl (by omega) (by omega)
    rw [pk_cl i rfl (by omega), hm i (by omega)]
    refine ⟨fun q => ?_, fun q => ?_⟩
    · have e := (oI_lt hgo').mp q
      refine ih (i + 1) T I (by omega) hT hc hm (fun I' T' hF hT' ht => h I' T' hF hT' (fun c => ?_)) rfl (by first | rfl | (simp (disch := omega) only [nI_lit, nI_ofInt1, nI_ofInt4, nI_ofInt2, nI_ofInt3, mI_neg, wI_I, wI_setI, wI_setR, forall_eq, nI_add, pk_mul, pk_sub, pk_div, pk_rem, nI_clamp, nI_leI, nI_ltI, nI_eq, vin_iff, nar0, nar1, nF_ap, bF_ap, oF_ap, bI_0, bI_1, and255, bu_w, bu_p, bu_90, bu_9, row_w, row_at, nF_up, nI_ofIntm] <;> first | done | omega | (congr 1; omega)))
      rw [ht c, e]
      simp
    · obtain ⟨c, e⟩ := Option.ne_none_iff_exists'.mp (fun z => q ((oI_lt hgo').mpr z))
      have hc128 := hgo c e
      rw [e] at h ⊢
      simp only [oI]
      simp only [wI_setI, forall_eq]
      rw [pk_cl c rfl (by omega)]
      refine ⟨pk_in i 64 (by omega) rfl, pk_in c 128 hc128 rfl, ?_⟩
      refine ih (i + 1) (up T c true) _ (by omega) ?_ hc hm (fun I' T' hF hT' ht => h I' T' ((Fr.w [88] [] I 88 _ _ (by decide) (by decide)).tr hF (fun _ h => ⟨h, h⟩) (fun _ h => ⟨h, h⟩)) hT' (fun x => ?_)) rfl (by first | rfl | (simp (disch := omega) only [nI_lit, nI_ofInt1, nI_ofInt4, nI_ofInt2, nI_ofInt3, mI_neg, wI_I, wI_setI, wI_setR, forall_eq, nI_add, pk_mul, pk_sub, pk_div, pk_rem, nI_clamp, nI_leI, nI_ltI, nI_eq, vin_iff, nar0, nar1, nF_ap, bF_ap, oF_ap, bI_0, bI_1, and255, bu_w, bu_p, bu_90, bu_9, row_w, row_at, nF_up, nI_ofIntm] <;> first | done | omega | (congr 1; omega)))
      · rw [← bF_up, ← hT]; rfl
      · rw [ht x]
        unfold up
        by_cases hxc : x = c
        · subst hxc; simp
        · simp [hxc]
theorem cM_mt119 (hS : shM S) {D : Nat → Nat} {U : Nat → Bool} {f : Nat → AS} (hrc : Recs D U f) : ∀ (n r : Nat) (T : Nat → Bool) (I : Nat → Nat → Int32) {v1 : Int32}, r + n = 12 → I 86 = nF D → I 87 = bF U → I 88 = bF T → tkT U f r T →
    (∀ I' T', Fr [88, 91] [4, 10] I I' → I' 88 = bF T' → tkT U f 12 T' → I' 85 4 = nI 1 → F (I' 85 16) (fx_wI S I')) → v1 = nI r →
    fx_Go G (7, 105) mm_M_mount 119 [(0, fx_r G 85), (1, .int v1)] [] (fx_wI S I) (fx_qi F Q) := by
  intro n
  induction n with
  | zero =>
    intro r T I v1 hr hD hU hT ht h e1
    subst e1
    have e : r = 12 := by omega
    subst e
    refine bs_M_mount_119 hS.w _ ?_
    refine pk_le 12 12 (fun _ => ?_) (fun q => absurd q (by omega)) rfl rfl (by omega) (by omega)
    simp only [wI_setI, forall_eq, wI_I]
    exact h (fx_w I 85 4 (nI 1)) T (Fr.w5 _ _ _ _ _ (by decide)) hT ht rfl
  | succ n ih =>
    intro r T I v1 hr hD hU hT ht h e1
    subst e1
    refine bs_M_mount_119 hS.w _ ?_
    refine pk_le 12 r (fun q => absurd q (by omega)) (fun _ => ⟨pk_in r 12 (by omega) rfl, ?_⟩) rfl rfl (by omega) (by omega)
    simp only [wI_I, hU]
    rw [pk_cl r rfl (by omega)]
    have step : ∀ T', (∀ c, c < 128 → (T' c = true ↔ T c = true ∨ (U r = true ∧ some c ∈ aL (f r)))) → tkT U f (r + 1) T' := by
      intro T' hT' c hc
      rw [hT' c hc, ht c hc]
      constructor
      · rintro (⟨r', h1, h2, h3⟩ | ⟨h2, h3⟩)
        · exact ⟨r', by omega, h2, h3⟩
        · exact ⟨r, by omega, h2, h3⟩
      · rintro ⟨r', h1, h2, h3⟩
        by_cases e : r' = r
        · subst e; exact Or.inr ⟨h2, h3⟩
        · exact Or.inl ⟨r', by omega, h2, h3⟩
    refine b0 (fun q => ?_) (fun q => ?_)
    · refine ih (r + 1) T I (by omega) hD hU hT (step T (fun c _ => ?_)) h (by first | rfl | (simp (disch := omega) only [nI_lit, nI_ofInt1, nI_ofInt4, nI_ofInt2, nI_ofInt3, mI_neg, wI_I, wI_setI, wI_setR, forall_eq, nI_add, pk_mul, pk_sub, pk_div, pk_rem, nI_clamp, nI_leI, nI_ltI, nI_eq, vin_iff, nar0, nar1, nF_ap, bF_ap, oF_ap, bI_0, bI_1, and255, bu_w, bu_p, bu_90, bu_9, row_w, row_at, nF_up, nI_ofIntm] <;> first | done | omega | (congr 1; omega)))
      rw [q]; simp
    · obtain ⟨hR, hw⟩ := hrc r (by omega) q
      have hK := hw.1
      have hpl := hw.pl
      refine cM_byteR hS hD r 0 hR (by omega) (by omega) ⟨hS, ?_⟩ rfl rfl
      rw [show rv (f r) 0 = aS (f r) from rfl]
      refine pk_eq (aS (f r)) 1 (fun q2 => ?_) (fun q2 => ?_) rfl rfl (by omega) (by omega)
      · refine cM_loadMap hS hD r hR (by omega) hw (fun I1 hF1 h10 hrow1 => ⟨hS, ?_⟩) rfl
        refine cM_mt154 hS hpl.1 (fun c hc => (hpl.2 c hc).2) r (aL (f r)).length 0 T I1 (by omega) ((hF1.1 88 (by decide) (by decide)).trans hT) h10 hrow1 (fun I2 T2 hF2 hT2 ht2 => ?_) rfl rfl
        have hF3 : Fr [88, 91] [4, 10] I I2 := (hF1.mono (fun a h => by simp at h ⊢; omega) (fun a h => by simp at h ⊢; omega)).tr (hF2.mono (fun a h => by simp at h ⊢; omega) (fun a h => by simp at h)) (fun _ h => ⟨h, h⟩) (fun _ h => ⟨h, h⟩)
        refine ih (r + 1) T2 I2 (by omega) ((hF3.1 86 (by decide) (by decide)).trans hD) ((hF3.1 87 (by decide) (by decide)).trans hU) hT2 (step T2 (fun c _ => ?_)) (fun I' T' hF' => h I' T' (hF3.tr hF' (fun _ h => ⟨h, h⟩) (fun _ h => ⟨h, h⟩))) rfl
        rw [ht2 c, List.drop_zero, q]
        simp
      · refine ih (r + 1) T I (by omega) hD hU hT (step T (fun c _ => ?_)) h (by first | rfl | (simp (disch := omega) only [nI_lit, nI_ofInt1, nI_ofInt4, nI_ofInt2, nI_ofInt3, mI_neg, wI_I, wI_setI, wI_setR, forall_eq, nI_add, pk_mul, pk_sub, pk_div, pk_rem, nI_clamp, nI_leI, nI_ltI, nI_eq, vin_iff, nar0, nar1, nF_ap, bF_ap, oF_ap, bI_0, bI_1, and255, bu_w, bu_p, bu_90, bu_9, row_w, row_at, nF_up, nI_ofIntm] <;> first | done | omega | (congr 1; omega)))
        have h3 : aK (f r) ≠ 3 := by omega
        rw [hw.2.2.2.2.2.2.2.2.1 h3]
        simp
theorem cM_mt97 (hS : shM S) : ∀ (n c : Nat) (T : Nat → Bool) (I : Nat → Nat → Int32) {v1 : Int32}, c + n = 128 → I 88 = bF T → (∀ x, x < c → T x = false) →
    (∀ I' T', Fr [88] [] I I' → I' 88 = bF T' → (∀ x, x < 128 → T' x = false) → fx_Go G (7, 105) mm_M_mount 119 [(0, fx_r G 85), (1, .int (nI 0))] [] (fx_wI S I') Q) → v1 = nI c →
    fx_Go G (7, 105) mm_M_mount 97 [(0, fx_r G 85), (1, .int v1)] [] (fx_wI S I) Q := by
  intro n
  induction n with
  | zero =>
    intro c T I v1 hc hT ht h e1
    subst e1
    refine bs_M_mount_97 hS.w _ ?_
    exact pk_le 128 c (fun _ => h I T (Fr.rfl' _ _ _) hT (fun x hx => ht x (by omega))) (fun q => absurd q (by omega)) rfl rfl (by omega) (by omega)
  | succ n ih =>
    intro c T I v1 hc hT ht h e1
    subst e1
    refine bs_M_mount_97 hS.w _ ?_
    refine pk_le 128 c (fun q => absurd q (by omega)) (fun _ => ⟨pk_in c 128 (by omega) rfl, ?_⟩) rfl rfl (by omega) (by omega)
    simp only [wI_setI, forall_eq]
    rw [pk_cl c rfl (by omega)]
    refine ih (c + 1) (up T c false) _ (by omega) ?_ (fun x hx => ?_) (fun I' T' hF => h I' T' ((Fr.w [88] [] I 88 _ _ (by decide) (by decide)).tr hF (fun _ h => ⟨h, h⟩) (fun _ h => ⟨h, h⟩))) (by first | rfl | (simp (disch := omega) only [nI_lit, nI_ofInt1, nI_ofInt4, nI_ofInt2, nI_ofInt3, mI_neg, wI_I, wI_setI, wI_setR, forall_eq, nI_add, pk_mul, pk_sub, pk_div, pk_rem, nI_clamp, nI_leI, nI_ltI, nI_eq, vin_iff, nar0, nar1, nF_ap, bF_ap, oF_ap, bI_0, bI_1, and255, bu_w, bu_p, bu_90, bu_9, row_w, row_at, nF_up, nI_ofIntm] <;> first | done | omega | (congr 1; omega)))
    · rw [← bF_up, ← hT]; rfl
    · unfold up
      split
      · rfl
      · exact ht x (by omega)
theorem cM_mt17 (hS : shM S) {D : Nat → Nat} (hB : ∀ k, D k < 256) : ∀ (n r : Nat) (U : Nat → Bool) (I : Nat → Nat → Int32) {v1 : Int32}, r + n = 12 → I 86 = nF D → I 87 = bF U → (∀ x, x < r → U x = inU D x) →
    (∀ I' U', Fr [87] [] I I' → I' 87 = bF U' → okU D U' → (∀ x, 12 ≤ x → U' x = U x) → fx_Go G (7, 105) mm_M_mount 17 [(0, fx_r G 85), (1, .int (nI 12))] [] (fx_wI S I') Q) → v1 = nI r →
    fx_Go G (7, 105) mm_M_mount 17 [(0, fx_r G 85), (1, .int v1)] [] (fx_wI S I) Q := by
  intro n
  induction n with
  | zero =>
    intro r U I v1 hr hD hU hu h e1
    subst e1
    have e : r = 12 := by omega
    subst e
    exact h I U (Fr.rfl' _ _ _) hU hu (fun _ _ => rfl)
  | succ n ih =>
    intro r U I v1 hr hD hU hu h e1
    subst e1
    have nx : ∀ b : Bool, b = inU D r → fx_Go G (7, 105) mm_M_mount 17 [(0, fx_r G 85), (1, .int (nI r + Int32.ofInt 1))] [] (fx_wI S (fx_w I 87 r (bI b))) Q := by
      intro b hb
      refine ih (r + 1) (up U r b) _ (by omega) hD ?_ (fun x hx => ?_) (fun I' U' hF hU' hok hx => h I' U' ((Fr.w [87] [] I 87 _ _ (by decide) (by decide)).tr hF (fun _ h => ⟨h, h⟩) (fun _ h => ⟨h, h⟩)) hU' hok (fun x hx2 => by rw [hx x hx2]; unfold up; rw [if_neg (by omega)])) (by first | rfl | (simp (disch := omega) only [nI_lit, nI_ofInt1, nI_ofInt4, nI_ofInt2, nI_ofInt3, mI_neg, wI_I, wI_setI, wI_setR, forall_eq, nI_add, pk_mul, pk_sub, pk_div, pk_rem, nI_clamp, nI_leI, nI_ltI, nI_eq, vin_iff, nar0, nar1, nF_ap, bF_ap, oF_ap, bI_0, bI_1, and255, bu_w, bu_p, bu_90, bu_9, row_w, row_at, nF_up, nI_ofIntm] <;> first | done | omega | (congr 1; omega)))
      · rw [← bF_up, ← hU]; rfl
      · unfold up
        by_cases e : x = r
        · rw [if_pos e, hb, e]
        · rw [if_neg e]; exact hu x (by omega)
    unfold inU at nx
    have hb64 := hB (64 * r)
    have e64 : (64 * nI r).toNatClampNeg = 64 * r := pk_cl (64 * r) (by rw [show (64 : Int32) = nI 64 from rfl, pk_mul]) (by omega)
    refine bs_M_mount_17 hS.w _ ?_
    refine pk_le 12 r (fun q => absurd q (by omega)) (fun _ => ⟨pk_in (64 * r) 2048 (by omega) (by rw [show (64 : Int32) = nI 64 from rfl, pk_mul]), ?_⟩) rfl rfl (by omega) (by omega)
    refine cM_isTorn hS hD hB r (by omega) ⟨hS, ?_⟩ rfl
    simp only [wI_setI, forall_eq, wI_I]
    rw [e64, pk_cl r rfl (by omega), hD]
    refine b1 (fun q => ⟨pk_in r 12 (by omega) rfl, nx false (by rw [q]; rfl)⟩) (fun q => ?_)
    refine pk_eq (D (64 * r)) 1 (fun q2 => ⟨pk_in r 12 (by omega) rfl, nx true (by rw [q, q2]; rfl)⟩) (fun q2 => ?_) rfl rfl (by omega) (by omega)
    refine ne_pair (pk_eq (D (64 * r)) 2 (fun q3 => ⟨pk_in r 12 (by omega) rfl, nx true (by rw [q, q3]; rfl)⟩) (fun q3 => ⟨pk_in r 12 (by omega) rfl, nx false (by rw [q, decide_eq_false q2, decide_eq_false q3]; rfl)⟩) rfl rfl (by omega) (by omega))
end MMNT2
