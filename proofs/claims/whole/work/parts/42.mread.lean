/-! The reference's readers. -/
section MREAD
variable {G : fx_G} {S : fx_S} {I : Nat → Nat → Int32} {Q : fx_R → fx_S → Prop} {F : Int32 → fx_S → Prop} {D : Nat → Nat}
theorem cM_byteOf (hS : shM S) (hD : I 86 = nF D) {v1 v2 : Int32} (r k : Nat) (hr : r < 12) (hk : k < 64) (h : F (nI (byt D r k)) (fx_wI S I)) (e1 : v1 = nI r) (e2 : v2 = nI k) :
    fx_Go G (0, 0) mm_M_byteOf 0 [(0, fx_r G 85), (1, .int v1), (2, .int v2)] [] (fx_wI S I) (fx_qi F Q) := by
  subst e1 e2
  have hq : ∀ b, b = byt D r k → fx_qi F Q (.inl (some (.int (nI b)))) (fx_wI S I) := by
    intro b hb; rw [hb]; exact h
  unfold byt at hq
  refine bs_M_byteOf_0 hS.w _ _ ?_
  simp (disch := omega) only [nI_lit, nI_ofInt1, nI_ofInt4, nI_ofInt2, nI_ofInt3, mI_neg, wI_I, wI_setI, wI_setR, forall_eq, nI_add, pk_mul, pk_sub, pk_div, pk_rem, nI_clamp, nI_leI, nI_ltI, nI_eq, vin_iff, nar0, nar1, nF_ap, bF_ap, oF_ap, bI_0, bI_1, and255, bu_w, bu_p, bu_90, bu_9, row_w, row_at, nF_up, nI_ofIntm, hD]
  refine ⟨fun h30 => ?_, fun h30 => ?_⟩
  · subst h30
    simp (disch := omega) only [nI_lit, nI_ofInt1, nI_ofInt4, nI_ofInt2, nI_ofInt3, mI_neg, wI_I, wI_setI, wI_setR, forall_eq, nI_add, pk_mul, pk_sub, pk_div, pk_rem, nI_clamp, nI_leI, nI_ltI, nI_eq, vin_iff, nar0, nar1, nF_ap, bF_ap, oF_ap, bI_0, bI_1, and255, bu_w, bu_p, bu_90, bu_9, row_w, row_at, nF_up, nI_ofIntm]
    exact ⟨by omega, hq _ (by simp)⟩
  refine ⟨fun h31 => ?_, fun h31 => ?_⟩
  · refine ⟨fun h62 => ?_, fun h62 => ?_⟩
    · subst h62
      simp (disch := omega) only [nI_lit, nI_ofInt1, nI_ofInt4, nI_ofInt2, nI_ofInt3, mI_neg, wI_I, wI_setI, wI_setR, forall_eq, nI_add, pk_mul, pk_sub, pk_div, pk_rem, nI_clamp, nI_leI, nI_ltI, nI_eq, vin_iff, nar0, nar1, nF_ap, bF_ap, oF_ap, bI_0, bI_1, and255, bu_w, bu_p, bu_90, bu_9, row_w, row_at, nF_up, nI_ofIntm]
      exact ⟨by omega, hq _ (by simp)⟩
    · refine ⟨fun h63 => ?_, fun h63 => ?_⟩
      · refine ⟨fun h3 => ⟨by omega, hq _ ?_⟩, fun h3 => ⟨fun h8 => ⟨by omega, hq _ ?_⟩, fun h8 => hq _ ?_⟩⟩
        · rw [if_neg (by omega), if_neg (by omega), if_neg (by omega)]
        · rw [if_neg (by omega), if_neg (by omega), if_neg (by omega)]
        · rw [if_neg (by omega), if_neg (by omega), if_pos (by omega)]
      · subst h63
        simp (disch := omega) only [nI_lit, nI_ofInt1, nI_ofInt4, nI_ofInt2, nI_ofInt3, mI_neg, wI_I, wI_setI, wI_setR, forall_eq, nI_add, pk_mul, pk_sub, pk_div, pk_rem, nI_clamp, nI_leI, nI_ltI, nI_eq, vin_iff, nar0, nar1, nF_ap, bF_ap, oF_ap, bI_0, bI_1, and255, bu_w, bu_p, bu_90, bu_9, row_w, row_at, nF_up, nI_ofIntm]
        exact ⟨by omega, hq _ (by simp)⟩
  · subst h31
    simp (disch := omega) only [nI_lit, nI_ofInt1, nI_ofInt4, nI_ofInt2, nI_ofInt3, mI_neg, wI_I, wI_setI, wI_setR, forall_eq, nI_add, pk_mul, pk_sub, pk_div, pk_rem, nI_clamp, nI_leI, nI_ltI, nI_eq, vin_iff, nar0, nar1, nF_ap, bF_ap, oF_ap, bI_0, bI_1, and255, bu_w, bu_p, bu_90, bu_9, row_w, row_at, nF_up, nI_ofIntm]
    exact ⟨by omega, hq _ (by simp)⟩
/-- of a record that reads as a sheet -/
theorem cM_byteR (hS : shM S) (hD : I 86 = nF D) {s : AS} {v1 v2 : Int32} (r k : Nat) (hR : Rec D r s) (hr : r < 12) (hk : k < 64) (h : F (nI (rv s k)) (fx_wI S I)) (e1 : v1 = nI r) (e2 : v2 = nI k) :
    fx_Go G (0, 0) mm_M_byteOf 0 [(0, fx_r G 85), (1, .int v1), (2, .int v2)] [] (fx_wI S I) (fx_qi F Q) :=
  cM_byteOf hS hD r k hr hk (by rw [hR k hk]; exact h) e1 e2
def wrd (D : Nat → Nat) (p : Nat) : Nat := D p + 256 * D (p + 1)
theorem cM_wordAt (hS : shM S) (hD : I 86 = nF D) {v1 : Int32} (p : Nat) (hp : p < 2047) (h : F (nI (wrd D p)) (fx_wI S I)) (e1 : v1 = nI p) :
    fx_Go G (0, 0) mm_M_wordAt 0 [(0, fx_r G 85), (1, .int v1)] [] (fx_wI S I) (fx_qi F Q) := by
  subst e1
  refine bs_M_wordAt_0 hS.w _ ?_
  simp (disch := omega) only [nI_lit, nI_ofInt1, nI_ofInt4, nI_ofInt2, nI_ofInt3, mI_neg, wI_I, wI_setI, wI_setR, forall_eq, nI_add, pk_mul, pk_sub, pk_div, pk_rem, nI_clamp, nI_leI, nI_ltI, nI_eq, vin_iff, nar0, nar1, nF_ap, bF_ap, oF_ap, bI_0, bI_1, and255, bu_w, bu_p, bu_90, bu_9, row_w, row_at, nF_up, nI_ofIntm, hD]
  exact ⟨by omega, by omega, h⟩
theorem wrd_lt (hB : ∀ k, D k < 256) (p : Nat) : wrd D p < 65536 := by
  have h1 := hB p
  have h2 := hB (p + 1)
  unfold wrd
  omega
def torn (D : Nat → Nat) (r : Nat) : Bool := !(decide (wrd D (64 * r + 30) = wrd D (64 * r + 2)) && decide (wrd D (64 * r + 62) = wrd D (64 * r + 2)))
theorem cM_isTorn (hS : shM S) (hD : I 86 = nF D) (hB : ∀ k, D k < 256) {v1 : Int32} (r : Nat) (hr : r < 12) (h : F (bI (torn D r)) (fx_wI S I)) (e1 : v1 = nI r) :
    fx_Go G (1, 13) mm_M_isTorn 0 [(0, fx_r G 85), (1, .int v1)] [] (fx_wI S I) (fx_qi F Q) := by
  subst e1
  have w2 := wrd_lt hB (64 * r + 2)
  have w30 := wrd_lt hB (64 * r + 30)
  have w62 := wrd_lt hB (64 * r + 62)
  have hq : ∀ b, b = torn D r → fx_qi F Q (.inl (some (.int (bI b)))) (fx_wI S I) := by
    intro b hb; rw [hb]; exact h
  unfold torn at hq
  refine bs_M_isTorn_0 hS.w _ ?_
  refine cM_wordAt hS hD (64 * r + 2) (by omega) ⟨hS, ?_⟩ (by first | rfl | (simp (disch := omega) only [nI_lit, nI_ofInt1, nI_ofInt4, nI_ofInt2, nI_ofInt3, mI_neg, wI_I, wI_setI, wI_setR, forall_eq, nI_add, pk_mul, pk_sub, pk_div, pk_rem, nI_clamp, nI_leI, nI_ltI, nI_eq, vin_iff, nar0, nar1, nF_ap, bF_ap, oF_ap, bI_0, bI_1, and255, bu_w, bu_p, bu_90, bu_9, row_w, row_at, nF_up, nI_ofIntm] <;> first | done | omega | (congr 1; omega)))
  refine cM_wordAt hS hD (64 * r + 30) (by omega) ⟨hS, ?_⟩ (by first | rfl | (simp (disch := omega) only [nI_lit, nI_ofInt1, nI_ofInt4, nI_ofInt2, nI_ofInt3, mI_neg, wI_I, wI_setI, wI_setR, forall_eq, nI_add, pk_mul, pk_sub, pk_div, pk_rem, nI_clamp, nI_leI, nI_ltI, nI_eq, vin_iff, nar0, nar1, nF_ap, bF_ap, oF_ap, bI_0, bI_1, and255, bu_w, bu_p, bu_90, bu_9, row_w, row_at, nF_up, nI_ofIntm] <;> first | done | omega | (congr 1; omega)))
  simp (disch := omega) only [nI_lit, nI_ofInt1, nI_ofInt4, nI_ofInt2, nI_ofInt3, mI_neg, wI_I, wI_setI, wI_setR, forall_eq, nI_add, pk_mul, pk_sub, pk_div, pk_rem, nI_clamp, nI_leI, nI_ltI, nI_eq, vin_iff, nar0, nar1, nF_ap, bF_ap, oF_ap, bI_0, bI_1, and255, bu_w, bu_p, bu_90, bu_9, row_w, row_at, nF_up, nI_ofIntm]
  refine ⟨fun hc => hq true (by simp [hc]), fun hc => ?_⟩
  refine cM_wordAt hS hD (64 * r + 62) (by omega) ⟨hS, ?_⟩ (by first | rfl | (simp (disch := omega) only [nI_lit, nI_ofInt1, nI_ofInt4, nI_ofInt2, nI_ofInt3, mI_neg, wI_I, wI_setI, wI_setR, forall_eq, nI_add, pk_mul, pk_sub, pk_div, pk_rem, nI_clamp, nI_leI, nI_ltI, nI_eq, vin_iff, nar0, nar1, nF_ap, bF_ap, oF_ap, bI_0, bI_1, and255, bu_w, bu_p, bu_90, bu_9, row_w, row_at, nF_up, nI_ofIntm] <;> first | done | omega | (congr 1; omega)))
  simp (disch := omega) only [nI_lit, nI_ofInt1, nI_ofInt4, nI_ofInt2, nI_ofInt3, mI_neg, wI_I, wI_setI, wI_setR, forall_eq, nI_add, pk_mul, pk_sub, pk_div, pk_rem, nI_clamp, nI_leI, nI_ltI, nI_eq, vin_iff, nar0, nar1, nF_ap, bF_ap, oF_ap, bI_0, bI_1, and255, bu_w, bu_p, bu_90, bu_9, row_w, row_at, nF_up, nI_ofIntm]
  exact ⟨fun hd => hq false (by simp [hc, hd]), fun hd => hq true (by simp [hd])⟩
/-- a record in use, while the volume is on -/
def isr (on : Bool) (U : Nat → Bool) (v : Int32) : Bool := on && (!decide (v < 0) && (!decide (nI 12 ≤ v) && U v.toNatClampNeg))
theorem isr_j {on : Bool} {U : Nat → Bool} {v : Int32} (h : isr on U v = true) : ∃ j, j < 12 ∧ v = nI j ∧ U j = true ∧ on = true := by
  unfold isr at h
  simp only [Bool.and_eq_true, Bool.not_eq_true', decide_eq_false_iff_not] at h
  rcases pk_ix v (n := 12) (by decide) with h1 | h1 | ⟨j, hj, e⟩
  · exact absurd h1 h.2.1
  · exact absurd h1 h.2.2.1
  · refine ⟨j, hj, e, ?_, h.1⟩
    have := h.2.2.2
    rw [e, nI_clamp (by omega)] at this
    exact this
theorem isr_nI {on : Bool} {U : Nat → Bool} {j : Nat} (hj : j < 12) : isr on U (nI j) = (on && U j) := by
  unfold isr
  rw [nI_clamp (by omega), decide_eq_false (nI_pos (by omega)), decide_eq_false (nI_ge hj (by omega))]
  rfl
theorem cM_isRecord (hS : shM S) {on : Bool} {U : Nat → Bool} (hO : I 85 4 = bI on) (hU : I 87 = bF U) (v1 : Int32) (h : F (bI (isr on U v1)) (fx_wI S I)) :
    fx_Go G (0, 0) mm_M_isRecord 0 [(0, fx_r G 85), (1, .int v1)] [] (fx_wI S I) (fx_qi F Q) := by
  have hq : ∀ b, b = isr on U v1 → fx_qi F Q (.inl (some (.int (bI b)))) (fx_wI S I) := by
    intro b hb; rw [hb]; exact h
  unfold isr at hq
  refine bs_M_isRecord_0 hS.w _ ?_
  simp only [wI_I, hO, hU]
  refine b0 (fun hc => hq false (by simp [hc])) (fun hc => ?_)
  refine ⟨fun h0 => hq false (by simp [h0]), fun h0 => ⟨fun h12 => hq false ?_, fun h12 => ?_⟩⟩
  · have : nI 12 ≤ v1 := h12
    simp [this]
  have h12' : ¬ nI 12 ≤ v1 := h12
  rcases pk_ix v1 (n := 12) (by decide) with h1 | h1 | ⟨j, hj, e⟩
  · exact absurd h1 h0
  · exact absurd h1 h12
  refine ⟨by rw [e]; exact vp_in_nI hj (by decide), ?_⟩
  exact b0 (fun hu => hq false (by simp [hu])) (fun hu => hq true (by simp [hc, h0, h12', hu]))
def isk (on : Bool) (U : Nat → Bool) (D : Nat → Nat) (v : Int32) (s : Nat) : Bool := isr on U v && decide (D (64 * v.toNatClampNeg) = s)
theorem cM_isKind (hS : shM S) {on : Bool} {U : Nat → Bool} (hD : I 86 = nF D) (hB : ∀ k, D k < 256) (hO : I 85 4 = bI on) (hU : I 87 = bF U) (v1 : Int32) {v2 : Int32} (s : Nat) (hs : s < 256) (h : F (bI (isk on U D v1 s)) (fx_wI S I)) (e2 : v2 = nI s) :
    fx_Go G (1, 15) mm_M_isKind 0 [(0, fx_r G 85), (1, .int v1), (2, .int v2)] [] (fx_wI S I) (fx_qi F Q) := by
  subst e2
  have hq : ∀ b, b = isk on U D v1 s → fx_qi F Q (.inl (some (.int (bI b)))) (fx_wI S I) := by
    intro b hb; rw [hb]; exact h
  unfold isk at hq
  refine bs_M_isKind_0 hS.w _ _ ?_
  refine cM_isRecord hS hO hU v1 ⟨hS, ?_⟩
  refine b0 (fun hc => hq false (by simp [hc])) (fun hc => ?_)
  obtain ⟨j, hj, e, hu, ho⟩ := isr_j hc
  refine cM_byteOf hS hD j 0 hj (by omega) ⟨hS, ?_⟩ e rfl
  have e0 : byt D j 0 = D (64 * j) := rfl
  have := hB (64 * j)
  rw [e0]
  simp (disch := omega) only [nI_lit, nI_ofInt1, nI_ofInt4, nI_ofInt2, nI_ofInt3, mI_neg, wI_I, wI_setI, wI_setR, forall_eq, nI_add, pk_mul, pk_sub, pk_div, pk_rem, nI_clamp, nI_leI, nI_ltI, nI_eq, vin_iff, nar0, nar1, nF_ap, bF_ap, oF_ap, bI_0, bI_1, and255, bu_w, bu_p, bu_90, bu_9, row_w, row_at, nF_up, nI_ofIntm]
  have ev : v1.toNatClampNeg = j := by rw [e, nI_clamp (by omega)]
  exact ⟨fun hd => hq false (by simp [ev, hd]), fun hd => hq true (by simp [ev, hd, hc])⟩
/-- where the attribute of a kind is -/
def atR (s : AS) (k : Nat) : Int32 := if k = 1 ∧ (aM s).length ≠ 0 then nI 10 else if k = aK s then nI (10 + (nmA (aM s)).length) else mI
theorem cM_attr_end (hS : shM S) {v1 v2 v3 v4 : Int32} (p e : Nat) (he : e ≤ p) (hp : p < 1000) (h : F mI (fx_wI S I)) (e3 : v3 = nI p) (e4 : v4 = nI e) :
    fx_Go G (1, 16) mm_M_attribute 15 [(0, fx_r G 85), (1, .int v1), (2, .int v2), (3, .int v3), (4, .int v4)] [] (fx_wI S I) (fx_qi F Q) := by
  subst e3 e4
  refine bs_M_attribute_15 hS.w _ _ _ _ ?_
  simp (disch := omega) only [nI_lit, nI_ofInt1, nI_ofInt4, nI_ofInt2, nI_ofInt3, mI_neg, wI_I, wI_setI, wI_setR, forall_eq, nI_add, pk_mul, pk_sub, pk_div, pk_rem, nI_clamp, nI_leI, nI_ltI, nI_eq, vin_iff, nar0, nar1, nF_ap, bF_ap, oF_ap, bI_0, bI_1, and255, bu_w, bu_p, bu_90, bu_9, row_w, row_at, nF_up, nI_ofIntm]
  exact ⟨fun _ => h, fun hc => absurd he hc⟩
theorem cM_attribute (hS : shM S) (hD : I 86 = nF D) {s : AS} {v1 v2 : Int32} (r k : Nat) (hR : Rec D r s) (hr : r < 12) (hw : wf s) (hk : k < 256) (h : F (atR s k) (fx_wI S I)) (e1 : v1 = nI r) (e2 : v2 = nI k) :
    fx_Go G (1, 16) mm_M_attribute 0 [(0, fx_r G 85), (1, .int v1), (2, .int v2)] [] (fx_wI S I) (fx_qi F Q) := by
  subst e1 e2
  have hq : ∀ b, b = atR s k → fx_qi F Q (.inl (some (.int b))) (fx_wI S I) := by
    intro b hb; rw [hb]; exact h
  unfold atR at hq
  obtain ⟨w1, w2, w3, w4, w5, w6, w7⟩ := hw
  have hK : aK s ≠ 0 ∧ aK s ≠ 1 ∧ aK s < 256 := by omega
  have hL := atA_len s
  have hN := nmA_len (aM s)
  have hT := dtA_len s
  have hT2 : 2 ≤ (dtA s).length := by rw [hT, if_neg hK.1]; split <;> omega
  -- the data's attribute
  have hdt : fx_Go G (1, 16) mm_M_attribute 15 [(0, fx_r G 85), (1, .int (nI r)), (2, .int (nI k)), (3, .int (nI (10 + (nmA (aM s)).length))), (4, .int (nI (10 + (atA s).length)))] [] (fx_wI S I) (fx_qi F Q) ∨ (k = 1 ∧ (aM s).length ≠ 0) := by
    by_cases hc : k = 1 ∧ (aM s).length ≠ 0
    · exact Or.inr hc
    left
    refine bs_M_attribute_15 hS.w _ _ _ _ ?_
    simp (disch := omega) only [nI_lit, nI_ofInt1, nI_ofInt4, nI_ofInt2, nI_ofInt3, mI_neg, wI_I, wI_setI, wI_setR, forall_eq, nI_add, pk_mul, pk_sub, pk_div, pk_rem, nI_clamp, nI_leI, nI_ltI, nI_eq, vin_iff, nar0, nar1, nF_ap, bF_ap, oF_ap, bI_0, bI_1, and255, bu_w, bu_p, bu_90, bu_9, row_w, row_at, nF_up, nI_ofIntm]
    refine ⟨fun hx => absurd hx (by omega), fun _ => ?_⟩
    refine cM_byteR hS hD r (10 + (nmA (aM s)).length) hR hr (by omega) ⟨hS, ?_⟩ rfl rfl
    rw [rv_d0 s hK.1]
    simp (disch := omega) only [nI_lit, nI_ofInt1, nI_ofInt4, nI_ofInt2, nI_ofInt3, mI_neg, wI_I, wI_setI, wI_setR, forall_eq, nI_add, pk_mul, pk_sub, pk_div, pk_rem, nI_clamp, nI_leI, nI_ltI, nI_eq, vin_iff, nar0, nar1, nF_ap, bF_ap, oF_ap, bI_0, bI_1, and255, bu_w, bu_p, bu_90, bu_9, row_w, row_at, nF_up, nI_ofIntm]
    refine ⟨fun hx => ?_, fun hx => hq _ (by rw [if_neg hc, if_pos hx.symm])⟩
    refine cM_byteR hS hD r (10 + (nmA (aM s)).length + 1) hR hr (by omega) ⟨hS, ?_⟩ rfl rfl
    rw [rv_d1 s hK.1]
    exact cM_attr_end hS (10 + (nmA (aM s)).length + (dtA s).length) (10 + (atA s).length) (by omega) (by omega) (hq _ (by rw [if_neg hc, if_neg (fun e => hx e.symm)])) (by first | rfl | (simp (disch := omega) only [nI_lit, nI_ofInt1, nI_ofInt4, nI_ofInt2, nI_ofInt3, mI_neg, wI_I, wI_setI, wI_setR, forall_eq, nI_add, pk_mul, pk_sub, pk_div, pk_rem, nI_clamp, nI_leI, nI_ltI, nI_eq, vin_iff, nar0, nar1, nF_ap, bF_ap, oF_ap, bI_0, bI_1, and255, bu_w, bu_p, bu_90, bu_9, row_w, row_at, nF_up, nI_ofIntm] <;> first | done | omega | (congr 1; omega))) rfl
  refine bs_M_attribute_0 hS.w _ _ ?_
  refine cM_byteR hS hD r 8 hR hr (by omega) ⟨hS, ?_⟩ rfl rfl
  rw [rv_8]
  simp (disch := omega) only [nI_lit, nI_ofInt1, nI_ofInt4, nI_ofInt2, nI_ofInt3, mI_neg, wI_I, wI_setI, wI_setR, forall_eq, nI_add, pk_mul, pk_sub, pk_div, pk_rem, nI_clamp, nI_leI, nI_ltI, nI_eq, vin_iff, nar0, nar1, nF_ap, bF_ap, oF_ap, bI_0, bI_1, and255, bu_w, bu_p, bu_90, bu_9, row_w, row_at, nF_up, nI_ofIntm]
  by_cases hn : (aM s).length = 0
  · rw [if_pos hn] at hN
    rw [hN] at hdt
    rcases hdt with hdt | hdt
    · exact hdt
    · exact absurd hn hdt.2
  rw [if_neg hn] at hN
  obtain ⟨r10, r11⟩ := rv_10 s hn
  refine bs_M_attribute_15 hS.w _ _ _ _ ?_
  simp (disch := omega) only [nI_lit, nI_ofInt1, nI_ofInt4, nI_ofInt2, nI_ofInt3, mI_neg, wI_I, wI_setI, wI_setR, forall_eq, nI_add, pk_mul, pk_sub, pk_div, pk_rem, nI_clamp, nI_leI, nI_ltI, nI_eq, vin_iff, nar0, nar1, nF_ap, bF_ap, oF_ap, bI_0, bI_1, and255, bu_w, bu_p, bu_90, bu_9, row_w, row_at, nF_up, nI_ofIntm]
  refine ⟨fun hx => absurd hx (by omega), fun _ => ?_⟩
  refine cM_byteR hS hD r 10 hR hr (by omega) ⟨hS, ?_⟩ rfl rfl
  rw [r10]
  simp (disch := omega) only [nI_lit, nI_ofInt1, nI_ofInt4, nI_ofInt2, nI_ofInt3, mI_neg, wI_I, wI_setI, wI_setR, forall_eq, nI_add, pk_mul, pk_sub, pk_div, pk_rem, nI_clamp, nI_leI, nI_ltI, nI_eq, vin_iff, nar0, nar1, nF_ap, bF_ap, oF_ap, bI_0, bI_1, and255, bu_w, bu_p, bu_90, bu_9, row_w, row_at, nF_up, nI_ofIntm]
  refine ⟨fun hx => ?_, fun hx => hq _ (by rw [if_pos ⟨hx.symm, hn⟩])⟩
  refine cM_byteR hS hD r 11 hR hr (by omega) ⟨hS, ?_⟩ rfl rfl
  rw [r11]
  simp (disch := omega) only [nI_lit, nI_ofInt1, nI_ofInt4, nI_ofInt2, nI_ofInt3, mI_neg, wI_I, wI_setI, wI_setR, forall_eq, nI_add, pk_mul, pk_sub, pk_div, pk_rem, nI_clamp, nI_leI, nI_ltI, nI_eq, vin_iff, nar0, nar1, nF_ap, bF_ap, oF_ap, bI_0, bI_1, and255, bu_w, bu_p, bu_90, bu_9, row_w, row_at, nF_up, nI_ofIntm]
  rw [hN] at hdt
  rcases hdt with hdt | hdt
  · exact hdt
  · exact absurd hdt.1.symm hx
end MREAD
