/-! The reference's readers of attributes. -/
theorem gd_ext {a b : List Nat} (hl : a.length = b.length) (h : ∀ k, k < a.length → gd a k = gd b k) : a = b := by
  apply List.ext_getElem hl
  intro i h1 h2
  have := h i h1
  unfold gd at this
  rw [List.getD_eq_getElem?_getD, List.getD_eq_getElem?_getD, List.getElem?_eq_getElem h1, List.getElem?_eq_getElem h2] at this
  exact this
/-- the names' order, from place k on -/
def ncmp : Nat → List Nat → List Nat → Nat → Int32
  | 0, _, _, _ => 0
  | n + 1, a, b, k => if gd a k = gd b k then ncmp n a b (k + 1) else if gd a k < gd b k then mI else nI 1
def rowL (I : Nat → Nat → Int32) (a : Nat) (l : List Nat) : Prop := ∀ k, k < l.length → I a k = nI (gd l k)
theorem mI_n0 : ¬ (nI 0 ≤ mI) := by decide
theorem mI_l0 : mI < nI 0 := by decide
theorem wf.nl {s : AS} (h : wf s) : (aM s).length ≤ 8 := h.2.2.2.1
theorem wf.nx {s : AS} (h : wf s) : ∀ x ∈ aM s, 48 ≤ x ∧ x ≤ 122 := h.2.2.2.2.1
theorem wf.al {s : AS} (h : wf s) : (atA s).length ≤ 54 := h.2.2.2.2.2.1
theorem wf.hb {s : AS} (h : wf s) : ∀ x ∈ aH s, x < 256 := h.2.2.2.2.2.2.1
theorem wf.ka {s : AS} (h : wf s) : aK s = 2 ∨ aK s = 3 ∨ aK s = 4 := by have := h.1; omega
theorem wf.ng {s : AS} (h : wf s) (k : Nat) : gd (aM s) k < 256 := gd_lt (by omega) (fun x hx => by have := h.nx x hx; omega) k
theorem wf.hg {s : AS} (h : wf s) (k : Nat) : gd (aH s) k < 256 := gd_lt (by omega) h.hb k
theorem wf.hl {s : AS} (h : wf s) (h3 : aK s ≠ 3) : (nmA (aM s)).length + (aH s).length + 2 ≤ 54 := by
  have h1 := atA_len s
  have h2 := dtA_len s
  have h4 := h.al
  have h5 := h.ka
  rw [if_neg (by omega), if_neg h3] at h2
  omega
theorem rv_h1 (s : AS) (h0 : aK s ≠ 0) (h3 : aK s ≠ 3) : rv s (10 + (nmA (aM s)).length + 1) = (aH s).length + 2 := by
  rw [rv_d1 s h0, dtA_len, if_neg h0, if_neg h3]
theorem rv_h (s : AS) (h0 : aK s ≠ 0) (h3 : aK s ≠ 3) (k : Nat) : rv s (10 + (nmA (aM s)).length + 2 + k) = gd (aH s) k := by
  have := rv_dt s (2 + k)
  rw [show 10 + (nmA (aM s)).length + 2 + k = 10 + (nmA (aM s)).length + (2 + k) by omega, this]
  unfold dtA
  rw [if_neg h0, if_neg h3, show 2 + k = k + 1 + 1 by omega]
  rfl
section MREAD2
variable {G : fx_G} {S : fx_S} {I : Nat → Nat → Int32} {Q : fx_R → fx_S → Prop} {F : Int32 → fx_S → Prop} {D : Nat → Nat}
theorem cM_nameLength (hS : shM S) (hD : I 86 = nF D) {s : AS} {v1 : Int32} (r : Nat) (hR : Rec D r s) (hr : r < 12) (hw : wf s) (h : F (nI (aM s).length) (fx_wI S I)) (e1 : v1 = nI r) :
    fx_Go G (2, 32) mm_M_nameLength 0 [(0, fx_r G 85), (1, .int v1)] [] (fx_wI S I) (fx_qi F Q) := by
  subst e1
  refine bs_M_nameLength_0 hS.w _ ?_
  refine cM_attribute hS hD r 1 hR hr hw (by omega) ⟨hS, ?_⟩ rfl rfl
  have hK := hw.ka
  by_cases hn : (aM s).length = 0
  · have e : atR s 1 = mI := by unfold atR; rw [if_neg (fun q => q.2 hn), if_neg (by omega)]
    rw [e]
    refine ⟨fun q => absurd q mI_n0, fun _ => ?_⟩
    rw [hn] at h
    exact h
  · have e : atR s 1 = nI 10 := by unfold atR; rw [if_pos ⟨rfl, hn⟩]
    rw [e]
    refine ⟨fun q => ?_, fun q => absurd (by decide) q⟩
    refine cM_byteR hS hD r 11 hR hr (by omega) ⟨hS, ?_⟩ rfl rfl
    rw [(rv_10 s hn).2]
    simp (disch := omega) only [nI_lit, nI_ofInt1, nI_ofInt4, nI_ofInt2, nI_ofInt3, mI_neg, wI_I, wI_setI, wI_setR, forall_eq, nI_add, pk_mul, pk_sub, pk_div, pk_rem, nI_clamp, nI_leI, nI_ltI, nI_eq, vin_iff, nar0, nar1, nF_ap, bF_ap, oF_ap, bI_0, bI_1, and255, bu_w, bu_p, bu_90, bu_9, row_w, row_at, nF_up, nI_ofIntm]
    exact h
theorem cM_nameAt (hS : shM S) (hD : I 86 = nF D) {s : AS} {v1 v2 : Int32} (r k : Nat) (hR : Rec D r s) (hr : r < 12) (hw : wf s) (hk : k < 100) (h : F (nI (gd (aM s) k)) (fx_wI S I)) (e1 : v1 = nI r) (e2 : v2 = nI k) :
    fx_Go G (3, 46) mm_M_nameAt 0 [(0, fx_r G 85), (1, .int v1), (2, .int v2)] [] (fx_wI S I) (fx_qi F Q) := by
  subst e1 e2
  have hl := hw.nl
  refine bs_M_nameAt_0 hS.w _ _ ?_
  refine cM_nameLength hS hD r hR hr hw ⟨hS, ?_⟩ rfl
  simp (disch := omega) only [nI_lit, nI_ofInt1, nI_ofInt4, nI_ofInt2, nI_ofInt3, mI_neg, wI_I, wI_setI, wI_setR, forall_eq, nI_add, pk_mul, pk_sub, pk_div, pk_rem, nI_clamp, nI_leI, nI_ltI, nI_eq, vin_iff, nar0, nar1, nF_ap, bF_ap, oF_ap, bI_0, bI_1, and255, bu_w, bu_p, bu_90, bu_9, row_w, row_at, nF_up, nI_ofIntm]
  refine ⟨fun q => ?_, fun q => ?_⟩
  · rw [gd_out q] at h
    exact h
  · refine cM_byteR hS hD r (12 + k) hR hr (by omega) ⟨hS, ?_⟩ rfl (by first | rfl | (simp (disch := omega) only [nI_lit, nI_ofInt1, nI_ofInt4, nI_ofInt2, nI_ofInt3, mI_neg, wI_I, wI_setI, wI_setR, forall_eq, nI_add, pk_mul, pk_sub, pk_div, pk_rem, nI_clamp, nI_leI, nI_ltI, nI_eq, vin_iff, nar0, nar1, nF_ap, bF_ap, oF_ap, bI_0, bI_1, and255, bu_w, bu_p, bu_90, bu_9, row_w, row_at, nF_up, nI_ofIntm] <;> first | done | omega | (congr 1; omega)))
    rw [rv_nm s k (by omega)]
    exact h
theorem cM_compare (hS : shM S) (hD : I 86 = nF D) {s t : AS} (a b : Nat) (hR : Rec D a s) (ha : a < 12) (hw : wf s) (hT : Rec D b t) (hb : b < 12) (ht : wf t) : ∀ (n k : Nat) {v1 v2 v3 : Int32}, k + n = 8 → F (ncmp n (aM s) (aM t) k) (fx_wI S I) → v1 = nI a → v2 = nI b → v3 = nI k →
    fx_Go G (4, 61) mm_M_compareNames 2 [(0, fx_r G 85), (1, .int v1), (2, .int v2), (3, .int v3)] [] (fx_wI S I) (fx_qi F Q) := by
  intro n
  induction n with
  | zero =>
    intro k v1 v2 v3 hk h e1 e2 e3
    subst e1 e2 e3
    refine bs_M_compareNames_2 hS.w _ _ _ ?_
    simp (disch := omega) only [nI_lit, nI_ofInt1, nI_ofInt4, nI_ofInt2, nI_ofInt3, mI_neg, wI_I, wI_setI, wI_setR, forall_eq, nI_add, pk_mul, pk_sub, pk_div, pk_rem, nI_clamp, nI_leI, nI_ltI, nI_eq, vin_iff, nar0, nar1, nF_ap, bF_ap, oF_ap, bI_0, bI_1, and255, bu_w, bu_p, bu_90, bu_9, row_w, row_at, nF_up, nI_ofIntm]
    exact ⟨fun _ => h, fun q => absurd (by omega) q⟩
  | succ n ih =>
    intro k v1 v2 v3 hk h e1 e2 e3
    subst e1 e2 e3
    have g1 := hw.ng k
    have g2 := ht.ng k
    refine bs_M_compareNames_2 hS.w _ _ _ ?_
    simp (disch := omega) only [nI_lit, nI_ofInt1, nI_ofInt4, nI_ofInt2, nI_ofInt3, mI_neg, wI_I, wI_setI, wI_setR, forall_eq, nI_add, pk_mul, pk_sub, pk_div, pk_rem, nI_clamp, nI_leI, nI_ltI, nI_eq, vin_iff, nar0, nar1, nF_ap, bF_ap, oF_ap, bI_0, bI_1, and255, bu_w, bu_p, bu_90, bu_9, row_w, row_at, nF_up, nI_ofIntm]
    refine ⟨fun q => absurd q (by omega), fun _ => ?_⟩
    refine cM_nameAt hS hD a k hR ha hw (by omega) ⟨hS, ?_⟩ rfl rfl
    refine cM_nameAt hS hD b k hT hb ht (by omega) ⟨hS, ?_⟩ rfl rfl
    unfold ncmp at h
    simp (disch := omega) only [nI_lit, nI_ofInt1, nI_ofInt4, nI_ofInt2, nI_ofInt3, mI_neg, wI_I, wI_setI, wI_setR, forall_eq, nI_add, pk_mul, pk_sub, pk_div, pk_rem, nI_clamp, nI_leI, nI_ltI, nI_eq, vin_iff, nar0, nar1, nF_ap, bF_ap, oF_ap, bI_0, bI_1, and255, bu_w, bu_p, bu_90, bu_9, row_w, row_at, nF_up, nI_ofIntm]
    refine ⟨fun q => ?_, fun q => ?_⟩
    · rw [if_pos q] at h
      exact ih (k + 1) (by omega) h rfl rfl rfl
    · rw [if_neg q] at h
      refine cM_nameAt hS hD a k hR ha hw (by omega) ⟨hS, ?_⟩ rfl rfl
      refine cM_nameAt hS hD b k hT hb ht (by omega) ⟨hS, ?_⟩ rfl rfl
      simp (disch := omega) only [nI_lit, nI_ofInt1, nI_ofInt4, nI_ofInt2, nI_ofInt3, mI_neg, wI_I, wI_setI, wI_setR, forall_eq, nI_add, pk_mul, pk_sub, pk_div, pk_rem, nI_clamp, nI_leI, nI_ltI, nI_eq, vin_iff, nar0, nar1, nF_ap, bF_ap, oF_ap, bI_0, bI_1, and255, bu_w, bu_p, bu_90, bu_9, row_w, row_at, nF_up, nI_ofIntm]
      refine ⟨fun q2 => ?_, fun q2 => ?_⟩
      · rw [if_neg (by omega)] at h; exact h
      · rw [if_pos (by omega)] at h; exact h
theorem cM_compareNames (hS : shM S) (hD : I 86 = nF D) {s t : AS} {v1 v2 : Int32} (a b : Nat) (hR : Rec D a s) (ha : a < 12) (hw : wf s) (hT : Rec D b t) (hb : b < 12) (ht : wf t) (h : F (ncmp 8 (aM s) (aM t) 0) (fx_wI S I)) (e1 : v1 = nI a) (e2 : v2 = nI b) :
    fx_Go G (4, 61) mm_M_compareNames 0 [(0, fx_r G 85), (1, .int v1), (2, .int v2)] [] (fx_wI S I) (fx_qi F Q) := by
  refine bs_M_compareNames_0 hS.w _ _ ?_
  exact cM_compare hS hD a b hR ha hw hT hb ht 8 0 rfl h e1 e2 rfl
/-- the names' letters from place k on -/
theorem cM_isDraftL (hS : shM S) (hD : I 86 = nF D) {s : AS} {dl : List Nat} (r : Nat) (hR : Rec D r s) (hr : r < 12) (hw : wf s) (ht : I 85 6 = nI dl.length) (hd : rowL I 89 dl) (hdl : dl.length ≤ 8) (hdx : ∀ x ∈ dl, x < 65536) (hb : (aM s).length = dl.length) :
    ∀ (n k : Nat) (b : Bool) {v1 v2 v3 : Int32}, k + n = dl.length → (b = true ↔ ∀ i, i < k → gd (aM s) i = gd dl i) → F (bI (decide (aM s = dl))) (fx_wI S I) → v1 = nI r → v2 = bI b → v3 = nI k →
    fx_Go G (4, 60) mm_M_isDraft 20 [(0, fx_r G 85), (1, .int v1), (2, .int v2), (3, .int v3)] [] (fx_wI S I) (fx_qi F Q) := by
  have narb : ∀ b : Bool, narrow .boolean (.int (bI b)) = .int (bI b) := by intro b; cases b <;> rfl
  intro n
  induction n with
  | zero =>
    intro k b v1 v2 v3 hk hbi h e1 e2 e3
    subst e1 e2 e3
    have hbb : b = decide (aM s = dl) := by
      by_cases q : aM s = dl
      · rw [decide_eq_true q]
        exact hbi.mpr (fun i _ => by rw [q])
      · rw [decide_eq_false q]
        cases b with
        | false => rfl
        | true => exact absurd (gd_ext hb (fun i hi => hbi.mp rfl i (by omega))) q
    refine bs_M_isDraft_20 hS.w _ _ _ ?_
    simp only [wI_I, ht]
    simp (disch := omega) only [nI_lit, nI_ofInt1, nI_ofInt4, nI_ofInt2, nI_ofInt3, mI_neg, wI_I, wI_setI, wI_setR, forall_eq, nI_add, pk_mul, pk_sub, pk_div, pk_rem, nI_clamp, nI_leI, nI_ltI, nI_eq, vin_iff, nar0, nar1, nF_ap, bF_ap, oF_ap, bI_0, bI_1, and255, bu_w, bu_p, bu_90, bu_9, row_w, row_at, nF_up, nI_ofIntm]
    refine ⟨fun _ => ⟨narb b, by rw [hbb]; exact h⟩, fun q => absurd (by omega) q⟩
  | succ n ih =>
    intro k b v1 v2 v3 hk hbi h e1 e2 e3
    subst e1 e2 e3
    have g1 := hw.ng k
    have g2 : gd dl k < 65536 := hdx _ (gd_mem (by omega))
    refine bs_M_isDraft_20 hS.w _ _ _ ?_
    simp only [wI_I, ht]
    simp (disch := omega) only [nI_lit, nI_ofInt1, nI_ofInt4, nI_ofInt2, nI_ofInt3, mI_neg, wI_I, wI_setI, wI_setR, forall_eq, nI_add, pk_mul, pk_sub, pk_div, pk_rem, nI_clamp, nI_leI, nI_ltI, nI_eq, vin_iff, nar0, nar1, nF_ap, bF_ap, oF_ap, bI_0, bI_1, and255, bu_w, bu_p, bu_90, bu_9, row_w, row_at, nF_up, nI_ofIntm]
    refine ⟨fun q => absurd q (by omega), fun _ => ⟨fun q => ?_, fun q => ?_⟩⟩
    · refine ⟨narb b, ?_⟩
      have e : decide (aM s = dl) = b := by
        rw [q, decide_eq_false]
        intro e
        have := hbi.mpr (fun i _ => by rw [e])
        rw [q] at this
        exact absurd this (by decide)
      rw [e] at h
      exact h
    · refine cM_nameAt hS hD r k hR hr hw (by omega) ⟨hS, by omega, ?_⟩ rfl rfl
      have e8 : I 89 k = nI (gd dl k) := hd k (by omega)
      simp only [wI_I, e8]
      simp (disch := omega) only [nI_lit, nI_ofInt1, nI_ofInt4, nI_ofInt2, nI_ofInt3, mI_neg, wI_I, wI_setI, wI_setR, forall_eq, nI_add, pk_mul, pk_sub, pk_div, pk_rem, nI_clamp, nI_leI, nI_ltI, nI_eq, vin_iff, nar0, nar1, nF_ap, bF_ap, oF_ap, bI_0, bI_1, and255, bu_w, bu_p, bu_90, bu_9, row_w, row_at, nF_up, nI_ofIntm]
      have hbt : b = true := by cases b with
        | true => rfl
        | false => exact absurd rfl q
      refine ⟨fun q2 => ih (k + 1) false (by omega) ⟨fun z => absurd z (by decide), fun z => absurd (z k (by omega)) q2⟩ h rfl rfl rfl, fun q2 => ih (k + 1) true (by omega) ⟨fun _ i hi => ?_, fun _ => rfl⟩ h rfl rfl rfl⟩
      by_cases hik : i = k
      · rw [hik]; exact q2
      · exact hbi.mp hbt i (by omega)
theorem cM_isDraft (hS : shM S) (hD : I 86 = nF D) {s : AS} {dl : List Nat} {v1 : Int32} (r : Nat) (hR : Rec D r s) (hr : r < 12) (hw : wf s) (ht : I 85 6 = nI dl.length) (hd : rowL I 89 dl) (hdl : dl.length ≤ 8) (hdx : ∀ x ∈ dl, x < 65536)
    (h : F (bI (decide (aM s = dl))) (fx_wI S I)) (e1 : v1 = nI r) : fx_Go G (4, 60) mm_M_isDraft 0 [(0, fx_r G 85), (1, .int v1)] [] (fx_wI S I) (fx_qi F Q) := by
  have narb : ∀ b : Bool, narrow .boolean (.int (bI b)) = .int (bI b) := by intro b; cases b <;> rfl
  subst e1
  have hl := hw.nl
  refine bs_M_isDraft_0 hS.w _ ?_
  refine cM_nameLength hS hD r hR hr hw ⟨hS, ?_⟩ rfl
  simp only [wI_I, ht]
  simp (disch := omega) only [nI_lit, nI_ofInt1, nI_ofInt4, nI_ofInt2, nI_ofInt3, mI_neg, wI_I, wI_setI, wI_setR, forall_eq, nI_add, pk_mul, pk_sub, pk_div, pk_rem, nI_clamp, nI_leI, nI_ltI, nI_eq, vin_iff, nar0, nar1, nF_ap, bF_ap, oF_ap, bI_0, bI_1, and255, bu_w, bu_p, bu_90, bu_9, row_w, row_at, nF_up, nI_ofIntm]
  refine ⟨fun q => ?_, fun q => cM_isDraftL hS hD r hR hr hw ht hd hdl hdx q _ 0 true (Nat.zero_add _) ⟨fun _ i hi => absurd hi (by omega), fun _ => rfl⟩ h rfl rfl rfl⟩
  have e : decide (aM s = dl) = false := decide_eq_false (fun e => q (by rw [e]))
  rw [e] at h
  refine bs_M_isDraft_20 hS.w _ _ _ ?_
  simp only [wI_I, ht]
  simp (disch := omega) only [nI_lit, nI_ofInt1, nI_ofInt4, nI_ofInt2, nI_ofInt3, mI_neg, wI_I, wI_setI, wI_setR, forall_eq, nI_add, pk_mul, pk_sub, pk_div, pk_rem, nI_clamp, nI_leI, nI_ltI, nI_eq, vin_iff, nar0, nar1, nF_ap, bF_ap, oF_ap, bI_0, bI_1, and255, bu_w, bu_p, bu_90, bu_9, row_w, row_at, nF_up, nI_ofIntm]
  exact ⟨fun _ => ⟨narb false, h⟩, fun _ => ⟨fun _ => ⟨narb false, h⟩, fun z => absurd trivial z⟩⟩
theorem atR_k {s : AS} (hw : wf s) : atR s (aK s) = nI (10 + (nmA (aM s)).length) := by
  have := hw.ka
  unfold atR
  rw [if_neg (by omega), if_pos rfl]
theorem atR_e {s : AS} (hw : wf s) {k : Nat} (e : aK s = k) : atR s k = nI (10 + (nmA (aM s)).length) := by subst e; exact atR_k hw
theorem atR_n {s : AS} {k : Nat} (h1 : k ≠ 1) (h2 : k ≠ aK s) : atR s k = mI := by
  unfold atR
  rw [if_neg (fun q => h1 q.1), if_neg h2]
theorem cM_listLength (hS : shM S) (hD : I 86 = nF D) {s : AS} {v1 : Int32} (r : Nat) (hR : Rec D r s) (hr : r < 12) (hw : wf s) (hk : aK s = 4) (h : F (nI (aH s).length) (fx_wI S I)) (e1 : v1 = nI r) :
    fx_Go G (2, 34) mm_M_listLength 0 [(0, fx_r G 85), (1, .int v1)] [] (fx_wI S I) (fx_qi F Q) := by
  subst e1
  have hl := hw.hl (by omega)
  refine bs_M_listLength_0 hS.w _ ?_
  refine cM_attribute hS hD r 4 hR hr hw (by omega) ⟨hS, ?_⟩ rfl rfl
  rw [atR_e hw hk]
  refine cM_byteR hS hD r (10 + (nmA (aM s)).length + 1) hR hr (by omega) ⟨hS, ?_⟩ rfl (by first | rfl | (simp (disch := omega) only [nI_lit, nI_ofInt1, nI_ofInt4, nI_ofInt2, nI_ofInt3, mI_neg, wI_I, wI_setI, wI_setR, forall_eq, nI_add, pk_mul, pk_sub, pk_div, pk_rem, nI_clamp, nI_leI, nI_ltI, nI_eq, vin_iff, nar0, nar1, nF_ap, bF_ap, oF_ap, bI_0, bI_1, and255, bu_w, bu_p, bu_90, bu_9, row_w, row_at, nF_up, nI_ofIntm] <;> first | done | omega | (congr 1; omega)))
  rw [rv_h1 s (by omega) (by omega)]
  simp (disch := omega) only [nI_lit, nI_ofInt1, nI_ofInt4, nI_ofInt2, nI_ofInt3, mI_neg, wI_I, wI_setI, wI_setR, forall_eq, nI_add, pk_mul, pk_sub, pk_div, pk_rem, nI_clamp, nI_leI, nI_ltI, nI_eq, vin_iff, nar0, nar1, nF_ap, bF_ap, oF_ap, bI_0, bI_1, and255, bu_w, bu_p, bu_90, bu_9, row_w, row_at, nF_up, nI_ofIntm]
  exact h
theorem cM_entry (hS : shM S) (hD : I 86 = nF D) {s : AS} {v1 v2 : Int32} (r k : Nat) (hR : Rec D r s) (hr : r < 12) (hw : wf s) (hk : aK s = 4) (hx : k < (aH s).length) (h : F (nI (gd (aH s) k)) (fx_wI S I)) (e1 : v1 = nI r) (e2 : v2 = nI k) :
    fx_Go G (2, 34) mm_M_entry 0 [(0, fx_r G 85), (1, .int v1), (2, .int v2)] [] (fx_wI S I) (fx_qi F Q) := by
  subst e1 e2
  have hl := hw.hl (by omega)
  refine bs_M_entry_0 hS.w _ _ ?_
  refine cM_attribute hS hD r 4 hR hr hw (by omega) ⟨hS, ?_⟩ rfl rfl
  rw [atR_e hw hk]
  refine cM_byteR hS hD r (10 + (nmA (aM s)).length + 2 + k) hR hr (by omega) ⟨hS, ?_⟩ rfl (by first | rfl | (simp (disch := omega) only [nI_lit, nI_ofInt1, nI_ofInt4, nI_ofInt2, nI_ofInt3, mI_neg, wI_I, wI_setI, wI_setR, forall_eq, nI_add, pk_mul, pk_sub, pk_div, pk_rem, nI_clamp, nI_leI, nI_ltI, nI_eq, vin_iff, nar0, nar1, nF_ap, bF_ap, oF_ap, bI_0, bI_1, and255, bu_w, bu_p, bu_90, bu_9, row_w, row_at, nF_up, nI_ofIntm] <;> first | done | omega | (congr 1; omega)))
  rw [rv_h s (by omega) (by omega)]
  exact h
theorem cM_isInside (hS : shM S) (hD : I 86 = nF D) {s : AS} {v1 : Int32} (r : Nat) (hR : Rec D r s) (hr : r < 12) (hw : wf s) (h : F (bI (decide (aK s = 2))) (fx_wI S I)) (e1 : v1 = nI r) :
    fx_Go G (2, 32) mm_M_isInside 0 [(0, fx_r G 85), (1, .int v1)] [] (fx_wI S I) (fx_qi F Q) := by
  subst e1
  have hN := nmA_len (aM s)
  have hl := hw.nl
  refine bs_M_isInside_0 hS.w _ ?_
  refine cM_attribute hS hD r 2 hR hr hw (by omega) ⟨hS, ?_⟩ rfl rfl
  by_cases hk : aK s = 2
  · rw [atR_e hw hk]
    rw [decide_eq_true hk] at h
    have : (nmA (aM s)).length ≤ 10 := by rw [hN]; split <;> omega
    simp (disch := omega) only [nI_lit, nI_ofInt1, nI_ofInt4, nI_ofInt2, nI_ofInt3, mI_neg, wI_I, wI_setI, wI_setR, forall_eq, nI_add, pk_mul, pk_sub, pk_div, pk_rem, nI_clamp, nI_leI, nI_ltI, nI_eq, vin_iff, nar0, nar1, nF_ap, bF_ap, oF_ap, bI_0, bI_1, and255, bu_w, bu_p, bu_90, bu_9, row_w, row_at, nF_up, nI_ofIntm]
    exact ⟨fun q => absurd q (by omega), fun _ => h⟩
  · rw [atR_n (by omega) (fun e => hk e.symm)]
    rw [decide_eq_false hk] at h
    exact ⟨fun _ => h, fun q => absurd mI_l0 q⟩
def sz (s : AS) : Nat := if aK s = 3 then aZ s else (aH s).length
theorem rv_3 (s : AS) (h3 : aK s = 3) (i : Nat) : rv s (10 + (nmA (aM s)).length + 4 + i) = gd (rn 48 (aL s) ++ [0]) i := by
  have := rv_dt s (4 + i)
  rw [show 10 + (nmA (aM s)).length + 4 + i = 10 + (nmA (aM s)).length + (4 + i) by omega, this]
  unfold dtA
  rw [if_neg (by omega), if_pos h3, show 4 + i = i + 1 + 1 + 1 + 1 by omega]
  rfl
theorem rv_32 (s : AS) (h3 : aK s = 3) : rv s (10 + (nmA (aM s)).length + 2) = aZ s % 256 ∧ rv s (10 + (nmA (aM s)).length + 3) = aZ s / 256 := by
  have h2 := rv_dt s 2
  have h4 := rv_dt s 3
  rw [h2, h4]
  unfold dtA
  rw [if_neg (by omega), if_pos h3]
  exact ⟨rfl, rfl⟩
theorem wf.l3 {s : AS} (h : wf s) (h3 : aK s = 3) : (nmA (aM s)).length + (rn 48 (aL s)).length + 5 ≤ 54 := by
  have h1 := atA_len s
  have h2 := dtA_len s
  have h4 := h.al
  rw [if_neg (by omega), if_pos h3] at h2
  omega
theorem wf.z {s : AS} (h : wf s) (h3 : aK s = 3) : 0 < aZ s ∧ aZ s ≤ 1000 := ⟨(h.2.2.2.2.2.2.2.2.2 h3).1, (h.2.2.2.2.2.2.2.2.2 h3).2.1⟩
theorem cM_sizeOf (hS : shM S) (hD : I 86 = nF D) {s : AS} {v1 : Int32} (r : Nat) (hR : Rec D r s) (hr : r < 12) (hw : wf s) (hf : aS s = 1) (h : F (nI (sz s)) (fx_wI S I)) (e1 : v1 = nI r) :
    fx_Go G (2, 32) mm_M_sizeOf 0 [(0, fx_r G 85), (1, .int v1)] [] (fx_wI S I) (fx_qi F Q) := by
  subst e1
  have hK := hw.1
  refine bs_M_sizeOf_0 hS.w _ ?_
  refine cM_attribute hS hD r 2 hR hr hw (by omega) ⟨hS, ?_⟩ rfl rfl
  by_cases hk : aK s = 2
  · have hl := hw.hl (by omega)
    have es : sz s = (aH s).length := by unfold sz; rw [if_neg (by omega)]
    rw [atR_e hw hk]
    simp (disch := omega) only [nI_lit, nI_ofInt1, nI_ofInt4, nI_ofInt2, nI_ofInt3, mI_neg, wI_I, wI_setI, wI_setR, forall_eq, nI_add, pk_mul, pk_sub, pk_div, pk_rem, nI_clamp, nI_leI, nI_ltI, nI_eq, vin_iff, nar0, nar1, nF_ap, bF_ap, oF_ap, bI_0, bI_1, and255, bu_w, bu_p, bu_90, bu_9, row_w, row_at, nF_up, nI_ofIntm]
    refine ⟨fun q => absurd q (by omega), fun _ => ?_⟩
    refine cM_byteR hS hD r (10 + (nmA (aM s)).length + 1) hR hr (by omega) ⟨hS, ?_⟩ rfl rfl
    rw [rv_h1 s (by omega) (by omega)]
    simp (disch := omega) only [nI_lit, nI_ofInt1, nI_ofInt4, nI_ofInt2, nI_ofInt3, mI_neg, wI_I, wI_setI, wI_setR, forall_eq, nI_add, pk_mul, pk_sub, pk_div, pk_rem, nI_clamp, nI_leI, nI_ltI, nI_eq, vin_iff, nar0, nar1, nF_ap, bF_ap, oF_ap, bI_0, bI_1, and255, bu_w, bu_p, bu_90, bu_9, row_w, row_at, nF_up, nI_ofIntm]
    rw [es] at h
    exact h
  · have h3 : aK s = 3 := by omega
    have hl := hw.l3 h3
    have hz := hw.z h3
    have es : sz s = aZ s := by unfold sz; rw [if_pos h3]
    rw [atR_n (by omega) (fun e => hk e.symm)]
    refine ⟨fun _ => ?_, fun q => absurd mI_l0 q⟩
    refine cM_attribute hS hD r 3 hR hr hw (by omega) ⟨hS, ?_⟩ rfl rfl
    rw [atR_e hw h3]
    refine cM_byteR hS hD r (10 + (nmA (aM s)).length + 2) hR hr (by omega) ⟨hS, ?_⟩ rfl (by first | rfl | (simp (disch := omega) only [nI_lit, nI_ofInt1, nI_ofInt4, nI_ofInt2, nI_ofInt3, mI_neg, wI_I, wI_setI, wI_setR, forall_eq, nI_add, pk_mul, pk_sub, pk_div, pk_rem, nI_clamp, nI_leI, nI_ltI, nI_eq, vin_iff, nar0, nar1, nF_ap, bF_ap, oF_ap, bI_0, bI_1, and255, bu_w, bu_p, bu_90, bu_9, row_w, row_at, nF_up, nI_ofIntm] <;> first | done | omega | (congr 1; omega)))
    refine cM_byteR hS hD r (10 + (nmA (aM s)).length + 3) hR hr (by omega) ⟨hS, ?_⟩ rfl (by first | rfl | (simp (disch := omega) only [nI_lit, nI_ofInt1, nI_ofInt4, nI_ofInt2, nI_ofInt3, mI_neg, wI_I, wI_setI, wI_setR, forall_eq, nI_add, pk_mul, pk_sub, pk_div, pk_rem, nI_clamp, nI_leI, nI_ltI, nI_eq, vin_iff, nar0, nar1, nF_ap, bF_ap, oF_ap, bI_0, bI_1, and255, bu_w, bu_p, bu_90, bu_9, row_w, row_at, nF_up, nI_ofIntm] <;> first | done | omega | (congr 1; omega)))
    rw [(rv_32 s h3).1, (rv_32 s h3).2]
    simp (disch := omega) only [nI_lit, nI_ofInt1, nI_ofInt4, nI_ofInt2, nI_ofInt3, mI_neg, wI_I, wI_setI, wI_setR, forall_eq, nI_add, pk_mul, pk_sub, pk_div, pk_rem, nI_clamp, nI_leI, nI_ltI, nI_eq, vin_iff, nar0, nar1, nF_ap, bF_ap, oF_ap, bI_0, bI_1, and255, bu_w, bu_p, bu_90, bu_9, row_w, row_at, nF_up, nI_ofIntm]
    rw [es] at h
    rw [show aZ s % 256 + 256 * (aZ s / 256) = aZ s by omega]
    exact h
end MREAD2
