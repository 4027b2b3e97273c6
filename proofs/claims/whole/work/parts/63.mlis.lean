/-! The reference mends the lists. -/
def colL (U : Nat → Bool) (f : Nat → AS) (d : Nat) : Nat → Nat → List Nat → List Nat
  | 0, _, acc => acc
  | n + 1, r, acc => if U r = true ∧ aP (f r) = d then colL U f d n (r + 1) (insA acc (ipos (gtN f r) acc acc.length) r) else colL U f d n (r + 1) acc
def colA (A : VS) (d : Nat) : List Nat := colL (vU A) (vf A) d 11 1 []
def mLis : Nat → Nat → Nat → VS → Nat × VS
  | 0, _, c, A => (c, A)
  | n + 1, d, c, A => if vU A d = true ∧ aS (vf A d) = 2 ∧ colA A d ≠ aH (vf A d) then
      (if stOk (vt A) = false then (c + 1, lst A d (colA A d)) else mLis n (d + 1) (c + 1) (lst A d (colA A d)))
    else mLis n (d + 1) c A
theorem insA_mem {l : List Nat} {k r e : Nat} (h : e ∈ insA l k r) : e = r ∨ e ∈ l := by
  unfold insA at h
  rcases List.mem_append.mp h with h | h
  · exact Or.inr (List.mem_of_mem_take h)
  · rcases List.mem_cons.mp h with h | h
    · exact Or.inl h
    · exact Or.inr (List.mem_of_mem_drop h)
section MLIS
variable {G : fx_G} {S : fx_S} {I : Nat → Nat → Int32} {Q : fx_R → fx_S → Prop} {F : Int32 → fx_S → Prop}
theorem cM_ml37 (hS : shM S) {D : Nat → Nat} {U : Nat → Bool} {f : Nat → AS} (hrc : Recs D U f) (d : Nat) (hd : d < 12) : ∀ (m r : Nat) (I : Nat → Nat → Int32) (acc : List Nat) {v1 v2 : Int32}, r + m = 12 → 1 ≤ r → I 86 = nF D → I 87 = bF U → I 85 14 = nI acc.length → rowL I 94 acc → acc.length < r → (∀ e ∈ acc, e < 12 ∧ U e = true) →
    (∀ I', Fr [94] [14] I I' → I' 85 14 = nI (colL U f d m r acc).length → rowL I' 94 (colL U f d m r acc) → (colL U f d m r acc).length < 12 → (∀ e ∈ colL U f d m r acc, e < 12 ∧ U e = true) → fx_Go G (6, 90) mm_M_mendLists 37 [(0, fx_r G 85), (1, .int (nI d)), (2, .int (nI 12))] [] (fx_wI S I') Q) → v1 = nI d → v2 = nI r →
    fx_Go G (6, 90) mm_M_mendLists 37 [(0, fx_r G 85), (1, .int v1), (2, .int v2)] [] (fx_wI S I) Q := by
  intro m
  induction m with
  | zero =>
    intro r I acc v1 v2 hr h1 hD hU h14 hrow hl hx h e1 e2
    subst e1 e2
    have e : r = 12 := by omega
    subst e
    exact h I (Fr.rfl' _ _ _) h14 hrow hl hx
  | succ m ih =>
    intro r I acc v1 v2 hr h1 hD hU h14 hrow hl hx h e1 e2
    subst e1 e2
    unfold colL at h
    refine bs_M_mendLists_37 hS.w _ _ ?_
    refine pk_le 12 r (fun q => absurd q (by omega)) (fun _ => ⟨pk_in r 12 (by omega) rfl, ?_⟩) rfl rfl (by omega) (by omega)
    simp only [wI_I, hU]
    rw [pk_cl r rfl (by omega)]
    refine b0 (fun q => ?_) (fun q => ?_)
    · rw [if_neg (fun z => by rw [q] at z; exact absurd z.1 (by decide))] at h
      exact ih (r + 1) I acc (by omega) (by omega) hD hU h14 hrow (by omega) hx h rfl (by first | rfl | (simp (disch := omega) only [nI_lit, nI_ofInt1, nI_ofInt4, nI_ofInt2, nI_ofInt3, mI_neg, wI_I, wI_setI, wI_setR, forall_eq, nI_add, pk_mul, pk_sub, pk_div, pk_rem, nI_clamp, nI_leI, nI_ltI, nI_eq, vin_iff, nar0, nar1, nF_ap, bF_ap, oF_ap, bI_0, bI_1, and255, bu_w, bu_p, bu_90, bu_9, row_w, row_at, nF_up, nI_ofIntm] <;> first | done | omega | (congr 1; omega)))
    · obtain ⟨hR, hw⟩ := hrc r (by omega) q
      have hp := hw.2.1
      refine cM_byteR hS hD r 1 hR (by omega) (by omega) ⟨hS, ?_⟩ rfl rfl
      rw [rv_1]
      refine ne_pair (pk_eq (aP (f r)) d (fun q2 => ?_) (fun q2 => ?_) rfl rfl (by omega) (by omega))
      · rw [if_pos ⟨q, q2⟩] at h
        refine cM_join hS hD hrc r (by omega) q acc (by omega) hx h14 hrow (fun I2 hF2 h14' hrow' => ⟨hS, ?_⟩) rfl
        have hil : (insA acc (ipos (gtN f r) acc acc.length) r).length = acc.length + 1 := insA_len _ _ _ (ipos_le _ _ _)
        refine ih (r + 1) I2 (insA acc (ipos (gtN f r) acc acc.length) r) (by omega) (by omega) ((hF2.1 86 (by decide) (by decide)).trans hD) ((hF2.1 87 (by decide) (by decide)).trans hU) (by rw [hil]; exact h14') hrow' (by omega) (fun e he => ?_) (fun I' hF' => h I' (hF2.tr hF' (fun _ h => ⟨h, h⟩) (fun _ h => ⟨h, h⟩))) rfl (by first | rfl | (simp (disch := omega) only [nI_lit, nI_ofInt1, nI_ofInt4, nI_ofInt2, nI_ofInt3, mI_neg, wI_I, wI_setI, wI_setR, forall_eq, nI_add, pk_mul, pk_sub, pk_div, pk_rem, nI_clamp, nI_leI, nI_ltI, nI_eq, vin_iff, nar0, nar1, nF_ap, bF_ap, oF_ap, bI_0, bI_1, and255, bu_w, bu_p, bu_90, bu_9, row_w, row_at, nF_up, nI_ofIntm] <;> first | done | omega | (congr 1; omega)))
        rcases insA_mem he with he | he
        · rw [he]; exact ⟨by omega, q⟩
        · exact hx e he
      · rw [if_neg (fun z => q2 z.2)] at h
        exact ih (r + 1) I acc (by omega) (by omega) hD hU h14 hrow (by omega) hx h rfl (by first | rfl | (simp (disch := omega) only [nI_lit, nI_ofInt1, nI_ofInt4, nI_ofInt2, nI_ofInt3, mI_neg, wI_I, wI_setI, wI_setR, forall_eq, nI_add, pk_mul, pk_sub, pk_div, pk_rem, nI_clamp, nI_leI, nI_ltI, nI_eq, vin_iff, nar0, nar1, nF_ap, bF_ap, oF_ap, bI_0, bI_1, and255, bu_w, bu_p, bu_90, bu_9, row_w, row_at, nF_up, nI_ofIntm] <;> first | done | omega | (congr 1; omega)))
theorem cM_ml93 (hS : shM S) {D : Nat → Nat} {s : AS} (hD : I 86 = nF D) (d : Nat) (hR : Rec D d s) (hd : d < 12) (hw : wf s) (hk4 : aK s = 4) {ml : List Nat} (h14 : I 85 14 = nI ml.length) (hrow : rowL I 94 ml) (hml : ml.length < 12) (hx : ∀ e ∈ ml, e < 12) (hlen : ml.length = (aH s).length) :
    ∀ (n k : Nat) (b : Bool) {v1 v2 v3 : Int32}, k + n = ml.length → (b = true ↔ ∀ i, i < k → gd (aH s) i = gd ml i) → fx_Go G (6, 90) mm_M_mendLists 132 [(0, fx_r G 85), (1, .int (nI d)), (2, .int (bI (decide (ml = aH s))))] [] (fx_wI S I) Q → v1 = nI d → v2 = bI b → v3 = nI k →
    fx_Go G (6, 90) mm_M_mendLists 93 [(0, fx_r G 85), (1, .int v1), (2, .int v2), (3, .int v3)] [] (fx_wI S I) Q := by
  intro n
  induction n with
  | zero =>
    intro k b v1 v2 v3 hk hb h e1 e2 e3
    subst e1 e2 e3
    have hbb : b = decide (ml = aH s) := by
      by_cases q : ml = aH s
      · rw [decide_eq_true q]
        exact hb.mpr (fun i _ => by rw [q])
      · rw [decide_eq_false q]
        cases b with
        | false => rfl
        | true => exact absurd (gd_ext hlen (fun i hi => (hb.mp rfl i (by omega)).symm)) q
    refine bs_M_mendLists_93 hS.w _ _ _ ?_
    simp only [wI_I, h14]
    refine pk_le ml.length k (fun _ => by rw [hbb]; exact h) (fun q => absurd q (by omega)) rfl rfl (by omega) (by omega)
  | succ n ih =>
    intro k b v1 v2 v3 hk hb h e1 e2 e3
    subst e1 e2 e3
    have g1 := hw.hg k
    have g2 := hx _ (gd_mem (show k < ml.length by omega))
    refine bs_M_mendLists_93 hS.w _ _ _ ?_
    simp only [wI_I, h14]
    refine pk_le ml.length k (fun q => absurd q (by omega)) (fun _ => ?_) rfl rfl (by omega) (by omega)
    refine b0 (fun q => ?_) (fun q => ?_)
    · have e : decide (ml = aH s) = false := by
        rw [decide_eq_false]
        intro e
        have := hb.mpr (fun i _ => by rw [e])
        rw [q] at this
        cases this
      rw [e] at h
      rw [q]
      exact h
    · refine cM_entry hS hD d k hR hd hw hk4 (by omega) ⟨hS, pk_in k 12 (by omega) rfl, ?_⟩ rfl rfl
      simp only [wI_I]
      rw [pk_cl k rfl (by omega), hrow k (by omega)]
      refine ne_pair (pk_eq (gd (aH s) k) (gd ml k) (fun q2 => ?_) (fun q2 => ?_) rfl rfl (by omega) (by omega))
      · refine ih (k + 1) true (by omega) ⟨fun _ i hi => ?_, fun _ => rfl⟩ h rfl rfl (by first | rfl | (simp (disch := omega) only [nI_lit, nI_ofInt1, nI_ofInt4, nI_ofInt2, nI_ofInt3, mI_neg, wI_I, wI_setI, wI_setR, forall_eq, nI_add, pk_mul, pk_sub, pk_div, pk_rem, nI_clamp, nI_leI, nI_ltI, nI_eq, vin_iff, nar0, nar1, nF_ap, bF_ap, oF_ap, bI_0, bI_1, and255, bu_w, bu_p, bu_90, bu_9, row_w, row_at, nF_up, nI_ofIntm] <;> first | done | omega | (congr 1; omega)))
        by_cases c : i = k
        · rw [c]; exact q2
        · exact hb.mp q i (by omega)
      · exact ih (k + 1) false (by omega) ⟨fun z => absurd z (by decide), fun z => absurd (z k (by omega)) q2⟩ h rfl rfl (by first | rfl | (simp (disch := omega) only [nI_lit, nI_ofInt1, nI_ofInt4, nI_ofInt2, nI_ofInt3, mI_neg, wI_I, wI_setI, wI_setR, forall_eq, nI_add, pk_mul, pk_sub, pk_div, pk_rem, nI_clamp, nI_leI, nI_ltI, nI_eq, vin_iff, nar0, nar1, nF_ap, bF_ap, oF_ap, bI_0, bI_1, and255, bu_w, bu_p, bu_90, bu_9, row_w, row_at, nF_up, nI_ofIntm] <;> first | done | omega | (congr 1; omega)))
theorem colL_c (U : Nat → Bool) (f : Nat → AS) (d : Nat) : ∀ (m r : Nat) (acc : List Nat), 1 ≤ r → r + m = 12 → acc.length < r → (∀ e ∈ acc, e < 12 ∧ U e = true) → (colL U f d m r acc).length < 12 ∧ ∀ e ∈ colL U f d m r acc, e < 12 ∧ U e = true
  | 0, r, acc, h1, hr, hl, hx => ⟨by unfold colL; omega, hx⟩
  | m + 1, r, acc, h1, hr, hl, hx => by
    unfold colL
    split
    · rename_i q
      refine colL_c U f d m (r + 1) _ (by omega) (by omega) ?_ (fun e he => ?_)
      · rw [insA_len _ _ _ (ipos_le _ _ _)]; omega
      · rcases insA_mem he with he | he
        · rw [he]; exact ⟨by omega, q.1⟩
        · exact hx e he
    · exact colL_c U f d m (r + 1) acc (by omega) (by omega) (by omega) hx
theorem cM_mendLis2 (hS : shM S) : ∀ (n d c : Nat) (A : VS) (I : Nat → Nat → Int32) {v1 : Int32}, d + n = 12 → c + n < 1000 → MD I A → BI A → vo A = true → Recs (vD A) (vU A) (vf A) → I 85 16 = nI c → I 85 4 = bI false →
    (∀ I', Fr [86, 87, 90, 94] [4, 5, 9, 14, 16] I I' → MD I' (mLis n d c A).2 → I' 85 4 = bI false → I' 85 16 = nI (mLis n d c A).1 → F (bI (vo (mLis n d c A).2)) (fx_wI S I')) → v1 = nI d →
    fx_Go G (6, 90) mm_M_mendLists 2 [(0, fx_r G 85), (1, .int v1)] [] (fx_wI S I) (fx_qi F Q) := by
  intro n
  induction n with
  | zero =>
    intro d c A I v1 hr hc hM hB ho hrc h16 hO h e1
    subst e1
    refine bs_M_mendLists_2 hS.w _ ?_
    refine pk_le 12 d (fun _ => ?_) (fun q => absurd q (by omega)) rfl rfl (by omega) (by omega)
    have := h I (Fr.rfl' _ _ _) hM hO h16
    rw [show vo (mLis 0 d c A).2 = true from ho] at this
    exact this
  | succ n ih =>
    intro d c A I v1 hr hc hM hB ho hrc h16 hO h e1
    subst e1
    have hMC := hM.mc ho
    unfold mLis at h
    refine bs_M_mendLists_2 hS.w _ ?_
    refine pk_le 12 d (fun q => absurd q (by omega)) (fun _ => ⟨pk_in d 12 (by omega) rfl, ?_⟩) rfl rfl (by omega) (by omega)
    simp only [wI_I, hMC.2.2]
    rw [pk_cl d rfl (by omega)]
    refine b0 (fun q => ?_) (fun q => ?_)
    · rw [if_neg (fun z => by rw [q] at z; exact absurd z.1 (by decide))] at h
      exact ih (d + 1) c A I (by omega) (by omega) hM hB ho hrc h16 hO h (by first | rfl | (simp (disch := omega) only [nI_lit, nI_ofInt1, nI_ofInt4, nI_ofInt2, nI_ofInt3, mI_neg, wI_I, wI_setI, wI_setR, forall_eq, nI_add, pk_mul, pk_sub, pk_div, pk_rem, nI_clamp, nI_leI, nI_ltI, nI_eq, vin_iff, nar0, nar1, nF_ap, bF_ap, oF_ap, bI_0, bI_1, and255, bu_w, bu_p, bu_90, bu_9, row_w, row_at, nF_up, nI_ofIntm] <;> first | done | omega | (congr 1; omega)))
    · obtain ⟨hR, hw⟩ := hrc d (by omega) q
      have hK := hw.1
      refine cM_byteR hS hMC.1 d 0 hR (by omega) (by omega) ⟨hS, ?_⟩ rfl rfl
      rw [show rv (vf A d) 0 = aS (vf A d) from rfl]
      refine pk_eq (aS (vf A d)) 2 (fun q2 => ?_) (fun q2 => ?_) rfl rfl (by omega) (by omega)
      · simp only [wI_setI, forall_eq]
        have hk4 := hw.k4 q2
        have hFJ : Fr [86, 87, 90, 94] [4, 5, 9, 14, 16] I (fx_w I 85 14 (nI 0)) := Fr.w5 _ _ _ _ _ (by decide)
        have hcc := colL_c (vU A) (vf A) d 11 1 [] (by omega) (by omega) (by simp) (fun e he => by cases he)
        refine cM_ml37 hS hrc d (by omega) 11 1 (fx_w I 85 14 (nI 0)) [] (by omega) (by omega) hMC.1 hMC.2.2 rfl (fun k hk => absurd hk (Nat.not_lt_zero _)) (by simp) (fun e he => by cases he) (fun I2 hF2 h14 hrow hl hx => ?_) rfl rfl
        change I2 85 14 = nI (colA A d).length at h14
        change rowL I2 94 (colA A d) at hrow
        change (colA A d).length < 12 at hl
        change ∀ e ∈ colA A d, e < 12 ∧ vU A e = true at hx
        have hF2' : Fr [86, 87, 90, 94] [4, 5, 9, 14, 16] I I2 := hFJ.tr (hF2.mono (fun a h => by simp at h ⊢; omega) (fun a h => by simp at h ⊢; omega)) (fun _ h => ⟨h, h⟩) (fun _ h => ⟨h, h⟩)
        have hD2 : I2 86 = nF (vD A) := (hF2.1 86 (by decide) (by decide)).trans hMC.1
        have hU2 : I2 87 = bF (vU A) := (hF2.1 87 (by decide) (by decide)).trans hMC.2.2
        have h52 : I2 85 5 = nI (vt A) := (hF2.2 5 (by decide)).trans hMC.2.1
        have hO2 : I2 85 4 = bI false := (hF2.2 4 (by decide)).trans hO
        have h162 : I2 85 16 = nI c := (hF2.2 16 (by decide)).trans h16
        have hM2 : MD I2 A := ⟨hD2, h52, vU A, hU2, fun _ => rfl⟩
        have hhl := hw.hl (by omega)
        have fin : fx_Go G (6, 90) mm_M_mendLists 132 [(0, fx_r G 85), (1, .int (nI d)), (2, .int (bI (decide (colA A d = aH (vf A d)))))] [] (fx_wI S I2) (fx_qi F Q) := by
          refine bs_M_mendLists_132 hS.w _ _ ?_
          refine b0 (fun z => ?_) (fun z => ?_)
          · have hne := of_decide_eq_false z
            rw [if_pos ⟨q, q2, hne⟩] at h
            simp only [wI_setI, forall_eq, wI_I, h162]
            rw [show nI c + 1 = nI (c + 1) from nI_1 c]
            have hF3 : Fr [86, 87, 90, 94] [4, 5, 9, 14, 16] I2 (fx_w I2 85 16 (nI (c + 1))) := Fr.w5 _ _ _ _ _ (by decide)
            have h16J : fx_w I2 85 16 (nI (c + 1)) 85 16 = nI (c + 1) := rfl
            have hMJ : MC (fx_w I2 85 16 (nI (c + 1))) (vD A) (vt A) (vU A) := ⟨hD2, h52, hU2⟩
            have hOJ : fx_w I2 85 16 (nI (c + 1)) 85 4 = bI false := hO2
            have h14J : fx_w I2 85 16 (nI (c + 1)) 85 14 = nI (colA A d).length := h14
            have hrowJ : rowL (fx_w I2 85 16 (nI (c + 1))) 94 (colA A d) := hrow
            generalize fx_w I2 85 16 (nI (c + 1)) = J at *
            refine cM_byteR hS hMJ.1 d 1 hR (by omega) (by omega) ⟨hS, ?_⟩ rfl rfl
            rw [rv_1]
            refine cM_storeList hS hMJ hB.1 hB.2.1 hOJ d hR (by omega) hw h14J hrowJ (by omega) (fun I4 hF4 hM4 h44 => ⟨hS, ?_⟩) rfl rfl
            have hF5 : Fr [86, 87, 90, 94] [4, 5, 9, 14, 16] I I4 := (hF2'.tr hF3 (fun _ h => ⟨h, h⟩) (fun _ h => ⟨h, h⟩)).tr (hF4.mono (fun a h => by simp at h ⊢; omega) (fun a h => by simp at h ⊢; omega)) (fun _ h => ⟨h, h⟩) (fun _ h => ⟨h, h⟩)
            have hM5 : MD I4 (lst A d (colA A d)) := MD.st (s := sLi (vf A d) (colA A d)) ho hM4
            have c5 : I4 85 16 = nI (c + 1) := (hF4.2 16 (by decide)).trans h16J
            refine b1 (fun y => ?_) (fun y => ?_)
            · rw [if_neg (by rw [y]; decide)] at h
              refine ih (d + 1) (c + 1) _ I4 (by omega) (by omega) hM5 (lst_lt hB hw (by omega) (fun x hx' => (hx x hx').1)) (by unfold lst; rw [stA_o ho]; exact y) (lst_rc hB hrc y hw (by omega) (fun x hx' => (hx x hx').1)) c5 h44 (fun I' hF' => h I' (hF5.tr hF' (fun _ h => ⟨h, h⟩) (fun _ h => ⟨h, h⟩))) (by first | rfl | (simp (disch := omega) only [nI_lit, nI_ofInt1, nI_ofInt4, nI_ofInt2, nI_ofInt3, mI_neg, wI_I, wI_setI, wI_setR, forall_eq, nI_add, pk_mul, pk_sub, pk_div, pk_rem, nI_clamp, nI_leI, nI_ltI, nI_eq, vin_iff, nar0, nar1, nF_ap, bF_ap, oF_ap, bI_0, bI_1, and255, bu_w, bu_p, bu_90, bu_9, row_w, row_at, nF_up, nI_ofIntm] <;> first | done | omega | (congr 1; omega)))
            · rw [if_pos y] at h
              have := h I4 hF5 hM5 h44 c5
              rw [show vo ((c + 1, lst A d (colA A d)) : Nat × VS).2 = false by show vo (stA A d _) = false; rw [stA_o ho]; exact y] at this
              exact this
          · have heq := of_decide_eq_true z
            rw [if_neg (fun y => y.2.2 heq)] at h
            exact ih (d + 1) c A I2 (by omega) (by omega) hM2 hB ho hrc h162 hO2 (fun I' hF' => h I' (hF2'.tr hF' (fun _ h => ⟨h, h⟩) (fun _ h => ⟨h, h⟩))) (by first | rfl | (simp (disch := omega) only [nI_lit, nI_ofInt1, nI_ofInt4, nI_ofInt2, nI_ofInt3, mI_neg, wI_I, wI_setI, wI_setR, forall_eq, nI_add, pk_mul, pk_sub, pk_div, pk_rem, nI_clamp, nI_leI, nI_ltI, nI_eq, vin_iff, nar0, nar1, nF_ap, bF_ap, oF_ap, bI_0, bI_1, and255, bu_w, bu_p, bu_90, bu_9, row_w, row_at, nF_up, nI_ofIntm] <;> first | done | omega | (congr 1; omega)))
        refine bs_M_mendLists_37 hS.w _ _ ?_
        refine pk_le 12 12 (fun _ => ?_) (fun z => absurd z (by omega)) rfl rfl (by omega) (by omega)
        refine cM_listLength hS hD2 d hR (by omega) hw hk4 ⟨hS, ?_⟩ rfl
        simp only [wI_I, h14]
        refine ne_pair (pk_eq (colA A d).length (aH (vf A d)).length (fun z => ?_) (fun z => ?_) rfl rfl (by omega) (by omega))
        · exact cM_ml93 hS hD2 d hR (by omega) hw hk4 h14 hrow hl (fun e he => (hx e he).1) z (colA A d).length 0 true (by omega) ⟨fun _ i hi => absurd hi (by omega), fun _ => rfl⟩ fin rfl rfl rfl
        · rw [decide_eq_false (fun e => z (by rw [e]))] at fin
          refine bs_M_mendLists_93 hS.w _ _ _ ?_
          simp only [wI_I, h14]
          exact pk_le (colA A d).length 0 (fun _ => fin) (fun _ => ⟨fun _ => fin, fun y => absurd trivial y⟩) rfl rfl (by omega) (by omega)
      · rw [if_neg (fun z => q2 z.2.1)] at h
        exact ih (d + 1) c A I (by omega) (by omega) hM hB ho hrc h16 hO h (by first | rfl | (simp (disch := omega) only [nI_lit, nI_ofInt1, nI_ofInt4, nI_ofInt2, nI_ofInt3, mI_neg, wI_I, wI_setI, wI_setR, forall_eq, nI_add, pk_mul, pk_sub, pk_div, pk_rem, nI_clamp, nI_leI, nI_ltI, nI_eq, vin_iff, nar0, nar1, nF_ap, bF_ap, oF_ap, bI_0, bI_1, and255, bu_w, bu_p, bu_90, bu_9, row_w, row_at, nF_up, nI_ofIntm] <;> first | done | omega | (congr 1; omega)))
end MLIS
