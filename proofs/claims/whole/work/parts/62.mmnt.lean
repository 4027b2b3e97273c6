/-! The reference mends: the root, the parents. -/
def rootS : AS := (2, 0, 0, [], 4, [], 0, [])
theorem rootS_wf {n : Nat} (hn : n < 65536) : wf (setN rootS n) := ⟨Or.inr ⟨rfl, rfl⟩, by show 0 < 12; omega, hn, by show 0 ≤ 8; omega, fun x q => (by cases q), by show 2 ≤ 54; omega, fun x q => (by cases q), fun _ x q => (by cases q), fun _ => rfl, fun q => (by cases q)⟩
/-- while it mends: disk, cut, records in use -/
def MD (I : Nat → Nat → Int32) (A : VS) : Prop := I 86 = nF (vD A) ∧ I 85 5 = nI (vt A) ∧ ∃ U, I 87 = bF U ∧ (vo A = true → U = vU A)
theorem MD.mc {I : Nat → Nat → Int32} {A : VS} (h : MD I A) (ho : vo A = true) : MC I (vD A) (vt A) (vU A) := by
  obtain ⟨h1, h2, U, h3, h4⟩ := h
  exact ⟨h1, h2, by rw [h3, h4 ho]⟩
theorem MD.st {I' : Nat → Nat → Int32} {A : VS} {r : Nat} {s : AS} (ho : vo A = true) (hM : MC I' (stD (vD A) r (encB s (nN (vD A) r)) (vt A)) (vt A - 2) (if stOk (vt A) = true then up (vU A) r (decide (aS s ≠ 0)) else vU A)) : MD I' (stA A r s) := by
  refine ⟨hM.1, hM.2.1, _, hM.2.2, fun z => ?_⟩
  rw [stA_o ho] at z
  rw [if_pos z]
  rfl
def lup (U : Nat → Bool) (f : Nat → AS) : Nat → Nat → Bool
  | 0, k => decide (k = 0)
  | n + 1, k => if k = 0 then true else if U (aP (f k)) = true ∧ aS (f (aP (f k))) = 2 then lup U f n (aP (f k)) else false
/-- parents: from record r on, n records -/
def mPar : Nat → Nat → Nat → VS → Nat × VS
  | 0, _, c, A => (c, A)
  | n + 1, r, c, A => if vU A r = true ∧ lup (vU A) (vf A) 13 r = false then
      (if stOk (vt A) = false then (c + 1, stA A r (setP (vf A r) 0)) else mPar n (r + 1) (c + 1) (stA A r (setP (vf A r) 0)))
    else mPar n (r + 1) c A
section MMNT
variable {G : fx_G} {S : fx_S} {I : Nat → Nat → Int32} {Q : fx_R → fx_S → Prop} {F : Int32 → fx_S → Prop}
theorem cM_leadsUp4 (hS : shM S) {D : Nat → Nat} {U : Nat → Bool} {f : Nat → AS} (hD : I 86 = nF D) (hU : I 87 = bF U) (hrc : Recs D U f) : ∀ (n k t : Nat) {v2 v3 : Int32}, t + n = 13 → k < 12 → (k = 0 ∨ U k = true) → F (bI (lup U f n k)) (fx_wI S I) → v2 = nI k → v3 = nI t →
    fx_Go G (1, 15) mm_M_leadsUp 4 [(0, fx_r G 85), (2, .int v2), (3, .int v3)] [] (fx_wI S I) (fx_qi F Q) := by
  intro n
  induction n with
  | zero =>
    intro k t v2 v3 ht hk hu h e2 e3
    subst e2 e3
    unfold lup at h
    refine bs_M_leadsUp_4 hS.w _ _ ?_
    refine pk_lt 12 t (fun _ => ?_) (fun q => absurd q (by omega)) rfl rfl (by omega) (by omega)
    refine ne_pair (pk_eq k 0 (fun q => ?_) (fun q => ?_) rfl rfl (by omega) (by omega))
    · rw [decide_eq_true q] at h; exact h
    · rw [decide_eq_false q] at h; exact h
  | succ n ih =>
    intro k t v2 v3 ht hk hu h e2 e3
    subst e2 e3
    unfold lup at h
    refine bs_M_leadsUp_4 hS.w _ _ ?_
    refine pk_lt 12 t (fun q => absurd q (by omega)) (fun _ => ?_) rfl rfl (by omega) (by omega)
    refine pk_eq k 0 (fun q => ?_) (fun q => ?_) rfl rfl (by omega) (by omega)
    · rw [if_pos q] at h
      exact ⟨fun z => absurd (by rw [q]; rfl) z, fun _ => h⟩
    · rw [if_neg q] at h
      have huk : U k = true := by rcases hu with e | e; exact absurd e q; exact e
      obtain ⟨hR, hw⟩ := hrc k hk huk
      have hp := hw.2.1
      refine cM_byteR hS hD k 1 hR hk (by omega) ⟨hS, ?_⟩ rfl rfl
      rw [rv_1]
      refine pk_le 12 (aP (f k)) (fun z => absurd z (by omega)) (fun _ => ⟨pk_in (aP (f k)) 12 hp rfl, ?_⟩) rfl rfl (by omega) (by omega)
      simp only [wI_I, hU]
      rw [pk_cl (aP (f k)) rfl (by omega)]
      refine b0 (fun z => ?_) (fun z => ?_)
      · rw [if_neg (fun y => by rw [z] at y; exact absurd y.1 (by decide))] at h
        exact h
      · obtain ⟨hRp, hwp⟩ := hrc _ hp z
        have hK := hwp.1
        refine cM_byteR hS hD (aP (f k)) 0 hRp hp (by omega) ⟨hS, ?_⟩ rfl rfl
        rw [show rv (f (aP (f k))) 0 = aS (f (aP (f k))) from rfl]
        refine pk_eq (aS (f (aP (f k)))) 2 (fun y => ?_) (fun y => ?_) rfl rfl (by omega) (by omega)
        · rw [if_pos ⟨z, y⟩] at h
          exact ih _ (t + 1) (by omega) hp (Or.inr z) h rfl (by first | rfl | (simp (disch := omega) only [nI_lit, nI_ofInt1, nI_ofInt4, nI_ofInt2, nI_ofInt3, mI_neg, wI_I, wI_setI, wI_setR, forall_eq, nI_add, pk_mul, pk_sub, pk_div, pk_rem, nI_clamp, nI_leI, nI_ltI, nI_eq, vin_iff, nar0, nar1, nF_ap, bF_ap, oF_ap, bI_0, bI_1, and255, bu_w, bu_p, bu_90, bu_9, row_w, row_at, nF_up, nI_ofIntm] <;> first | done | omega | (congr 1; omega)))
        · rw [if_neg (fun x => y x.2)] at h
          exact h
theorem cM_leadsUp (hS : shM S) {D : Nat → Nat} {U : Nat → Bool} {f : Nat → AS} (hD : I 86 = nF D) (hU : I 87 = bF U) (hrc : Recs D U f) (k : Nat) {v1 : Int32} (hk : k < 12) (hu : U k = true) (h : F (bI (lup U f 13 k)) (fx_wI S I)) (e1 : v1 = nI k) :
    fx_Go G (1, 15) mm_M_leadsUp 0 [(0, fx_r G 85), (1, .int v1)] [] (fx_wI S I) (fx_qi F Q) := by
  refine bs_M_leadsUp_0 hS.w _ ?_
  exact cM_leadsUp4 hS hD hU hrc 13 k 0 rfl hk (Or.inr hu) h e1 rfl
theorem cM_mendRoot (hS : shM S) {A : VS} (hM : MD I A) (hB : BI A) (ho : vo A = true) (c : Nat) (h16 : I 85 16 = nI c) (hO : I 85 4 = bI false)
    (h1 : vU A 0 = true → F (bI true) (fx_wI S I))
    (h2 : vU A 0 = false → ∀ I', Fr [86, 87, 90] [4, 5, 9, 14, 16] I I' → MD I' (stA A 0 rootS) → I' 85 4 = bI false → I' 85 16 = nI (c + 1) → F (bI (stOk (vt A))) (fx_wI S I')) :
    fx_Go G (2, 31) mm_M_mendRoot 0 [(0, fx_r G 85)] [] (fx_wI S I) (fx_qi F Q) := by
  have narb : ∀ b : Bool, narrow .boolean (.int (bI b)) = .int (bI b) := by intro b; cases b <;> rfl
  have hMC := hM.mc ho
  refine bs_M_mendRoot_0 hS.w ?_
  simp only [wI_I, hMC.2.2, wI_setI, forall_eq]
  refine ⟨pk_in 0 12 (by omega) rfl, ?_⟩
  refine b0 (fun q => ?_) (fun q => h1 q)
  refine cM_begin hS (I := fx_w I 85 14 (nI 0)) 2 0 (fun b hb => ⟨hS, ?_⟩) rfl rfl
  refine cM_putList hS (I := fx_w I 85 14 (nI 0)) (ml := []) rfl (fun k hk => absurd hk (Nat.not_lt_zero _)) (by simp) (by omega) ⟨hS, ?_⟩
  simp only [wI_I, wI_setI, forall_eq]
  have e16 : ∀ b p, bufS (fx_w I 85 14 (nI 0)) b p 85 16 = nI c := fun _ _ => h16
  rw [e16, bu_j _ _ _ _ _ (by decide), show nI c + 1 = nI (c + 1) from nI_1 c]
  have hFJ : Fr [86, 87, 90] [4, 5, 9, 14, 16] I (fx_w (fx_w I 85 14 (nI 0)) 85 16 (nI (c + 1))) := (Fr.w5 [86, 87, 90] [4, 5, 9, 14, 16] I 14 _ (by decide)).tr (Fr.w5 [86, 87, 90] [4, 5, 9, 14, 16] _ 16 _ (by decide)) (fun _ h => ⟨h, h⟩) (fun _ h => ⟨h, h⟩)
  have hMJ : MC (fx_w (fx_w I 85 14 (nI 0)) 85 16 (nI (c + 1))) (vD A) (vt A) (vU A) := hMC
  have hOJ : fx_w (fx_w I 85 14 (nI 0)) 85 16 (nI (c + 1)) 85 4 = bI false := hO
  have h16J : fx_w (fx_w I 85 14 (nI 0)) 85 16 (nI (c + 1)) 85 16 = nI (c + 1) := rfl
  generalize fx_w (fx_w I 85 14 (nI 0)) 85 16 (nI (c + 1)) = J at *
  refine cM_storeC hS hMJ hB.1 hB.2.1 hOJ (s := rootS) 0 (by omega) (by show 2 ≤ 2; omega) (by show 2 ≤ 54; omega) (fun j hj _ => putL_bfr (s := rootS) hb j hj) (fun I4 hF4 hM4 h44 => ⟨hS, narb _, ?_⟩) rfl rfl
  exact h2 q I4 (hFJ.tr (hF4.mono (fun _ h => h) (fun a h => by simp at h ⊢; omega)) (fun _ h => ⟨h, h⟩) (fun _ h => ⟨h, h⟩)) (MD.st ho hM4) h44 ((hF4.2 16 (by decide)).trans h16J)
theorem cM_mp30 {s : AS} {D : Nat → Nat} (hS : shM S) (r : Nat) (hR : Rec D r s) (hr : r < 12) (hD : I 86 = nF D) (h : ∀ b, (∀ i, i < 64 → b i = rv s i) → ∀ p, fx_Go G (2, 31) mm_M_mendParents 30 [(0, fx_r G 85), (1, .int (nI r)), (2, .int (nI 64))] [] (fx_wI S (bufS I b p)) Q) : ∀ (n k p : Nat) (b : Nat → Nat) {v1 v2 : Int32}, k + n = 64 → (∀ i, i < k → b i = rv s i) → v1 = nI r → v2 = nI k →
    fx_Go G (2, 31) mm_M_mendParents 30 [(0, fx_r G 85), (1, .int v1), (2, .int v2)] [] (fx_wI S (bufS I b p)) Q := by
  intro n
  induction n with
  | zero =>
    intro k p b v1 v2 hk hb e1 e2
    subst e1 e2
    have : k = 64 := by omega
    subst this
    exact h b hb p
  | succ n ih =>
    intro k p b v1 v2 hk hb e1 e2
    subst e1 e2
    refine bs_M_mendParents_30 hS.w _ _ ?_
    refine pk_le 64 k (fun q => absurd q (by omega)) (fun _ => ?_) rfl rfl (by omega) (by omega)
    refine cM_byteR hS (I := bufS I b p) hD r k hR hr (by omega) ⟨hS, ?_⟩ rfl rfl
    simp (disch := omega) only [nI_lit, nI_ofInt1, nI_ofInt4, nI_ofInt2, nI_ofInt3, mI_neg, wI_I, wI_setI, wI_setR, forall_eq, nI_add, pk_mul, pk_sub, pk_div, pk_rem, nI_clamp, nI_leI, nI_ltI, nI_eq, vin_iff, nar0, nar1, nF_ap, bF_ap, oF_ap, bI_0, bI_1, and255, bu_w, bu_p, bu_90, bu_9, row_w, row_at, nF_up, nI_ofIntm]
    refine ⟨by omega, ih (k + 1) p _ (by omega) (fun i hi => ?_) rfl rfl⟩
    unfold up
    by_cases c : i = k
    · rw [if_pos c, c]
    · rw [if_neg c]; exact hb i (by omega)
theorem cM_mendPar2 (hS : shM S) : ∀ (n r c : Nat) (A : VS) (I : Nat → Nat → Int32) {v1 : Int32}, r + n = 12 → c + n < 1000 → MD I A → BI A → vo A = true → Recs (vD A) (vU A) (vf A) → I 85 16 = nI c → I 85 4 = bI false →
    (∀ I', Fr [86, 87, 90] [4, 5, 9, 14, 16] I I' → MD I' (mPar n r c A).2 → I' 85 4 = bI false → I' 85 16 = nI (mPar n r c A).1 → F (bI (vo (mPar n r c A).2)) (fx_wI S I')) → v1 = nI r →
    fx_Go G (2, 31) mm_M_mendParents 2 [(0, fx_r G 85), (1, .int v1)] [] (fx_wI S I) (fx_qi F Q) := by
  intro n
  induction n with
  | zero =>
    intro r c A I v1 hr hc hM hB ho hrc h16 hO h e1
    subst e1
    refine bs_M_mendParents_2 hS.w _ ?_
    refine pk_le 12 r (fun _ => ?_) (fun q => absurd q (by omega)) rfl rfl (by omega) (by omega)
    have := h I (Fr.rfl' _ _ _) hM hO h16
    rw [show vo (mPar 0 r c A).2 = true from ho] at this
    exact this
  | succ n ih =>
    intro r c A I v1 hr hc hM hB ho hrc h16 hO h e1
    subst e1
    have hMC := hM.mc ho
    unfold mPar at h
    refine bs_M_mendParents_2 hS.w _ ?_
    refine pk_le 12 r (fun q => absurd q (by omega)) (fun _ => ⟨pk_in r 12 (by omega) rfl, ?_⟩) rfl rfl (by omega) (by omega)
    simp only [wI_I, hMC.2.2]
    rw [pk_cl r rfl (by omega)]
    refine b0 (fun q => ?_) (fun q => ?_)
    · rw [if_neg (fun z => by rw [q] at z; exact absurd z.1 (by decide))] at h
      exact ih (r + 1) c A I (by omega) (by omega) hM hB ho hrc h16 hO h (by first | rfl | (simp (disch := omega) only [nI_lit, nI_ofInt1, nI_ofInt4, nI_ofInt2, nI_ofInt3, mI_neg, wI_I, wI_setI, wI_setR, forall_eq, nI_add, pk_mul, pk_sub, pk_div, pk_rem, nI_clamp, nI_leI, nI_ltI, nI_eq, vin_iff, nar0, nar1, nF_ap, bF_ap, oF_ap, bI_0, bI_1, and255, bu_w, bu_p, bu_90, bu_9, row_w, row_at, nF_up, nI_ofIntm] <;> first | done | omega | (congr 1; omega)))
    · obtain ⟨hR, hw⟩ := hrc r (by omega) q
      refine cM_leadsUp hS hMC.1 hMC.2.2 hrc r (by omega) q ⟨hS, ?_⟩ rfl
      refine b0 (fun q2 => ?_) (fun q2 => ?_)
      · rw [if_pos ⟨q, q2⟩] at h
        obtain ⟨b, hb⟩ := nF_surj (I 90)
        obtain ⟨p, hp⟩ := nI_surj (I 85 9)
        rw [← bu_self hb hp]
        refine cM_mp30 hS r hR (by omega) hMC.1 (fun b hb p => ?_) 64 0 p b rfl (fun i hi => absurd hi (by omega)) rfl rfl
        have hs1 : aS (vf A r) ≠ 0 ∧ aS (vf A r) ≤ 2 := by have := hw.1; omega
        have hal := hw.al
        have hn := nN_lt hB.1 r
        have hwn : wf (setN (setP (vf A r) 0) (nN (vD A) r)) := setP_wf hw (by omega) hn
        refine bs_M_mendParents_30 hS.w _ _ ?_
        refine pk_le 64 64 (fun _ => ?_) (fun z => absurd z (by omega)) rfl rfl (by omega) (by omega)
        simp (disch := omega) only [nI_lit, nI_ofInt1, nI_ofInt4, nI_ofInt2, nI_ofInt3, mI_neg, wI_I, wI_setI, wI_setR, forall_eq, nI_add, pk_mul, pk_sub, pk_div, pk_rem, nI_clamp, nI_leI, nI_ltI, nI_eq, vin_iff, nar0, nar1, nF_ap, bF_ap, oF_ap, bI_0, bI_1, and255, bu_w, bu_p, bu_90, bu_9, row_w, row_at, nF_up, nI_ofIntm]
        have e8 : up b 1 0 8 = (atA (vf A r)).length := by
          show b 8 = _
          rw [hb 8 (by omega)]; rfl
        have e16 : ∀ b p, bufS I b p 85 16 = nI c := fun _ _ => h16
        rw [e8, e16, bu_j _ _ _ _ _ (by decide)]
        simp (disch := omega) only [nI_lit, nI_ofInt1, nI_ofInt4, nI_ofInt2, nI_ofInt3, mI_neg, wI_I, wI_setI, wI_setR, forall_eq, nI_add, pk_mul, pk_sub, pk_div, pk_rem, nI_clamp, nI_leI, nI_ltI, nI_eq, vin_iff, nar0, nar1, nF_ap, bF_ap, oF_ap, bI_0, bI_1, and255, bu_w, bu_p, bu_90, bu_9, row_w, row_at, nF_up, nI_ofIntm]
        refine ⟨by omega, by omega, ?_⟩
        have hFJ : Fr [86, 87, 90] [4, 5, 9, 14, 16] I (fx_w I 85 16 (nI (c + 1))) := Fr.w5 _ _ _ _ _ (by decide)
        have hMJ : MC (fx_w I 85 16 (nI (c + 1))) (vD A) (vt A) (vU A) := hMC
        have hOJ : fx_w I 85 16 (nI (c + 1)) 85 4 = bI false := hO
        have h16J : fx_w I 85 16 (nI (c + 1)) 85 16 = nI (c + 1) := rfl
        generalize fx_w I 85 16 (nI (c + 1)) = J at *
        refine cM_storeC hS hMJ hB.1 hB.2.1 hOJ (s := setP (vf A r) 0) r (by omega) hs1.2 hal (fun i hi hc => ?_) (fun I4 hF4 hM4 h44 => ⟨hS, ?_⟩) rfl rfl
        · unfold up
          by_cases c1 : i = 1
          · subst c1; rfl
          · rw [if_neg c1, hb i hi]
            by_cases c0 : i = 0
            · subst c0; rfl
            · rw [rv_bfr _ _ (by omega)]
              unfold bfr
              rw [if_neg c0, if_neg c1, if_neg c0, if_neg c1]
              rfl
        · have hF5 : Fr [86, 87, 90] [4, 5, 9, 14, 16] I I4 := hFJ.tr (hF4.mono (fun _ h => h) (fun a h => by simp at h ⊢; omega)) (fun _ h => ⟨h, h⟩) (fun _ h => ⟨h, h⟩)
          have hM5 : MD I4 (stA A r (setP (vf A r) 0)) := MD.st ho hM4
          have c5 : I4 85 16 = nI (c + 1) := (hF4.2 16 (by decide)).trans h16J
          refine b1 (fun z => ?_) (fun z => ?_)
          · rw [if_neg (by rw [z]; decide)] at h
            refine ih (r + 1) (c + 1) _ I4 (by omega) (by omega) hM5 (hB.st r _ (enc_wf_lt hn hwn)) (by rw [stA_o ho]; exact z) (RecsA hrc z (fun _ => hwn)) c5 h44 (fun I' hF' => h I' (hF5.tr hF' (fun _ h => ⟨h, h⟩) (fun _ h => ⟨h, h⟩))) (by first | rfl | (simp (disch := omega) only [nI_lit, nI_ofInt1, nI_ofInt4, nI_ofInt2, nI_ofInt3, mI_neg, wI_I, wI_setI, wI_setR, forall_eq, nI_add, pk_mul, pk_sub, pk_div, pk_rem, nI_clamp, nI_leI, nI_ltI, nI_eq, vin_iff, nar0, nar1, nF_ap, bF_ap, oF_ap, bI_0, bI_1, and255, bu_w, bu_p, bu_90, bu_9, row_w, row_at, nF_up, nI_ofIntm] <;> first | done | omega | (congr 1; omega)))
          · rw [if_pos z] at h
            have := h I4 hF5 hM5 h44 c5
            rw [show vo ((c + 1, stA A r (setP (vf A r) 0)) : Nat × VS).2 = false by show vo (stA A r (setP (vf A r) 0)) = false; rw [stA_o ho]; exact z] at this
            exact this
      · rw [if_neg (fun z => by rw [q2] at z; exact absurd z.2 (by decide))] at h
        exact ih (r + 1) c A I (by omega) (by omega) hM hB ho hrc h16 hO h (by first | rfl | (simp (disch := omega) only [nI_lit, nI_ofInt1, nI_ofInt4, nI_ofInt2, nI_ofInt3, mI_neg, wI_I, wI_setI, wI_setR, forall_eq, nI_add, pk_mul, pk_sub, pk_div, pk_rem, nI_clamp, nI_leI, nI_ltI, nI_eq, vin_iff, nar0, nar1, nF_ap, bF_ap, oF_ap, bI_0, bI_1, and255, bu_w, bu_p, bu_90, bu_9, row_w, row_at, nF_up, nI_ofIntm] <;> first | done | omega | (congr 1; omega)))
end MMNT
