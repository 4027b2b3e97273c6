/-! The reference's remove and move. -/
def setT (A : VS) (T : Nat → Bool) : VS := (vD A, vt A, vl A, vo A, vU A, vf A, T)
def outL (A : VS) (d r : Nat) : List Nat := (aH (vf A d)).filter (kp (nI r))
/-- a directory, not empty -/
def full (s : AS) : Bool := decide (aS s = 2) && !decide ((aH s).length = 0)
def sRem (A : VS) (v : Int32) : Nat × Int32 × VS :=
  if vo A = false then (1, nI 0, A)
  else if us A v = true ∧ v ≠ nI 0 ∧ full (vf A v.toNatClampNeg) = false then
    (let r := v.toNatClampNeg
     let d := aP (vf A r)
     let A1 := lst A d (outL A d r)
     if stOk (vt A) = false then (1, nI 0, A1)
     else let A2 := stA A1 r (frA 0)
       if stOk (vt A1) = false then (1, nI 0, A2) else (0, nI (cntO (aL (vf A r))), setT A2 (clrT (vT A) (aL (vf A r)))))
  else (2, nI 0, A)
def setP (s : AS) (d : Nat) : AS := (aS s, d, aN s, aM s, aK s, aH s, aZ s, aL s)
def sMov (A : VS) (v w : Int32) : Nat × VS :=
  if vo A = false then (1, A)
  else if us A v = true ∧ v ≠ nI 0 ∧ uk A w 2 = true ∧ isB (vf A) v.toNatClampNeg 12 w.toNatClampNeg = false ∧ hnN (vf A) v.toNatClampNeg (aH (vf A w.toNatClampNeg)) = false then
    (let r := v.toNatClampNeg
     let d := w.toNatClampNeg
     let b := aP (vf A r)
     let A1 := stA A r (setP (vf A r) d)
     if stOk (vt A) = false then (1, A1)
     else let A2 := lst A1 b (outL A1 b r)
       if stOk (vt A1) = false then (1, A2)
       else let A3 := lst A2 d (insL A2 d r)
         if stOk (vt A2) = false then (1, A3) else (0, A3))
  else (2, A)
theorem setP_wf {s : AS} {d n : Nat} (h : wf s) (hd : d < 12) (hn : n < 65536) : wf (setN (setP s d) n) := ⟨h.1, hd, hn, h.2.2.2⟩
theorem lst_lt {A : VS} {d : Nat} {ml : List Nat} (hB : BI A) (hw : wf (vf A d)) (hm : ml.length ≤ 12) (hx : ∀ x ∈ ml, x < 12) : BI (lst A d ml) := hB.st d _ (enc_wf_lt (nN_lt hB.1 d) (sLi_wf hw (nN_lt hB.1 d) hm hx))
theorem lst_rc {A : VS} {d : Nat} {ml : List Nat} (hB : BI A) (h : Recs (vD A) (vU A) (vf A)) (hok : stOk (vt A) = true) (hw : wf (vf A d)) (hm : ml.length ≤ 12) (hx : ∀ x ∈ ml, x < 12) : Recs (vD (lst A d ml)) (vU (lst A d ml)) (vf (lst A d ml)) := RecsA h hok (fun _ => sLi_wf hw (nN_lt hB.1 d) hm hx)
section MREM
variable {G : fx_G} {S : fx_S} {I : Nat → Nat → Int32} {Q : fx_R → fx_S → Prop} {A : VS}
theorem cM_lst {F : Int32 → fx_S → Prop} (hS : shM S) (hM : MS I A) (hB : BI A) (ho : vo A = true) {s : AS} (d : Nat) (hd : d < 12) (es : vf A d = s) (hR : Rec (vD A) d s) (hw : wf s) {ml : List Nat} (h14 : I 85 14 = nI ml.length) (hrow : rowL I 94 ml) (hml : ml.length ≤ 12) {v1 v2 : Int32}
    (h : ∀ I', Fr [86, 87, 90] [4, 5, 9] I I' → MS I' (lst A d ml) → F (bI (stOk (vt A))) (fx_wI S I')) (e1 : v1 = nI d) (e2 : v2 = nI (aP s)) : fx_Go G (4, 60) mm_M_storeList 0 [(0, fx_r G 85), (1, .int v1), (2, .int v2)] [] (fx_wI S I) (fx_qi F Q) := by
  subst es
  refine cM_storeList hS (hM.mc ho) hB.1 hB.2.1 hM.2.2.2.2.1 d hR hd hw h14 hrow hml (fun I' hF hM' h4 => h I' hF ?_) e1 e2
  exact MS.st (s := sLi (vf A d) ml) hM (hM.u ho).1 (fun _ => rfl) hF hM' h4
theorem cM_rem60 {F : Int32 → fx_S → Prop} (hS : shM S) (hM : MS I A) (hB : BI A) (ho : vo A = true) (hO : OI A) (r : Nat) (hr : r < 12) (hr0 : r ≠ 0) (hu : vU A r = true) (h0 : I 85 0 = nI 0)
    (h1 : stOk (vt A) = false → ∀ I', K85 I I' → MS I' (lst A (aP (vf A r)) (outL A (aP (vf A r)) r)) → I' 85 0 = nI 1 → F (nI 0) (fx_wI S I'))
    (h2 : stOk (vt A) = true → let A1 := lst A (aP (vf A r)) (outL A (aP (vf A r)) r); stOk (vt A1) = false → ∀ I', K85 I I' → MS I' (stA A1 r (frA 0)) → I' 85 0 = nI 1 → F (nI 0) (fx_wI S I'))
    (h3 : stOk (vt A) = true → let A1 := lst A (aP (vf A r)) (outL A (aP (vf A r)) r); stOk (vt A1) = true → ∀ I', K85 I I' → MS I' (setT (stA A1 r (frA 0)) (clrT (vT A) (aL (vf A r)))) → I' 85 0 = nI 0 → F (nI (cntO (aL (vf A r)))) (fx_wI S I')) :
    fx_Go G (5, 74) mm_M_remove 60 [(0, fx_r G 85), (1, .int (nI r))] [] (fx_wI S I) (fx_qi F Q) := by
  obtain ⟨hR, hw⟩ := hO.rc r hr hu
  have hP := hO.2.2.2.2.1 r hr hu
  have hd : aP (vf A r) < 12 := hw.2.1
  obtain ⟨hRd, hwd⟩ := hO.rc _ hd hP.1
  have hli := hO.li hd hP.1 hP.2
  have hl11 := hO.l11 hd hP.1 hP.2
  have hpl := hw.pl
  have hol : (outL A (aP (vf A r)) r).length ≤ 12 := by have := List.length_filter_le (kp (nI r)) (aH (vf A (aP (vf A r)))); unfold outL; omega
  have hox : ∀ x ∈ outL A (aP (vf A r)) r, x < 12 := fun x hx => ((hli.2 x).mp (List.mem_filter.mp hx).1).2.1
  refine bs_M_remove_60 hS.w _ ?_
  refine cM_byteR hS hM.1 r 1 hR hr (by omega) ⟨hS, ?_⟩ rfl rfl
  rw [rv_1]
  refine cM_loadMap hS hM.1 r hR hr hw (fun I1 hF1 h10 hrow1 => ⟨hS, ?_⟩) rfl
  have sc1 : SC I I1 := hF1.mono (fun a h => by simp at h ⊢; omega) (fun a h => by simp at h ⊢; omega)
  have hM1 := hM.keep sc1
  refine cM_takeList hS hM1.1 (aP (vf A r)) hRd hd hwd (hwd.k4 hP.2) (by omega) (nI r) (fun I2 hF2 h14 hrow2 => ⟨hS, ?_⟩) rfl
  have sc2 : SC I1 I2 := hF2.mono (fun a h => by simp at h ⊢; omega) (fun a h => by simp at h ⊢; omega)
  have hM2 := hM1.keep sc2
  refine cM_byteR hS hM2.1 (aP (vf A r)) 1 hRd hd (by omega) ⟨hS, ?_⟩ rfl rfl
  rw [rv_1]
  refine cM_lst hS hM2 hB ho (aP (vf A r)) hd rfl hRd hwd (ml := outL A (aP (vf A r)) r) h14 hrow2 hol (fun I3 hF3 hM3 => ⟨hS, ?_⟩) rfl rfl
  have k3 : K85 I I3 := (sc1.k.tr sc2.k).tr (hF3.k (fun a ha => by simp; omega))
  have c3 : I3 85 0 = nI 0 := (hF3.2 0 (by decide)).trans ((hF2.2 0 (by decide)).trans ((hF1.2 0 (by decide)).trans h0))
  refine b1 (fun hok => ?_) (fun hok => ?_)
  · have h2' := h2 hok
    have h3' := h3 hok
    have hB1 := lst_lt hB hwd hol hox
    have ho1 : vo (lst A (aP (vf A r)) (outL A (aP (vf A r)) r)) = true := by unfold lst; rw [stA_o ho]; exact hok
    have hT1 : vT (lst A (aP (vf A r)) (outL A (aP (vf A r)) r)) = vT A := rfl
    generalize lst A (aP (vf A r)) (outL A (aP (vf A r)) r) = A1 at *
    refine cM_begin hS 0 0 (fun b hb => ⟨hS, ?_⟩) rfl rfl
    refine cM_storeC hS (hM3.mc ho1) hB1.1 hB1.2.1 hM3.2.2.2.2.1 (s := frA 0) r hr (by show 0 ≤ 2; omega) (by show 0 ≤ 54; omega) (fun i hi _ => ?_) (fun I4 hF4 hM4 h44 => ⟨hS, ?_⟩) rfl rfl
    · rw [hb i hi]
      unfold bg bfr
      split
      · rfl
      · split
        · rfl
        · split <;> rfl
    have hS4 : MS I4 (stA A1 r (frA 0)) := hM3.st (hM3.u ho1).1 (fun _ => rfl) hF4 hM4 h44
    have k4 : K85 I I4 := k3.tr (hF4.k (fun a ha => by simp; omega))
    have c4 : I4 85 0 = nI 0 := (hF4.2 0 (by decide)).trans c3
    refine b1 (fun hok2 => ?_) (fun hok2 => ?_)
    · have ho2 : vo (stA A1 r (frA 0)) = true := by rw [stA_o ho1]; exact hok2
      have hT4 := (hS4.u ho2).2
      have h104 : I4 85 10 = nI (aL (vf A r)).length := (hF4.2 10 (by decide)).trans ((hF3.2 10 (by decide)).trans ((hF2.2 10 (by decide)).trans h10))
      have hrow4 : rowO I4 91 (aL (vf A r)) := ((hrow1.cg (hF2.1 91 (by decide) (by decide))).cg (hF3.1 91 (by decide) (by decide))).cg (hF4.1 91 (by decide) (by decide))
      refine cM_release hS hT4 h104 hrow4 (by omega) (fun c hc => (hpl.2 c hc).2) 0 (by omega) ⟨hS, ?_⟩ rfl
      rw [List.drop_zero]
      refine h3' hok2 _ (k4.tr (fun a ha => fx_row_ne _ _ (by omega))) ?_ c4
      obtain ⟨g1, g2, g3, g4, g5, U, T, g6, g7, g8⟩ := hS4
      have eT : vT (stA A1 r (frA 0)) = vT A := hT1
      refine ⟨g1, g2, g3, g4, g5, U, _, g6, row_at _ _ _, fun z => ⟨(g8 z).1, ?_⟩⟩
      rw [eT]
      rfl
    · refine cM_refuse hS 1 ⟨hS, ?_⟩ rfl
      exact h2' hok2 _ (k4.tr (sc0 I4 (nI 1)).k) (hS4.keep (sc0 I4 (nI 1))) rfl
  · refine cM_refuse hS 1 ⟨hS, ?_⟩ rfl
    exact h1 hok _ (k3.tr (sc0 I3 (nI 1)).k) (hM3.keep (sc0 I3 (nI 1))) rfl
theorem cM_remove {F : Int32 → fx_S → Prop} (hS : shM S) (hM0 : MS I A) (hB : BI A) (hO : vo A = true → OI A) (v1 : Int32) (h' : ∀ I', K85 I I' → MS I' (sRem A v1).2.2 → I' 85 0 = nI (sRem A v1).1 → F (sRem A v1).2.1 (fx_wI S I')) :
    fx_Go G (5, 74) mm_M_remove 0 [(0, fx_r G 85), (1, .int v1)] [] (fx_wI S I) (fx_qi F Q) := by
  refine bs_M_remove_0 hS.w _ ?_
  simp only [wI_setI, forall_eq, wI_I]
  have hM := hM0.keep (sc0 I (nI 0))
  have h : ∀ I', K85 (fx_w I 85 0 (nI 0)) I' → MS I' (sRem A v1).2.2 → I' 85 0 = nI (sRem A v1).1 → F (sRem A v1).2.1 (fx_wI S I') := fun I' k => h' I' ((sc0 I (nI 0)).k.tr k)
  have h0 : fx_w I 85 0 (nI 0) 85 0 = nI 0 := rfl
  rw [show (0 : Int32) = nI 0 from rfl]
  generalize fx_w I 85 0 (nI 0) = J at *
  clear h' hM0
  unfold sRem at h
  rw [hM.2.2.2.2.1]
  refine b1 (fun ho => ?_) (fun ho => ?_)
  · rw [if_neg (by rw [ho]; decide)] at h
    refine cM_us hS hM v1 ⟨hS, ?_⟩
    refine b0 (fun q => ?_) (fun q => ?_)
    · rw [if_neg (fun z => by rw [q] at z; exact absurd z.1 (by decide))] at h
      exact cM_refuse hS 2 ⟨hS, h _ (sc0 J _).k (hM.keep (sc0 J _)) rfl⟩ rfl
    · obtain ⟨r, hr, e, hu, _, er⟩ := us_j q
      obtain ⟨hR, hw⟩ := (hO ho).rc r hr hu
      rw [er] at h
      subst e
      have hK := hw.1
      simp (disch := omega) only [nI_lit, nI_ofInt1, nI_ofInt4, nI_ofInt2, nI_ofInt3, mI_neg, wI_I, wI_setI, wI_setR, forall_eq, nI_add, pk_mul, pk_sub, pk_div, pk_rem, nI_clamp, nI_leI, nI_ltI, nI_eq, vin_iff, nar0, nar1, nF_ap, bF_ap, oF_ap, bI_0, bI_1, and255, bu_w, bu_p, bu_90, bu_9, row_w, row_at, nF_up, nI_ofIntm]
      refine ⟨fun q0 => ?_, fun q0 => ?_⟩
      · have ne0 : nI r ≠ nI 0 := fun z => q0 ((nI_eq (by omega) (by omega)).mp z)
        have go60 : full (vf A r) = false → fx_Go G (5, 74) mm_M_remove 60 [(0, fx_r G 85), (1, .int (nI r))] [] (fx_wI S J) (fx_qi F Q) := by
          intro hf
          rw [if_pos ⟨q, ne0, hf⟩] at h
          simp only at h
          refine cM_rem60 hS hM hB ho (hO ho) r hr q0 hu h0 (fun hk => ?_) (fun hk hk2 => ?_) (fun hk hk2 => ?_)
          · rw [if_pos hk] at h; exact h
          · rw [if_neg (by rw [hk]; decide), if_pos hk2] at h; exact h
          · rw [if_neg (by rw [hk]; decide), if_neg (by rw [hk2]; decide)] at h; exact h
        refine cM_byteR hS hM.1 r 0 hR hr (by omega) ⟨hS, ?_⟩ rfl rfl
        rw [show rv (vf A r) 0 = aS (vf A r) from rfl]
        simp (disch := omega) only [nI_lit, nI_ofInt1, nI_ofInt4, nI_ofInt2, nI_ofInt3, mI_neg, wI_I, wI_setI, wI_setR, forall_eq, nI_add, pk_mul, pk_sub, pk_div, pk_rem, nI_clamp, nI_leI, nI_ltI, nI_eq, vin_iff, nar0, nar1, nF_ap, bF_ap, oF_ap, bI_0, bI_1, and255, bu_w, bu_p, bu_90, bu_9, row_w, row_at, nF_up, nI_ofIntm]
        refine ⟨fun q2 => go60 (by unfold full; rw [decide_eq_false q2]; rfl), fun q2 => ?_⟩
        have hl := hw.hl (by have := hw.k4 q2; omega)
        refine cM_listLength hS hM.1 r hR hr hw (hw.k4 q2) ⟨hS, ?_⟩ rfl
        simp (disch := omega) only [nI_lit, nI_ofInt1, nI_ofInt4, nI_ofInt2, nI_ofInt3, mI_neg, wI_I, wI_setI, wI_setR, forall_eq, nI_add, pk_mul, pk_sub, pk_div, pk_rem, nI_clamp, nI_leI, nI_ltI, nI_eq, vin_iff, nar0, nar1, nF_ap, bF_ap, oF_ap, bI_0, bI_1, and255, bu_w, bu_p, bu_90, bu_9, row_w, row_at, nF_up, nI_ofIntm]
        refine ⟨fun q3 => go60 (by unfold full; rw [decide_eq_true (show (aH (vf A r)).length = 0 by omega), Bool.not_true, Bool.and_false]), fun q3 => ?_⟩
        have hf : full (vf A r) = true := by unfold full; rw [decide_eq_true q2, decide_eq_false (show ¬ (aH (vf A r)).length = 0 by omega)]; rfl
        rw [if_neg (fun z => by rw [hf] at z; exact absurd z.2.2 (by decide))] at h
        exact cM_refuse hS 2 ⟨hS, h _ (sc0 J _).k (hM.keep (sc0 J _)) rfl⟩ rfl
      · rw [if_neg (fun z => z.2.1 (by rw [q0]))] at h
        exact cM_refuse hS 2 ⟨hS, h _ (sc0 J _).k (hM.keep (sc0 J _)) rfl⟩ rfl
  · rw [if_pos ho] at h
    exact cM_refuse hS 1 ⟨hS, h _ (sc0 J _).k (hM.keep (sc0 J _)) rfl⟩ rfl
theorem cM_mov166 {F : fx_S → Prop} (hS : shM S) (hM : MS I A) (hB : BI A) (ho : vo A = true) (hrc : Recs (vD A) (vU A) (vf A)) (d r : Nat) (hd : d < 12) (hud : vU A d = true) (hs : aS (vf A d) = 2) (hr : r < 12) (hur : vU A r = true) (hl : (aH (vf A d)).length ≤ 11) (hx : ∀ e ∈ aH (vf A d), e < 12 ∧ vU A e = true) (h0 : I 85 0 = nI 0)
    (h : ∀ I', K85 I I' → MS I' (lst A d (insL A d r)) → I' 85 0 = nI (if stOk (vt A) = true then 0 else 1) → F (fx_wI S I')) :
    fx_Go G (6, 92) mm_M_move 166 [(0, fx_r G 85), (1, .int (nI r)), (2, .int (nI d)), (5, .int (bI true))] [] (fx_wI S I) (fx_qv F Q) := by
  obtain ⟨hRd, hwd⟩ := hrc d hd hud
  have hfil : (aH (vf A d)).filter (kp mI) = aH (vf A d) := List.filter_eq_self.mpr (fun e he => kp_m (hx e he).1)
  refine bs_M_move_166 hS.w _ _ _ ?_
  refine ⟨fun q => absurd q (by decide), fun _ => ?_⟩
  refine cM_takeList hS hM.1 d hRd hd hwd (hwd.k4 hs) (by omega) mI (fun I2 hF2 h14 hrow => ⟨hS, ?_⟩) rfl
  rw [hfil] at h14 hrow
  have sc2 : SC I I2 := hF2.mono (fun a h => by simp at h ⊢; omega) (fun a h => by simp at h ⊢; omega)
  have hM2 := hM.keep sc2
  refine cM_join hS hM2.1 hrc r hr hur (aH (vf A d)) (by omega) hx h14 hrow (fun I3 hF3 h14' hrow' => ⟨hS, ?_⟩) rfl
  have sc3 : SC I2 I3 := hF3.mono (fun a h => by simp at h ⊢; omega) (fun a h => by simp at h ⊢; omega)
  have hM3 := hM2.keep sc3
  have hil : (insL A d r).length = (aH (vf A d)).length + 1 := insA_len _ _ _ (ipos_le _ _ _)
  rw [← hil] at h14'
  refine cM_byteR hS hM3.1 d 1 hRd hd (by omega) ⟨hS, ?_⟩ rfl rfl
  rw [rv_1]
  refine cM_lst hS hM3 hB ho d hd rfl hRd hwd h14' hrow' (by omega) (fun I4 hF4 hM4 => ⟨hS, ?_⟩) rfl rfl
  have k4 : K85 I I4 := (sc2.k.tr sc3.k).tr (hF4.k (fun a ha => by simp; omega))
  have c4 : I4 85 0 = nI 0 := (hF4.2 0 (by decide)).trans ((hF3.2 0 (by decide)).trans ((hF2.2 0 (by decide)).trans h0))
  refine b1 (fun q => ?_) (fun q => ?_)
  · have := h I4 k4 hM4
    rw [q] at this
    exact this c4
  · simp (disch := omega) only [nI_lit, nI_ofInt1, nI_ofInt4, nI_ofInt2, nI_ofInt3, mI_neg, wI_I, wI_setI, wI_setR, forall_eq, nI_add, pk_mul, pk_sub, pk_div, pk_rem, nI_clamp, nI_leI, nI_ltI, nI_eq, vin_iff, nar0, nar1, nF_ap, bF_ap, oF_ap, bI_0, bI_1, and255, bu_w, bu_p, bu_90, bu_9, row_w, row_at, nF_up, nI_ofIntm]
    have := h (fx_w I4 85 0 (nI 1)) (k4.tr (sc0 I4 (nI 1)).k) (hM4.keep (sc0 I4 (nI 1)))
    rw [q] at this
    exact this rfl
theorem cM_mov166n {F : fx_S → Prop} (hS : shM S) {v1 v2 : Int32} (h : F (fx_wI S (fx_w I 85 0 (nI 1)))) :
    fx_Go G (6, 92) mm_M_move 166 [(0, fx_r G 85), (1, .int v1), (2, .int v2), (5, .int (bI false))] [] (fx_wI S I) (fx_qv F Q) := by
  refine bs_M_move_166 hS.w _ _ _ ?_
  refine ⟨fun _ => ⟨fun q => absurd rfl q, fun _ => ?_⟩, fun q => absurd rfl q⟩
  simp only [wI_setI, forall_eq]
  exact h
theorem rv_bfr (s : AS) (i : Nat) (h : 9 ≤ i) : rv s i = bfr s i := by
  unfold rv bfr
  by_cases h9 : i = 9
  · subst h9; rfl
  · rw [if_neg (by omega), if_neg (by omega), if_neg (by omega), if_neg (by omega), if_neg (by omega), if_neg (by omega), if_neg (by omega), if_neg (by omega)]
/-- the bytes of a record come into the buffer -/
theorem cM_mov84 {s : AS} {D : Nat → Nat} (hS : shM S) (r : Nat) (hR : Rec D r s) (hr : r < 12) {v2 v4 : Int32} (hD : I 86 = nF D) (h : ∀ b, (∀ i, i < 64 → b i = rv s i) → ∀ p, fx_Go G (6, 92) mm_M_move 84 [(0, fx_r G 85), (1, .int (nI r)), (2, .int v2), (4, .int v4), (5, .int (nI 64))] [] (fx_wI S (bufS I b p)) Q) : ∀ (n k p : Nat) (b : Nat → Nat) {v1 v5 : Int32}, k + n = 64 → (∀ i, i < k → b i = rv s i) → v1 = nI r → v5 = nI k →
    fx_Go G (6, 92) mm_M_move 84 [(0, fx_r G 85), (1, .int v1), (2, .int v2), (4, .int v4), (5, .int v5)] [] (fx_wI S (bufS I b p)) Q := by
  intro n
  induction n with
  | zero =>
    intro k p b v1 v5 hk hb e1 e5
    subst e1 e5
    have : k = 64 := by omega
    subst this
    exact h b hb p
  | succ n ih =>
    intro k p b v1 v5 hk hb e1 e5
    subst e1 e5
    refine bs_M_move_84 hS.w _ _ _ _ ?_
    refine pk_le 64 k (fun q => absurd q (by omega)) (fun _ => ?_) rfl rfl (by omega) (by omega)
    refine cM_byteR hS (I := bufS I b p) hD r k hR hr (by omega) ⟨hS, ?_⟩ rfl rfl
    simp (disch := omega) only [nI_lit, nI_ofInt1, nI_ofInt4, nI_ofInt2, nI_ofInt3, mI_neg, wI_I, wI_setI, wI_setR, forall_eq, nI_add, pk_mul, pk_sub, pk_div, pk_rem, nI_clamp, nI_leI, nI_ltI, nI_eq, vin_iff, nar0, nar1, nF_ap, bF_ap, oF_ap, bI_0, bI_1, and255, bu_w, bu_p, bu_90, bu_9, row_w, row_at, nF_up, nI_ofIntm]
    refine ⟨by omega, ih (k + 1) p _ (by omega) (fun i hi => ?_) rfl rfl⟩
    unfold up
    by_cases c : i = k
    · rw [if_pos c, c]
    · rw [if_neg c]; exact hb i (by omega)
theorem cM_mov (hS : shM S) {F : fx_S → Prop} (hM : MS I A) (hB : BI A) (ho : vo A = true) (hO : OI A) (r d : Nat) (hr : r < 12) (hr0 : r ≠ 0) (hu : vU A r = true) (hd : d < 12) (hud : vU A d = true) (hs : aS (vf A d) = 2) (hrd : d ≠ r) (h0 : I 85 0 = nI 0)
    (h1 : stOk (vt A) = false → ∀ I', K85 I I' → MS I' (stA A r (setP (vf A r) d)) → I' 85 0 = nI 1 → F (fx_wI S I'))
    (h2 : stOk (vt A) = true → stOk (vt A - 2) = false → ∀ I', K85 I I' → MS I' (lst (stA A r (setP (vf A r) d)) (aP (vf A r)) (outL (stA A r (setP (vf A r) d)) (aP (vf A r)) r)) → I' 85 0 = nI 1 → F (fx_wI S I'))
    (h3 : stOk (vt A) = true → stOk (vt A - 2) = true → ∀ I', K85 I I' → MS I' (let A2 := lst (stA A r (setP (vf A r) d)) (aP (vf A r)) (outL (stA A r (setP (vf A r) d)) (aP (vf A r)) r); lst A2 d (insL A2 d r)) → I' 85 0 = nI (if stOk (vt A - 2 - 2) = true then 0 else 1) → F (fx_wI S I')) :
    fx_Go G (6, 92) mm_M_move 84 [(0, fx_r G 85), (1, .int (nI r)), (2, .int (nI d)), (4, .int (nI (aP (vf A r)))), (5, .int (nI 0))] [] (fx_wI S I) (fx_qv F Q) := by
  obtain ⟨hR, hw⟩ := hO.rc r hr hu
  have hP := hO.2.2.2.2.1 r hr hu
  have hpb : aP (vf A r) < 12 := hw.2.1
  have hn := nN_lt hB.1 r
  have hwn : wf (setN (setP (vf A r) d) (nN (vD A) r)) := setP_wf hw hd hn
  have hal : (atA (setP (vf A r) d)).length ≤ 54 := hw.al
  have hs1 : aS (vf A r) ≠ 0 ∧ aS (vf A r) ≤ 2 := by have := hw.1; omega
  have hlb := hO.li hpb hP.1 hP.2
  have hlb11 := hO.l11 hpb hP.1 hP.2
  have hld := hO.li hd hud hs
  have hld11 := hO.l11 hd hud hs
  have hrb : aP (vf A r) ≠ r := by
    intro e
    have hlr := hO.2.2.2.2.2.1 r hr hu
    have : ∀ n, ¬ ldN (vU A) (vf A) n r := by
      intro n
      induction n with
      | zero => unfold ldN; exact hr0
      | succ n ih =>
        unfold ldN
        intro q
        rcases q with q | q
        · exact hr0 q
        · rw [e] at q; exact ih q.2.2
    exact this _ hlr
  obtain ⟨b, hb⟩ := nF_surj (I 90)
  obtain ⟨p, hp⟩ := nI_surj (I 85 9)
  rw [← bu_self hb hp]
  refine cM_mov84 hS r hR hr hM.1 (fun b hb p => ?_) 64 0 p b rfl (fun i hi => absurd hi (by omega)) rfl rfl
  refine bs_M_move_84 hS.w _ _ _ _ ?_
  refine pk_le 64 64 (fun _ => ?_) (fun q => absurd q (by omega)) rfl rfl (by omega) (by omega)
  simp (disch := omega) only [nI_lit, nI_ofInt1, nI_ofInt4, nI_ofInt2, nI_ofInt3, mI_neg, wI_I, wI_setI, wI_setR, forall_eq, nI_add, pk_mul, pk_sub, pk_div, pk_rem, nI_clamp, nI_leI, nI_ltI, nI_eq, vin_iff, nar0, nar1, nF_ap, bF_ap, oF_ap, bI_0, bI_1, and255, bu_w, bu_p, bu_90, bu_9, row_w, row_at, nF_up, nI_ofIntm]
  have e8 : up b 1 d 8 = (atA (vf A r)).length := by
    show b 8 = _
    rw [hb 8 (by omega)]; rfl
  rw [e8]
  refine ⟨by omega, by omega, ?_⟩
  refine cM_storeC hS (hM.mc ho) hB.1 hB.2.1 hM.2.2.2.2.1 (s := setP (vf A r) d) r hr hs1.2 hal (fun i hi hc => ?_) (fun I1 hF1 hM1 h41 => ⟨hS, ?_⟩) rfl rfl
  · unfold up
    by_cases c1 : i = 1
    · subst c1; rfl
    · rw [if_neg c1, hb i hi]
      by_cases c0 : i = 0
      · subst c0; rfl
      · rw [rv_bfr _ _ (by omega)]
        unfold bfr
        rw [if_neg c0, if_neg c1, if_neg c0, if_neg c1]
        rfl
  have hS1 : MS I1 (stA A r (setP (vf A r) d)) := hM.st (hM.u ho).1 (fun _ => rfl) hF1 hM1 h41
  have k1 : K85 I I1 := hF1.k (fun a ha => by simp; omega)
  have c1 : I1 85 0 = nI 0 := (hF1.2 0 (by decide)).trans h0
  refine b0 (fun hok => ?_) (fun hok => ?_)
  · have hz : stOk (vt A) = false := hok
    rw [hz]
    exact cM_mov166n hS (h1 hz _ (k1.tr (sc0 I1 (nI 1)).k) (hS1.keep (sc0 I1 (nI 1))) rfl)
  · have h2' := h2 hok
    have h3' := h3 hok
    have hrc1 := RecsA hO.rc (r := r) (s := setP (vf A r) d) hok (fun _ => hwn)
    have hB1 := hB.st r _ (enc_wf_lt hn hwn)
    have ho1 : vo (stA A r (setP (vf A r) d)) = true := by rw [stA_o ho]; exact hok
    have fb := stA_f (A := A) (s := setP (vf A r) d) hrb
    have fd := stA_f (A := A) (s := setP (vf A r) d) hrd
    have fr := stA_r (A := A) (r := r) (s := setP (vf A r) d)
    have ux : ∀ e, e < 12 → vU A e = true → vU (stA A r (setP (vf A r) d)) e = true := by
      intro e he hue
      by_cases c : e = r
      · rw [c, fr.2]; exact decide_eq_true hs1.1
      · rw [(stA_f c).2]; exact hue
    have hvt1 : vt (stA A r (setP (vf A r) d)) = vt A - 2 := rfl
    generalize hA1 : stA A r (setP (vf A r) d) = A1 at *
    obtain ⟨hRb, hwb⟩ := hrc1 _ hpb (ux _ hpb hP.1)
    rw [fb.1] at hRb hwb
    have hout : outL A1 (aP (vf A r)) r = (aH (vf A (aP (vf A r)))).filter (kp (nI r)) := by unfold outL; rw [fb.1]
    have hol : (outL A1 (aP (vf A r)) r).length ≤ 12 := by have := List.length_filter_le (kp (nI r)) (aH (vf A (aP (vf A r)))); rw [hout]; omega
    have hox : ∀ x ∈ outL A1 (aP (vf A r)) r, x < 12 := fun x hx => by rw [hout] at hx; exact ((hlb.2 x).mp (List.mem_filter.mp hx).1).2.1
    refine cM_takeList hS hS1.1 (aP (vf A r)) hRb hpb hwb (hwb.k4 hP.2) (by omega) (nI r) (fun I2 hF2 h14 hrow2 => ⟨hS, ?_⟩) rfl
    rw [← hout] at h14 hrow2
    have sc2 : SC I1 I2 := hF2.mono (fun a h => by simp at h ⊢; omega) (fun a h => by simp at h ⊢; omega)
    have hM2 := hS1.keep sc2
    refine cM_byteR hS hM2.1 (aP (vf A r)) 1 hRb hpb (by omega) ⟨hS, ?_⟩ rfl rfl
    rw [rv_1]
    refine cM_lst hS hM2 hB1 ho1 (aP (vf A r)) hpb fb.1 hRb hwb (ml := outL A1 (aP (vf A r)) r) h14 hrow2 hol (fun I3 hF3 hM3 => ⟨hS, ?_⟩) rfl rfl
    have k3 : K85 I I3 := (k1.tr sc2.k).tr (hF3.k (fun a ha => by simp; omega))
    have c3 : I3 85 0 = nI 0 := (hF3.2 0 (by decide)).trans ((hF2.2 0 (by decide)).trans c1)
    cases hok2 : stOk (vt A1) with
    | false =>
      rw [hvt1] at hok2
      exact cM_mov166n hS (h2' hok2 _ (k3.tr (sc0 I3 (nI 1)).k) (hM3.keep (sc0 I3 (nI 1))) rfl)
    | true =>
      have h3'' := h3' (by rw [← hvt1]; exact hok2)
      have hB2 : BI (lst A1 (aP (vf A r)) (outL A1 (aP (vf A r)) r)) := lst_lt hB1 (by rw [fb.1]; exact hwb) hol hox
      have hrc2 : Recs (vD (lst A1 (aP (vf A r)) (outL A1 (aP (vf A r)) r))) (vU (lst A1 (aP (vf A r)) (outL A1 (aP (vf A r)) r))) (vf (lst A1 (aP (vf A r)) (outL A1 (aP (vf A r)) r))) := lst_rc hB1 hrc1 hok2 (by rw [fb.1]; exact hwb) hol hox
      have ho2 : vo (lst A1 (aP (vf A r)) (outL A1 (aP (vf A r)) r)) = true := by unfold lst; rw [stA_o ho1]; exact hok2
      have hvt2 : vt (lst A1 (aP (vf A r)) (outL A1 (aP (vf A r)) r)) = vt A - 2 - 2 := by show vt A1 - 2 = _; rw [hvt1]
      have ux2 : ∀ e, e < 12 → vU A e = true → vU (lst A1 (aP (vf A r)) (outL A1 (aP (vf A r)) r)) e = true := by
        intro e he hue
        unfold lst
        by_cases c : e = aP (vf A r)
        · rw [c, stA_r.2]; rfl
        · rw [(stA_f c).2]; exact ux e he hue
      have hfd2 : aS (vf (lst A1 (aP (vf A r)) (outL A1 (aP (vf A r)) r)) d) = 2 ∧ ((aH (vf (lst A1 (aP (vf A r)) (outL A1 (aP (vf A r)) r)) d)).length ≤ 11 ∧ ∀ e ∈ aH (vf (lst A1 (aP (vf A r)) (outL A1 (aP (vf A r)) r)) d), e < 12 ∧ vU A e = true) := by
        by_cases c : d = aP (vf A r)
        · have e1 : vf (lst A1 (aP (vf A r)) (outL A1 (aP (vf A r)) r)) d = setN (sLi (vf A1 (aP (vf A r))) (outL A1 (aP (vf A r)) r)) (nN (vD A1) (aP (vf A r))) := by unfold lst; rw [c]; exact stA_r.1
          rw [e1]
          refine ⟨rfl, ?_, fun e he => ?_⟩
          · show (outL A1 (aP (vf A r)) r).length ≤ 11
            have := List.length_filter_le (kp (nI r)) (aH (vf A (aP (vf A r))))
            rw [hout]; omega
          · have he' : e ∈ outL A1 (aP (vf A r)) r := he
            rw [hout] at he'
            have := (hlb.2 e).mp (List.mem_filter.mp he').1
            exact ⟨this.2.1, this.2.2.1⟩
        · have e1 : vf (lst A1 (aP (vf A r)) (outL A1 (aP (vf A r)) r)) d = vf A d := by unfold lst; rw [(stA_f c).1, fd.1]
          rw [e1]
          exact ⟨hs, hld11, fun e he => by have := (hld.2 e).mp he; exact ⟨this.2.1, this.2.2.1⟩⟩
      generalize lst A1 (aP (vf A r)) (outL A1 (aP (vf A r)) r) = A2 at *
      refine cM_mov166 hS hM3 hB2 ho2 hrc2 d r hd (ux2 d hd hud) hfd2.1 hr (ux2 r hr hu) hfd2.2.1 (fun e he => ⟨(hfd2.2.2 e he).1, ux2 e (hfd2.2.2 e he).1 (hfd2.2.2 e he).2⟩) c3 (fun I4 k4 m4 c4 => ?_)
      rw [hvt2] at c4
      exact h3'' I4 (k3.tr k4) m4 c4
theorem isB_self (f : Nat → AS) (r n : Nat) : isB f r n r = true := by
  cases n with
  | zero => unfold isB; simp
  | succ n => unfold isB; rw [if_pos rfl]
theorem cM_move (hS : shM S) {F : fx_S → Prop} (hM0 : MS I A) (hB : BI A) (hO : vo A = true → OI A) (v1 v2 : Int32) (h' : ∀ I', K85 I I' → MS I' (sMov A v1 v2).2 → I' 85 0 = nI (sMov A v1 v2).1 → F (fx_wI S I')) :
    fx_Go G (6, 92) mm_M_move 0 [(0, fx_r G 85), (1, .int v1), (2, .int v2)] [] (fx_wI S I) (fx_qv F Q) := by
  refine bs_M_move_0 hS.w _ _ ?_
  simp only [wI_setI, forall_eq, wI_I]
  have hM := hM0.keep (sc0 I (nI 0))
  have h : ∀ I', K85 (fx_w I 85 0 (nI 0)) I' → MS I' (sMov A v1 v2).2 → I' 85 0 = nI (sMov A v1 v2).1 → F (fx_wI S I') := fun I' k => h' I' ((sc0 I (nI 0)).k.tr k)
  have h0 : fx_w I 85 0 (nI 0) 85 0 = nI 0 := rfl
  rw [show (0 : Int32) = nI 0 from rfl]
  generalize fx_w I 85 0 (nI 0) = J at *
  clear h' hM0
  unfold sMov at h
  rw [hM.2.2.2.2.1]
  refine b1 (fun ho => ?_) (fun ho => ?_)
  · rw [if_neg (by rw [ho]; decide)] at h
    have bad : ¬ (us A v1 = true ∧ v1 ≠ nI 0 ∧ uk A v2 2 = true ∧ isB (vf A) v1.toNatClampNeg 12 v2.toNatClampNeg = false ∧ hnN (vf A) v1.toNatClampNeg (aH (vf A v2.toNatClampNeg)) = false) → F (fx_wI S (fx_w J 85 0 (nI 2))) := by
      intro z
      rw [if_neg z] at h
      exact h _ (sc0 J _).k (hM.keep (sc0 J _)) rfl
    have no44 : ¬ (us A v1 = true ∧ v1 ≠ nI 0 ∧ uk A v2 2 = true) → fx_Go G (6, 92) mm_M_move 44 [(0, fx_r G 85), (1, .int v1), (2, .int v2)] [.int (nI 0)] (fx_wI S J) (fx_qv F Q) := by
      intro z
      refine bs_M_move_44 hS.w _ _ _ ?_
      simp only [wI_setI, forall_eq, wI_I]
      exact ⟨fun _ => bad (fun y => z ⟨y.1, y.2.1, y.2.2.1⟩), fun q => absurd rfl q⟩
    refine cM_us hS hM v1 ⟨hS, ?_⟩
    refine b0 (fun q => no44 (fun z => by rw [q] at z; exact absurd z.1 (by decide))) (fun q => ?_)
    refine ⟨fun q0 => no44 (fun z => z.2.1 q0), fun q0 => ?_⟩
    refine cM_uk hS hM hB hO v2 2 (by omega) ⟨hS, ?_⟩ rfl
    refine b0 (fun q2 => no44 (fun z => by rw [q2] at z; exact absurd z.2.2 (by decide))) (fun q2 => ?_)
    obtain ⟨r, hr, e, hu, _, er⟩ := us_j q
    obtain ⟨d, hd, e2, hud, _, ed, hs⟩ := uk_j q2
    obtain ⟨hR, hw⟩ := (hO ho).rc r hr hu
    obtain ⟨hRd, hwd⟩ := (hO ho).rc d hd hud
    rw [er, ed] at h bad
    have hr0 : r ≠ 0 := fun z => q0 (by rw [e, z])
    refine bs_M_move_44 hS.w _ _ _ ?_
    simp only [wI_setI, forall_eq, wI_I]
    refine ⟨fun z => absurd z (by decide), fun _ => ?_⟩
    have hpw := hw.2.1
    refine cM_isBelow hS hM.1 (hO ho).rc r hr 12 d ((hO ho).2.2.2.2.2.1 d hd hud) ⟨hS, ?_⟩ e2 e
    refine b1 (fun q3 => ?_) (fun q3 => ?_)
    · refine bad (fun z => ?_)
      rw [q3] at z
      exact absurd z.2.2.2.1 (by decide)
    · have hxl : ∀ x ∈ aH (vf A d), x < 12 ∧ vU A x = true := fun x hx => by
        have := (((hO ho).li hd hud hs).2 x).mp hx
        exact ⟨this.2.1, this.2.2.1⟩
      refine cM_hasName hS hM.1 (hO ho).rc d r hr hu hRd hd hwd (hwd.k4 hs) hxl ⟨hS, ?_⟩ e2 e
      refine b0 (fun q4 => ?_) (fun q4 => ?_)
      · rw [if_pos ⟨q, q0, q2, q3, q4⟩] at h
        simp only at h
        have hrd : d ≠ r := fun z => by rw [z, isB_self] at q3; cases q3
        refine cM_byteR hS hM.1 r 1 hR hr (by omega) ⟨hS, ?_⟩ e rfl
        rw [rv_1, e, e2]
        refine cM_mov hS hM hB ho (hO ho) r d hr hr0 hu hd hud hs hrd h0 (fun hk => ?_) (fun hk hk2 => ?_) (fun hk hk2 => ?_)
        · rw [if_pos hk] at h; exact h
        · rw [if_neg (by rw [hk]; decide), if_pos (show stOk (vt (stA A r (setP (vf A r) d))) = false from hk2)] at h; exact h
        · rw [if_neg (by rw [hk]; decide), if_neg (show ¬ stOk (vt (stA A r (setP (vf A r) d))) = false by show ¬ stOk (vt A - 2) = false; rw [hk2]; decide)] at h
          intro I' k m c
          by_cases hk3 : stOk (vt A - 2 - 2) = true
          · rw [if_neg (show ¬ stOk (vt (lst (stA A r (setP (vf A r) d)) (aP (vf A r)) (outL (stA A r (setP (vf A r) d)) (aP (vf A r)) r))) = false by show ¬ stOk (vt A - 2 - 2) = false; rw [hk3]; decide)] at h
            rw [if_pos hk3] at c
            exact h I' k m c
          · have hk4 : stOk (vt A - 2 - 2) = false := by simpa using hk3
            rw [if_pos (show stOk (vt (lst (stA A r (setP (vf A r) d)) (aP (vf A r)) (outL (stA A r (setP (vf A r) d)) (aP (vf A r)) r))) = false from hk4)] at h
            rw [if_neg hk3] at c
            exact h I' k m c
      · refine bad (fun z => ?_)
        rw [q4] at z
        exact absurd z.2.2.2.2 (by decide)
  · rw [if_pos ho] at h
    exact h _ (sc0 J _).k (hM.keep (sc0 J _)) rfl
end MREM
