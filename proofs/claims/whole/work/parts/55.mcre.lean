/-! The reference's create and remove. -/
def lst (A : VS) (d : Nat) (ml : List Nat) : VS := stA A d (sLi (vf A d) ml)
def insL (A : VS) (d r : Nat) : List Nat := insA (aH (vf A d)) (ipos (gtN (vf A) r) (aH (vf A d)) (aH (vf A d)).length) r
def sMk (A : VS) (v : Int32) (isF : Bool) : Nat × Int32 × VS :=
  if vo A = false then (1, nI 0, A)
  else if uk A v 2 = true ∧ (vl A).length ≠ 0 ∧ fdN (vf A) (vl A) (aH (vf A v.toNatClampNeg)) = mI then
    (match lowF (vU A) 12 0 with
      | none => (3, nI 0, A)
      | some r => let A1 := stA A r (newS isF v.toNatClampNeg (vl A))
        if stOk (vt A) = false then (1, nI 0, A1)
        else let A2 := lst A1 v.toNatClampNeg (insL A1 v.toNatClampNeg r)
          if stOk (vt A1) = false then (1, nI 0, A2) else (0, nI r, A2))
  else (2, nI 0, A)
theorem bu_j (I : Nat → Nat → Int32) (b : Nat → Nat) (p j : Nat) (x : Int32) (h : j ≠ 9) : fx_w (bufS I b p) 85 j x = bufS (fx_w I 85 j x) b p := by
  funext c i
  by_cases h5 : c = 85
  · subst h5
    by_cases hj : i = 9
    · subst hj
      simp [bufS, fx_w, fx_row, upd, Ne.symm h]
    · by_cases hij : i = j
      · subst hij; simp [bufS, fx_w, fx_row, upd, hj]
      · simp [bufS, fx_w, fx_row, upd, hj, hij]
  · by_cases h9 : c = 90
    · subst h9; simp [bufS, fx_w, fx_row]
    · simp [bufS, fx_w, fx_row, h5, h9]
theorem BI.st {A : VS} (h : BI A) (r : Nat) (s : AS) (hs : ∀ k, encB s (nN (vD A) r) k < 256) : BI (stA A r s) := ⟨fun k => st_lt h.1 hs k, by have := h.2.1; show vt A - 2 ≤ 20; omega, h.2.2.1, h.2.2.2⟩
theorem RecsA {A : VS} (h : Recs (vD A) (vU A) (vf A)) {r : Nat} {s : AS} (hok : stOk (vt A) = true) (hw : aS s ≠ 0 → wf (setN s (nN (vD A) r))) : Recs (vD (stA A r s)) (vU (stA A r s)) (vf (stA A r s)) := by
  have := h.st r s (nN (vD A) r) hw
  rw [← stD_ok hok (vD A) r (encB s (nN (vD A) r))] at this
  exact this
theorem stA_o {A : VS} {r : Nat} {s : AS} (ho : vo A = true) : vo (stA A r s) = stOk (vt A) := by
  show (vo A && stOk (vt A)) = _
  rw [ho]; rfl
theorem stA_f {A : VS} {r : Nat} {s : AS} {e : Nat} (h : e ≠ r) : vf (stA A r s) e = vf A e ∧ vU (stA A r s) e = vU A e := by
  constructor
  · show up _ _ _ e = _
    unfold up; rw [if_neg h]
  · show up _ _ _ e = _
    unfold up; rw [if_neg h]
theorem stA_r {A : VS} {r : Nat} {s : AS} : vf (stA A r s) r = setN s (nN (vD A) r) ∧ vU (stA A r s) r = decide (aS s ≠ 0) := by
  constructor
  · show up _ _ _ r = _
    unfold up; rw [if_pos rfl]
  · show up _ _ _ r = _
    unfold up; rw [if_pos rfl]
theorem fdN_c {f : Nat → AS} {dl : List Nat} : ∀ (l : List Nat), (∀ e ∈ l, e < 12) → fdN f dl l = mI ∨ ∃ e, e < 12 ∧ fdN f dl l = nI e
  | [], _ => Or.inl rfl
  | e :: t, h => by
    unfold fdN
    split
    · exact Or.inr ⟨e, h e (List.mem_cons_self ..), rfl⟩
    · exact fdN_c t (fun x hx => h x (List.mem_cons_of_mem _ hx))
theorem kp_m {e : Nat} (h : e < 12) : kp mI e = true := by
  unfold kp
  simp only [Bool.not_eq_true', decide_eq_false_iff_not]
  exact fun q => mI_ne e (by omega) q.symm
theorem lowF_T (T : Nat → Bool) : ∀ (n c e : Nat), lowF T n c = some e → c ≤ e ∧ e < c + n ∧ T e = false
  | 0, _, _, h => by simp [lowF] at h
  | n + 1, c, e, h => by
    unfold lowF at h
    by_cases hT : T c = false
    · rw [if_pos hT] at h
      cases h
      exact ⟨Nat.le_refl _, by omega, hT⟩
    · rw [if_neg hT] at h
      have := lowF_T T n (c + 1) e h
      exact ⟨by omega, by omega, this.2.2⟩
theorem Fr.k {cs js : List Nat} {I I' : Nat → Nat → Int32} (h : Fr cs js I I') (hc : ∀ a, a < 85 → a ∉ cs) : K85 I I' := fun a ha => h.1 a (by omega) (hc a ha)
section MCRE
variable {G : fx_G} {S : fx_S} {I : Nat → Nat → Int32} {Q : fx_R → fx_S → Prop} {F : Int32 → fx_S → Prop} {A : VS}
theorem cM_refuse (hS : shM S) {v1 : Int32} (k : Nat) (h : F (nI 0) (fx_wI S (fx_w I 85 0 (nI k)))) (e1 : v1 = nI k) : fx_Go G (0, 0) mm_M_refuse 0 [(0, fx_r G 85), (1, .int v1)] [] (fx_wI S I) (fx_qi F Q) := by
  subst e1
  refine bs_M_refuse_0 hS.w _ ?_
  simp (disch := omega) only [nI_lit, nI_ofInt1, nI_ofInt4, nI_ofInt2, nI_ofInt3, mI_neg, wI_I, wI_setI, wI_setR, forall_eq, nI_add, pk_mul, pk_sub, pk_div, pk_rem, nI_clamp, nI_leI, nI_ltI, nI_eq, vin_iff, nar0, nar1, nF_ap, bF_ap, oF_ap, bI_0, bI_1, and255, bu_w, bu_p, bu_90, bu_9, row_w, row_at, nF_up, nI_ofIntm]
  exact h
theorem cM_mk123 (hS : shM S) {J : Nat → Nat → Int32} (hM : MS J A) (hB : BI A) (ho : vo A = true) (hO : OI A) (isF : Bool) (d r : Nat) (hd : d < 12) (hu : vU A d = true) (hs : aS (vf A d) = 2) (hr : r < 12) (hur : vU A r = false) {b : Nat → Nat} (hb : ∀ i, i < 64 → b i = bfr (newS isF d (vl A)) i) {p : Nat} (hp : p = 10 + (atA (newS isF d (vl A))).length)
    (h0 : J 85 0 = nI 0)
    (h1 : stOk (vt A) = false → ∀ I', K85 J I' → MS I' (stA A r (newS isF d (vl A))) → I' 85 0 = nI 1 → F (nI 0) (fx_wI S I'))
    (h2 : stOk (vt A) = true → let A1 := stA A r (newS isF d (vl A)); let A2 := lst A1 d (insL A1 d r); ∀ I', K85 J I' → MS I' A2 → I' 85 0 = nI (if stOk (vt A1) = true then 0 else 1) → F (if stOk (vt A1) = true then nI r else nI 0) (fx_wI S I')) :
    fx_Go G (6, 90) mm_M_makeRecord 123 [(0, fx_r G 85), (1, .int (nI d)), (3, .int (nI r))] [] (fx_wI S (bufS J b p)) (fx_qi F Q) := by
  have hn := nN_lt hB.1 r
  have hwn : wf (setN (newS isF d (vl A)) (nN (vD A) r)) := newS_wf isF hd hn hB.2.2.1 hB.2.2.2
  have hal : (atA (newS isF d (vl A))).length ≤ 54 := hwn.al
  have hsn : aS (newS isF d (vl A)) ≠ 0 := by cases isF <;> (intro q; cases q)
  have hsn2 : aS (newS isF d (vl A)) ≤ 2 := by cases isF <;> (unfold newS aS; simp)
  refine bs_M_makeRecord_123 hS.w _ _ ?_
  refine cM_storeC hS (hM.mc ho) hB.1 hB.2.1 hM.2.2.2.2.1 r hr hsn2 hal (fun i hi _ => hb i hi) (fun I1 hF1 hM1 h41 => ⟨hS, ?_⟩) rfl hp
  have hS1 : MS I1 (stA A r (newS isF d (vl A))) := hM.st (hM.u ho).1 (fun _ => rfl) hF1 hM1 h41
  have k1 : K85 J I1 := hF1.k (fun a ha => by simp; omega)
  have c1 : I1 85 0 = nI 0 := (hF1.2 0 (by decide)).trans h0
  refine b1 (fun hok => ?_) (fun hok => ?_)
  · have h2' := h2 hok
    have hrc := RecsA hO.rc (r := r) (s := newS isF d (vl A)) hok (fun _ => hwn)
    have hB1 := hB.st r _ (enc_wf_lt hn hwn)
    have ho1 : vo (stA A r (newS isF d (vl A))) = true := by rw [stA_o ho]; exact hok
    have hdr : d ≠ r := fun e => by rw [e, hur] at hu; cases hu
    have hfd := (stA_f (A := A) (s := newS isF d (vl A)) hdr).1
    have hud : vU (stA A r (newS isF d (vl A))) d = true := (stA_f hdr).2.trans hu
    have hur1 : vU (stA A r (newS isF d (vl A))) r = true := stA_r.2.trans (decide_eq_true hsn)
    have hlist := hO.li hd hu hs
    have hl11 := hO.l11 hd hu hs
    have hx1 : ∀ e ∈ aH (vf A d), e < 12 ∧ vU (stA A r (newS isF d (vl A))) e = true := by
      intro e he
      have := (hlist.2 e).mp he
      have her : e ≠ r := fun q => by rw [q, hur] at this; exact absurd this.2.2.1 (by decide)
      exact ⟨this.2.1, (stA_f her).2.trans this.2.2.1⟩
    generalize hA1 : stA A r (newS isF d (vl A)) = A1 at *
    obtain ⟨hRd, hwd⟩ := hrc d hd hud
    rw [hfd] at hRd hwd
    have hk4 := hwd.k4 hs
    have hfil : (aH (vf A d)).filter (kp mI) = aH (vf A d) := List.filter_eq_self.mpr (fun e he => kp_m (hx1 e he).1)
    refine cM_takeList hS hS1.1 d hRd hd hwd hk4 (by omega) mI (fun I2 hF2 h14 hrow => ⟨hS, ?_⟩) rfl
    rw [hfil] at h14 hrow
    have hsc2 : SC I1 I2 := hF2.mono (fun a h => by simp at h ⊢; omega) (fun a h => by simp at h ⊢; omega)
    have hS2 := hS1.keep hsc2
    refine cM_join hS hS2.1 hrc r hr hur1 (aH (vf A d)) (by omega) hx1 h14 hrow (fun I3 hF3 h14' hrow' => ⟨hS, ?_⟩) rfl
    have hsc3 : SC I2 I3 := hF3.mono (fun a h => by simp at h ⊢; omega) (fun a h => by simp at h ⊢; omega)
    have hS3 := hS2.keep hsc3
    have hins : insL A1 d r = insA (aH (vf A d)) (ipos (gtN (vf A1) r) (aH (vf A d)) (aH (vf A d)).length) r := by unfold insL; rw [hfd]
    rw [← hins] at hrow'
    have hil : (insL A1 d r).length = (aH (vf A d)).length + 1 := by rw [hins]; exact insA_len _ _ _ (ipos_le _ _ _)
    rw [← hil] at h14'
    refine cM_byteR hS hS3.1 d 1 hRd hd (by omega) ⟨hS, ?_⟩ rfl rfl
    rw [rv_1]
    refine cM_storeList hS (hS3.mc ho1) hB1.1 hB1.2.1 hS3.2.2.2.2.1 d hRd hd hwd h14' hrow' (by omega) (fun I4 hF4 hM4 h44 => ⟨hS, ?_⟩) rfl rfl
    have hS4 : MS I4 (lst A1 d (insL A1 d r)) := by
      refine MS.st (s := sLi (vf A1 d) (insL A1 d r)) hS3 (hS3.u ho1).1 (fun _ => rfl) hF4 ?_ h44
      rw [hfd]
      exact hM4
    have k4 : K85 J I4 := ((k1.tr hsc2.k).tr hsc3.k).tr (hF4.k (fun a ha => by simp; omega))
    have c4 : I4 85 0 = nI 0 := (hF4.2 0 (by decide)).trans ((hF3.2 0 (by decide)).trans ((hF2.2 0 (by decide)).trans c1))
    refine b0 (fun q => ?_) (fun q => ?_)
    · refine cM_refuse hS 1 ⟨hS, ?_⟩ rfl
      have := h2' (fx_w I4 85 0 (nI 1)) (k4.tr (sc0 I4 (nI 1)).k) (hS4.keep (sc0 I4 (nI 1)))
      rw [q] at this
      exact this rfl
    · have := h2' I4 k4 hS4
      rw [q] at this
      exact this c4
  · refine cM_refuse hS 1 ⟨hS, ?_⟩ rfl
    exact h1 hok _ (k1.tr (sc0 I1 (nI 1)).k) (hS1.keep (sc0 I1 (nI 1))) rfl
theorem cM_mk51 (hS : shM S) (hM : MS I A) (hB : BI A) (ho : vo A = true) (hO : OI A) (isF : Bool) (d : Nat) (hd : d < 12) (hu : vU A d = true) (hs : aS (vf A d) = 2) (hl0 : (vl A).length ≠ 0) (h0 : I 85 0 = nI 0) : ∀ (n c : Nat) {v1 v2 v3 : Int32}, c + n = 12 →
    (lowF (vU A) n c = none → ∀ I', K85 I I' → MS I' A → I' 85 0 = nI 3 → F (nI 0) (fx_wI S I')) →
    (∀ r, lowF (vU A) n c = some r → stOk (vt A) = false → ∀ I', K85 I I' → MS I' (stA A r (newS isF d (vl A))) → I' 85 0 = nI 1 → F (nI 0) (fx_wI S I')) →
    (∀ r, lowF (vU A) n c = some r → stOk (vt A) = true → let A1 := stA A r (newS isF d (vl A)); let A2 := lst A1 d (insL A1 d r); ∀ I', K85 I I' → MS I' A2 → I' 85 0 = nI (if stOk (vt A1) = true then 0 else 1) → F (if stOk (vt A1) = true then nI r else nI 0) (fx_wI S I')) →
    v1 = nI d → v2 = bI isF → v3 = nI c → fx_Go G (6, 90) mm_M_makeRecord 51 [(0, fx_r G 85), (1, .int v1), (2, .int v2), (3, .int v3)] [] (fx_wI S I) (fx_qi F Q) := by
  have hU := (hM.u ho).1
  have hN := nmA_len (vl A)
  have hl8 := hB.2.2.1
  have hN10 : (nmA (vl A)).length ≤ 10 := by rw [hN]; split <;> omega
  intro n
  induction n with
  | zero =>
    intro c v1 v2 v3 hc hn h1 h2 e1 e2 e3
    subst e1 e2 e3
    refine bs_M_makeRecord_51 hS.w _ _ _ ?_
    have e : c = 12 := by omega
    subst e
    simp (disch := omega) only [nI_lit, nI_ofInt1, nI_ofInt4, nI_ofInt2, nI_ofInt3, mI_neg, wI_I, wI_setI, wI_setR, forall_eq, nI_add, pk_mul, pk_sub, pk_div, pk_rem, nI_clamp, nI_leI, nI_ltI, nI_eq, vin_iff, nar0, nar1, nF_ap, bF_ap, oF_ap, bI_0, bI_1, and255, bu_w, bu_p, bu_90, bu_9, row_w, row_at, nF_up, nI_ofIntm, hU]
    refine ⟨fun _ => ⟨fun q => absurd trivial q, fun _ => ?_⟩, fun q => absurd (Nat.le_refl _) q⟩
    exact cM_refuse hS 3 ⟨hS, hn rfl _ (sc0 I (nI 3)).k (hM.keep (sc0 I (nI 3))) rfl⟩ rfl
  | succ n ih =>
    intro c v1 v2 v3 hc hn h1 h2 e1 e2 e3
    subst e1 e2 e3
    unfold lowF at hn h1 h2
    have go94 : vU A c = false → ∀ z0 : Nat, z0 = aS (newS isF d (vl A)) → fx_Go G (6, 90) mm_M_makeRecord 94 [(0, fx_r G 85), (1, .int (nI d)), (2, .int (bI isF)), (3, .int (nI c))] [.int (nI z0), fx_r G 85] (fx_wI S I) (fx_qi F Q) := by
      intro hT z0 hz
      rw [if_pos hT] at hn h1 h2
      have h1' := h1 c rfl
      have h2' := h2 c rfl
      refine bs_M_makeRecord_94 hS.w _ _ _ _ ?_
      refine cM_begin hS z0 d (fun b hb => ⟨hS, ?_⟩) rfl rfl
      refine cM_putDraft hS hM.2.2.1 hM.2.2.2.1 hl8 hl0 (by omega) ⟨hS, ?_⟩
      simp (disch := omega) only [nI_lit, nI_ofInt1, nI_ofInt4, nI_ofInt2, nI_ofInt3, mI_neg, wI_I, wI_setI, wI_setR, forall_eq, nI_add, pk_mul, pk_sub, pk_div, pk_rem, nI_clamp, nI_leI, nI_ltI, nI_eq, vin_iff, nar0, nar1, nF_ap, bF_ap, oF_ap, bI_0, bI_1, and255, bu_w, bu_p, bu_90, bu_9, row_w, row_at, nF_up, nI_ofIntm]
      rw [bu_j _ _ _ _ _ (by decide)]
      have hsc : SC I (fx_w I 85 14 (nI 0)) := Fr.w5 _ _ _ _ _ (by decide)
      have hMJ := hM.keep hsc
      have hbf : ∀ l, atA (newS isF d (vl A)) = nmA (vl A) ++ l → ∀ i, i < 64 → putL (putL b 10 (nmA (vl A))) (10 + (nmA (vl A)).length) l i = bfr (newS isF d (vl A)) i := by
        intro l hl i hi
        rw [putL_app, ← hl]
        refine putL_bfr (s := newS isF d (vl A)) (fun i hi => ?_) i hi
        rw [hb i hi, hz]
        rfl
      refine ⟨fun q => ?_, fun q => ?_⟩
      · subst q
        refine cM_putList hS (I := fx_w I 85 14 (nI 0)) (ml := []) rfl (fun k hk => absurd hk (Nat.not_lt_zero _)) (by simp) (by omega) ⟨hS, ?_⟩
        exact cM_mk123 hS hMJ hB ho hO false d c hd hu hs (by omega) hT (hbf _ rfl) (by rw [show (atA (newS false d (vl A))).length = (nmA (vl A)).length + 2 by rw [atA_len]; rfl]; simp; omega) h0 (fun hk I' kk => h1' hk I' (hsc.k.tr kk)) (fun hk I' kk => h2' hk I' (hsc.k.tr kk))
      · have q' : isF = true := by simpa using q
        subst q'
        refine cM_putInside hS (I := fx_w I 85 14 (nI 0)) (bl := []) (fun k hk => absurd hk (Nat.not_lt_zero _)) (by simp) (by omega) ⟨hS, ?_⟩ rfl
        exact cM_mk123 hS hMJ hB ho hO true d c hd hu hs (by omega) hT (hbf _ rfl) (by rw [show (atA (newS true d (vl A))).length = (nmA (vl A)).length + 2 by rw [atA_len]; rfl]; simp; omega) h0 (fun hk I' kk => h1' hk I' (hsc.k.tr kk)) (fun hk I' kk => h2' hk I' (hsc.k.tr kk))
    refine bs_M_makeRecord_51 hS.w _ _ _ ?_
    simp (disch := omega) only [nI_lit, nI_ofInt1, nI_ofInt4, nI_ofInt2, nI_ofInt3, mI_neg, wI_I, wI_setI, wI_setR, forall_eq, nI_add, pk_mul, pk_sub, pk_div, pk_rem, nI_clamp, nI_leI, nI_ltI, nI_eq, vin_iff, nar0, nar1, nF_ap, bF_ap, oF_ap, bI_0, bI_1, and255, bu_w, bu_p, bu_90, bu_9, row_w, row_at, nF_up, nI_ofIntm, hU]
    refine ⟨fun q => absurd q (by omega), fun _ => ⟨by omega, fun hT => ⟨fun _ => ⟨fun q => ?_, fun q => ?_⟩, fun q => absurd q (by omega)⟩, fun hT => ?_⟩⟩
    · exact go94 hT 2 (by rw [q]; rfl)
    · exact go94 hT 1 (by rw [show isF = true by simpa using q]; rfl)
    · rw [if_neg hT] at hn h1 h2
      exact ih (c + 1) (by omega) hn h1 h2 rfl rfl rfl
theorem cM_makeRecord (hS : shM S) (hM : MS I A) (hB : BI A) (hO : vo A = true → OI A) (v1 : Int32) (isF : Bool) {v2 : Int32} (h0 : I 85 0 = nI 0) (h : ∀ I', K85 I I' → MS I' (sMk A v1 isF).2.2 → I' 85 0 = nI (sMk A v1 isF).1 → F (sMk A v1 isF).2.1 (fx_wI S I')) (e2 : v2 = bI isF) :
    fx_Go G (6, 90) mm_M_makeRecord 0 [(0, fx_r G 85), (1, .int v1), (2, .int v2)] [] (fx_wI S I) (fx_qi F Q) := by
  subst e2
  unfold sMk at h
  have hl8 := hB.2.2.1
  have rf : ∀ k, ∀ J, SC I J → SC I (fx_w J 85 0 (nI k)) := fun k J hJ => hJ.tr (sc0 J (nI k))
  refine bs_M_makeRecord_0 hS.w _ _ ?_
  simp only [wI_I, hM.2.2.2.2.1]
  refine b1 (fun ho => ?_) (fun ho => ?_)
  · rw [if_neg (by rw [ho]; decide)] at h
    refine cM_uk hS hM hB hO v1 2 (by omega) ⟨hS, ?_⟩ rfl
    refine b0 (fun q => ?_) (fun q => ?_)
    · rw [if_neg (fun z => by rw [q] at z; exact absurd z.1 (by decide))] at h
      exact cM_refuse hS 2 ⟨hS, h _ (sc0 I _).k (hM.keep (sc0 I _)) rfl⟩ rfl
    · obtain ⟨j, hj, e, hu, _, ej, hs⟩ := uk_j q
      obtain ⟨hR, hw⟩ := (hO ho).rc j hj hu
      rw [ej] at h
      subst e
      simp (disch := omega) only [nI_lit, nI_ofInt1, nI_ofInt4, nI_ofInt2, nI_ofInt3, mI_neg, wI_I, wI_setI, wI_setR, forall_eq, nI_add, pk_mul, pk_sub, pk_div, pk_rem, nI_clamp, nI_leI, nI_ltI, nI_eq, vin_iff, nar0, nar1, nF_ap, bF_ap, oF_ap, bI_0, bI_1, and255, bu_w, bu_p, bu_90, bu_9, row_w, row_at, nF_up, nI_ofIntm, hM.2.2.1]
      refine ⟨fun q2 => ?_, fun q2 => ?_⟩
      · have hxl : ∀ x ∈ aH (vf A j), x < 12 ∧ vU A x = true := fun x hx => by
          have := (((hO ho).li hj hu hs).2 x).mp hx
          exact ⟨this.2.1, this.2.2.1⟩
        refine cM_findDraft hS hM.1 (hO ho).rc hM.2.2.1 hM.2.2.2.1 hl8 (fun x hx => by have := hB.2.2.2 x hx; omega) j hR hj hw (hw.k4 hs) hxl ⟨hS, ?_⟩ rfl
        rcases fdN_c (f := vf A) (dl := vl A) (aH (vf A j)) (fun x hx => (hxl x hx).1) with c | ⟨x, hx, c⟩
        · rw [c]
          rw [if_pos ⟨q, q2, c⟩] at h
          refine ⟨fun _ => ?_, fun z => absurd mI_l0 z⟩
          refine cM_mk51 hS hM hB ho (hO ho) isF j hj hu hs q2 h0 12 0 rfl (fun hn => ?_) (fun r hn hk => ?_) (fun r hn hk => ?_) rfl rfl rfl
          · rw [hn] at h; exact h
          · rw [hn] at h
            simp only at h
            rw [if_pos hk] at h
            exact h
          · rw [hn] at h
            simp only at h
            rw [if_neg (by rw [hk]; decide)] at h
            intro A1 A2 I' k1 m1 c1
            by_cases hk2 : stOk (vt A1) = true
            · rw [if_neg (by show ¬ stOk (vt A1) = false; rw [hk2]; decide)] at h
              rw [if_pos hk2] at c1 ⊢
              exact h I' k1 m1 c1
            · have hk3 : stOk (vt A1) = false := by simpa using hk2
              rw [if_pos (show stOk (vt A1) = false from hk3)] at h
              rw [if_neg hk2] at c1 ⊢
              exact h I' k1 m1 c1
        · rw [c]
          rw [if_neg (fun z => by rw [c] at z; exact mI_ne x (by omega) z.2.2.symm)] at h
          refine ⟨fun z => absurd z (nI_pos (by omega)), fun _ => ?_⟩
          exact cM_refuse hS 2 ⟨hS, h _ (sc0 I _).k (hM.keep (sc0 I _)) rfl⟩ rfl
      · rw [if_neg (fun z => z.2.1 q2)] at h
        exact cM_refuse hS 2 ⟨hS, h _ (sc0 I _).k (hM.keep (sc0 I _)) rfl⟩ rfl
  · rw [if_pos ho] at h
    exact cM_refuse hS 1 ⟨hS, h _ (sc0 I _).k (hM.keep (sc0 I _)) rfl⟩ rfl
/-- create -/
def sCre (A : VS) (v : Int32) (isF : Bool) : Nat × Int32 × VS := ((sMk A v isF).1, (sMk A v isF).2.1, clr (sMk A v isF).2.2)
theorem cM_create (hS : shM S) (hM : MS I A) (hB : BI A) (hO : vo A = true → OI A) (v1 : Int32) (isF : Bool) {v2 : Int32} (h : ∀ I', K85 I I' → MS I' (sCre A v1 isF).2.2 → I' 85 0 = nI (sCre A v1 isF).1 → F (sCre A v1 isF).2.1 (fx_wI S I')) (e2 : v2 = bI isF) :
    fx_Go G (7, 105) mm_M_create 0 [(0, fx_r G 85), (1, .int v1), (2, .int v2)] [] (fx_wI S I) (fx_qi F Q) := by
  refine bs_M_create_0 hS.w _ _ ?_
  simp (disch := omega) only [nI_lit, nI_ofInt1, nI_ofInt4, nI_ofInt2, nI_ofInt3, mI_neg, wI_I, wI_setI, wI_setR, forall_eq, nI_add, pk_mul, pk_sub, pk_div, pk_rem, nI_clamp, nI_leI, nI_ltI, nI_eq, vin_iff, nar0, nar1, nF_ap, bF_ap, oF_ap, bI_0, bI_1, and255, bu_w, bu_p, bu_90, bu_9, row_w, row_at, nF_up, nI_ofIntm]
  refine cM_makeRecord hS (hM.keep (sc0 I (nI 0))) hB hO v1 isF rfl (fun I' k m c => ⟨hS, ?_⟩) e2
  simp (disch := omega) only [nI_lit, nI_ofInt1, nI_ofInt4, nI_ofInt2, nI_ofInt3, mI_neg, wI_I, wI_setI, wI_setR, forall_eq, nI_add, pk_mul, pk_sub, pk_div, pk_rem, nI_clamp, nI_leI, nI_ltI, nI_eq, vin_iff, nar0, nar1, nF_ap, bF_ap, oF_ap, bI_0, bI_1, and255, bu_w, bu_p, bu_90, bu_9, row_w, row_at, nF_up, nI_ofIntm]
  refine h _ (((sc0 I (nI 0)).k.tr k).tr (fun a ha => fw_ne (by omega))) (m.clr (Fr.w5 _ _ _ _ _ (by decide)) rfl) c
end MCRE
