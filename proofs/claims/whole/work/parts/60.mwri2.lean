/-! The reference's write, whole. -/
def woS (s : AS) (g : Nat) (pl : List (Option Nat)) : AS := (1, aP s, 0, aM s, 3, [], g, pl)
/-- outside: too few clusters or too many runs, or the sheet, the disk and the clusters taken -/
def woR (D : Nat → Nat) (T : Nat → Bool) (s : AS) (a n : Nat) (b : Int32) : Option (AS × (Nat → Nat) × (Nat → Bool)) :=
  let N := (gr s a n + 15) / 16
  let fr := frs (pad s N) (lay s) a n
  let p := alT fr N 0 T (go (pad s N))
  let pl := lsO N p.2
  if frcF T 80 48 < frcF (fun j => !fr j) N 0 then none
  else if 54 < (nmA (aM s)).length + (dt3 (gr s a n) pl).length then none
  else some (woS s (gr s a n) pl, plw pl (wval s a n b fr) (16 * N) 0 D, p.1)
section MWRI2
variable {G : fx_G} {S : fx_S} {I : Nat → Nat → Int32} {Q : fx_R → fx_S → Prop} {F : Int32 → fx_S → Prop} {A : VS}
theorem cM_wo95 (hS : shM S) (hM : MS I A) (hB : BI A) (ho : vo A = true) (r : Nat) (hr : r < 12) {s : AS} (hR : Rec (vD A) r s) (hw : wf s) (hs1 : aS s = 1) (a n : Nat) (b : Int32) (ha : a ≤ 1000) (hn : n ≤ 60) (han : a + n ≤ 1000) (h0 : I 85 0 = nI 0) (hbl : aK s = 2 → rowL I 93 (aH s))
    (h3 : woR (vD A) (vT A) s a n b = none → ∀ I', K85 I I' → MS I' A → I' 85 0 = nI 3 → F (nI 0) (fx_wI S I'))
    (h1 : ∀ q, woR (vD A) (vT A) s a n b = some q → stOk (vt A) = false → ∀ I', K85 I I' → MS I' (stA (setT (setD A q.2.1) q.2.2) r q.1) → I' 85 0 = nI 1 → F (nI 0) (fx_wI S I'))
    (h2 : ∀ q, woR (vD A) (vT A) s a n b = some q → stOk (vt A) = true → ∀ I', K85 I I' → MS I' (stA (setT (setD A q.2.1) q.2.2) r q.1) → I' 85 0 = nI 0 → F (nI (gr s a n)) (fx_wI S I')) : ∀ (m i : Nat) (J : Nat → Nat → Int32) {v9 : Int32}, i + m = (gr s a n + 15) / 16 → (aL s).length ≤ i → Fr [91] [10] I J → (∀ j, j < i → J 91 j = oI (go (pad s ((gr s a n + 15) / 16)) j)) → v9 = nI i →
    fx_Go G (4, 60) mm_M_writeOutside 95 [(0, fx_r G 85), (1, .int (nI r)), (2, .int (nI a)), (3, .int (nI n)), (4, .int b), (5, .int (nI (sz s))), (6, .int (nI (gr s a n))), (8, .int (nI (lay s))), (9, .int v9)] [] (fx_wI S J) (fx_qi F Q) := by
  have hsz := hw.szl
  have hpl := hw.pl
  have hg : gr s a n ≤ 1000 := by unfold gr; split <;> omega
  have hgs : sz s ≤ gr s a n := by unfold gr; split <;> omega
  have hlay : lay s ≤ 1000 := by unfold lay; split <;> omega
  have hN := nmA_len (aM s)
  have hnl := hw.nl
  have hN10 : (nmA (aM s)).length ≤ 10 := by rw [hN]; split <;> omega
  have hpw := hw.2.1
  intro m
  induction m with
  | zero =>
    intro i J v9 hi hil hF hrow e9
    subst e9
    have ei : i = (gr s a n + 15) / 16 := by omega
    refine bs_M_writeOutside_95 hS.w _ _ _ _ _ _ _ _ ?_
    refine cM_clustersOf hS (gr s a n) (by omega) ⟨hS, ?_⟩ rfl
    refine pk_le ((gr s a n + 15) / 16) i (fun _ => ?_) (fun q => absurd q (by omega)) rfl rfl (by omega) (by omega)
    refine cM_clustersOf hS (gr s a n) (by omega) ⟨hS, ?_⟩ rfl
    simp only [wI_setI, forall_eq]
    unfold woR at h3 h1 h2
    simp only at h3 h1 h2
    generalize hNN : (gr s a n + 15) / 16 = N at *
    subst ei
    have hN63 : i ≤ 63 := by omega
    have hplen := pad_len s i hil
    have hpx : ∀ c, some c ∈ pad s i → 48 ≤ c ∧ c < 128 := fun c hc => hpl.2 c (pad_mem hc)
    have scJ : SC I J := hF.mono (fun a h => by simp at h ⊢; omega) (fun a h => by simp at h ⊢; omega)
    have sc1 : SC I (fx_w J 85 10 (nI i)) := scJ.tr (Fr.w5 _ _ _ _ _ (by decide))
    have c1 : fx_w J 85 10 (nI i) 85 0 = nI 0 := (hF.2 0 (by decide)).trans h0
    have r1 : rowO (fx_w J 85 10 (nI i)) 91 (pad s i) := fun k hk => hrow k (by omega)
    have t1 : fx_w J 85 10 (nI i) 85 10 = nI (pad s i).length := by rw [hplen]; rfl
    have b1' : aK s = 2 → rowL (fx_w J 85 10 (nI i)) 93 (aH s) := fun k2 => (hbl k2).cg (hF.1 93 (by decide) (by decide))
    have hM1 := hM.keep sc1
    generalize fx_w J 85 10 (nI i) = K at *
    clear hrow hF
    refine cM_give hS (by omega) (fun c hc => (hpx c hc).2) (hM1.u ho).2 t1 r1 (lay s) a n (by omega) (by omega) (by omega) (fun hno I2 hF2 => ⟨hS, ?_⟩) (fun hyes I2 hF2 hfr2 hT2 hm2 => ⟨hS, ?_⟩) rfl rfl rfl
    · refine ⟨fun q => absurd rfl q, fun _ => ?_⟩
      rw [hplen] at hno
      rw [if_pos hno] at h3
      have sc2 : SC K I2 := hF2.mono (fun a h => by simp at h ⊢; omega) (fun a h => by simp at h)
      exact cM_refuse hS 3 ⟨hS, h3 rfl _ ((sc1.tr sc2).tr (sc0 I2 (nI 3))).k ((hM1.keep sc2).keep (sc0 I2 (nI 3))) rfl⟩ rfl
    · refine ⟨fun _ => ?_, fun q => absurd q (by decide)⟩
      rw [hplen] at hyes hfr2 hT2 hm2
      rw [if_neg (by omega)] at h3 h1 h2
      have hrng := alT_rng (frs (pad s i) (lay s) a n) i 0 (vT A) (go (pad s i)) (fun j c e => by
        rw [pad_go] at e
        have hj : j < (aL s).length := by
          cases Nat.lt_or_ge j (aL s).length with
          | inl h => exact h
          | inr h => rw [go_out h] at e; cases e
        exact hpl.2 c (e ▸ go_mem hj))
      have hsm := alT_some (frs (pad s i) (lay s) a n) i 0 (vT A) (go (pad s i)) hyes
      have htb := tb_al (frs (pad s i) (lay s) a n) i 0 (vT A) (go (pad s i)) hyes
      generalize alT (frs (pad s i) (lay s) a n) i 0 (vT A) (go (pad s i)) = p at *
      have hlen := lsO_len i p.2
      have hlx : ∀ c, some c ∈ lsO i p.2 → 48 ≤ c ∧ c < 128 := fun c hc => by obtain ⟨j, e⟩ := lsO_mem hc; exact hrng j c e
      have hrow2 : rowO I2 91 (lsO i p.2) := fun k hk => by rw [hlen] at hk; rw [lsO_go _ _ _ hk]; exact hm2 k hk
      have e86 : I2 86 = nF (vD A) := (hF2.1 86 (by decide) (by decide)).trans hM1.1
      have t2 : I2 85 10 = nI i := ((hF2.2 10 (by simp)).trans t1).trans (by rw [hplen])
      have c2 : I2 85 0 = nI 0 := (hF2.2 0 (by simp)).trans c1
      have k2 : K85 I I2 := sc1.k.tr (hF2.k (fun a ha => by simp; omega))
      have hM2 : MS I2 (setT A p.1) := by
        obtain ⟨g1, g2, g3, g4, g5, U, T, g6, g7, g8⟩ := hM1
        exact ⟨e86, (hF2.2 5 (by simp)).trans g2, (hF2.2 6 (by simp)).trans g3, g4.cg (hF2.1 89 (by decide) (by decide)), (hF2.2 4 (by simp)).trans g5, U, p.1, (hF2.1 87 (by decide) (by decide)).trans g6, hT2, fun z => ⟨(g8 z).1, rfl⟩⟩
      have hrn := rn_len i 48 (lsO i p.2)
      have hdl : (dt3 (gr s a n) (lsO i p.2)).length = (rn 48 (lsO i p.2)).length + 5 := by unfold dt3; simp
      have hrn' : (rn 48 (lsO i p.2)).length ≤ 3 * i := by have := rn_len (lsO i p.2).length 48 (lsO i p.2); rw [hlen] at this; unfold rn; rw [hlen]; exact this
      refine cM_byteR hS e86 r 1 hR hr (by omega) ⟨hS, ?_⟩ rfl rfl
      rw [rv_1]
      refine cM_begin hS 1 (aP s) (fun bb hbb => ⟨hS, ?_⟩) rfl rfl
      refine cM_putName hS e86 r hR hr hw (by omega) ⟨hS, ?_⟩ rfl
      refine cM_putOutside hS (by omega) (fun c hc => (hlx c hc).2) (by rw [hlen]; exact t2) hrow2 (10 + (nmA (aM s)).length) (gr s a n) (by omega) (by omega) ⟨hS, ?_⟩ rfl
      simp only [wI_I, bu_9]
      refine pk_le (10 + (nmA (aM s)).length + (dt3 (gr s a n) (lsO i p.2)).length) 64 (fun q => ?_) (fun q => ?_) rfl rfl (by omega) (by omega)
      · rw [if_neg (by omega)] at h1 h2
        have h1' := h1 _ rfl
        have h2' := h2 _ rfl
        simp only at h1' h2'
        have hal : (atA (woS s (gr s a n) (lsO i p.2))).length = (nmA (aM s)).length + (dt3 (gr s a n) (lsO i p.2)).length := by rw [atA_len]; rfl
        refine cM_wo189 hS hw (nI r) a n b (frs (pad s i) (lay s) a n) (pl := lsO i p.2) (by omega) (fun c hc => (hlx c hc).2) ha hn (gr s a n) hg (16 * i) 0 (vD A) _ (by rw [hlen]; omega) e86 (by rw [hlen]; exact t2) hrow2 (fun j hj => hfr2 j (by omega)) (fun k2' => (b1' k2').cg (hF2.1 93 (by decide) (by decide))) ?_ rfl
        rw [row_buf]
        have hM3 : MS (fx_row I2 86 (nF (plw (lsO i p.2) (wval s a n b (frs (pad s i) (lay s) a n)) (16 * i) 0 (vD A)))) (setT (setD A (plw (lsO i p.2) (wval s a n b (frs (pad s i) (lay s) a n)) (16 * i) 0 (vD A))) p.1) := by
          obtain ⟨g1, g2, g3, g4, g5, U, T, g6, g7, g8⟩ := hM2
          exact ⟨row_at _ _ _, g2, g3, g4, g5, U, T, g6, g7, g8⟩
        have k3 : K85 I (fx_row I2 86 (nF (plw (lsO i p.2) (wval s a n b (frs (pad s i) (lay s) a n)) (16 * i) 0 (vD A)))) := k2.tr (fun a ha => fx_row_ne _ _ (by omega))
        have c3 : fx_row I2 86 (nF (plw (lsO i p.2) (wval s a n b (frs (pad s i) (lay s) a n)) (16 * i) 0 (vD A))) 85 0 = nI 0 := c2
        have hlt : ∀ q, plw (lsO i p.2) (wval s a n b (frs (pad s i) (lay s) a n)) (16 * i) 0 (vD A) q < 256 := plw_lt (fun k v hv => by
          unfold wval at hv
          split at hv
          · cases hv; exact Nat.mod_lt _ (by omega)
          · split at hv
            · cases hv; exact hw.hg k
            · split at hv
              · cases hv; omega
              · cases hv) _ _ _ hB.1
        generalize fx_row I2 86 (nF (plw (lsO i p.2) (wval s a n b (frs (pad s i) (lay s) a n)) (16 * i) 0 (vD A))) = L at *
        generalize hA3 : setT (setD A (plw (lsO i p.2) (wval s a n b (frs (pad s i) (lay s) a n)) (16 * i) 0 (vD A))) p.1 = A3 at *
        have ho3 : vo A3 = true := by rw [← hA3]; exact ho
        have ht3 : vt A3 = vt A := by rw [← hA3]; rfl
        have hB3 : BI A3 := by rw [← hA3]; exact ⟨hlt, hB.2.1, hB.2.2.1, hB.2.2.2⟩
        refine cM_storeC hS (hM3.mc ho3) hB3.1 hB3.2.1 hM3.2.2.2.2.1 (s := woS s (gr s a n) (lsO i p.2)) r hr (by show 1 ≤ 2; omega) (by omega) (fun j hj _ => ?_) (fun I4 hF4 hM4 h44 => ⟨hS, ?_⟩) rfl (by omega)
        · rw [putL_app]
          exact putL_bfr (s := woS s (gr s a n) (lsO i p.2)) hbb j hj
        · have hS4 : MS I4 (stA A3 r (woS s (gr s a n) (lsO i p.2))) := hM3.st (hM3.u ho3).1 (fun _ => rfl) hF4 hM4 h44
          have k4 : K85 I I4 := k3.tr (hF4.k (fun a ha => by simp; omega))
          have c4 : I4 85 0 = nI 0 := (hF4.2 0 (by decide)).trans c3
          rw [← ht3] at h1' h2'
          refine b0 (fun z => ?_) (fun z => h2' z I4 k4 hS4 c4)
          exact cM_refuse hS 1 ⟨hS, h1' z _ (k4.tr (sc0 I4 (nI 1)).k) (hS4.keep (sc0 I4 (nI 1))) rfl⟩ rfl
      · rw [if_pos (by omega)] at h3
        refine cM_takeBack hS (I := bufS I2 _ _) (fr := frs (pad s i) (lay s) a n) (m := p.2) (T := p.1) i (by omega) (fun j hj hf => ?_) t2 hfr2 hT2 hm2 ⟨hS, ?_⟩
        · obtain ⟨c, e⟩ := hsm j (by omega) (by omega) hf
          exact ⟨c, e, (hrng j c e).2⟩
        · rw [htb]
          refine cM_refuse hS 3 ⟨hS, h3 rfl _ ?_ ?_ rfl⟩ rfl
          · intro x hx
            rw [fw_ne (by omega), fx_row_ne _ _ (by omega)]
            show bufS I2 _ _ x = _
            rw [(Fr.buf [90] [9] I2 _ _ (by decide) (by decide)).1 x (by omega) (by simp; omega)]
            exact k2 x hx
          · obtain ⟨g1, g2, g3, g4, g5, U, T, g6, g7, g8⟩ := hM2
            exact ⟨g1, g2, g3, g4, g5, U, vT A, g6, rfl, fun z => ⟨(g8 z).1, rfl⟩⟩
  | succ m ih =>
    intro i J v9 hi hil hF hrow e9
    subst e9
    refine bs_M_writeOutside_95 hS.w _ _ _ _ _ _ _ _ ?_
    refine cM_clustersOf hS (gr s a n) (by omega) ⟨hS, ?_⟩ rfl
    refine pk_le ((gr s a n + 15) / 16) i (fun q => absurd q (by omega)) (fun _ => ⟨pk_in i 64 (by omega) rfl, ?_⟩) rfl rfl (by omega) (by omega)
    simp only [wI_setI, forall_eq]
    rw [pk_cl i rfl (by omega)]
    refine ih (i + 1) _ (by omega) (by omega) (hF.tr (Fr.w [91] [10] J 91 _ _ (by decide) (by decide)) (fun _ h => ⟨h, h⟩) (fun _ h => ⟨h, h⟩)) (fun j hj => ?_) (by first | rfl | (simp (disch := omega) only [nI_lit, nI_ofInt1, nI_ofInt4, nI_ofInt2, nI_ofInt3, mI_neg, wI_I, wI_setI, wI_setR, forall_eq, nI_add, pk_mul, pk_sub, pk_div, pk_rem, nI_clamp, nI_leI, nI_ltI, nI_eq, vin_iff, nar0, nar1, nF_ap, bF_ap, oF_ap, bI_0, bI_1, and255, bu_w, bu_p, bu_90, bu_9, row_w, row_at, nF_up, nI_ofIntm] <;> first | done | omega | (congr 1; omega)))
    by_cases c : j = i
    · subst c
      rw [fw_at, pad_go, go_out hil]
      rfl
    · rw [fw_nj c]; exact hrow j (by omega)
theorem cM_wo48 (hS : shM S) {D : Nat → Nat} {s : AS} (r : Nat) (hR : Rec D r s) (hr : r < 12) (hw : wf s) (v2 v3 v4 v5 v6 : Int32) : ∀ (m k : Nat) (I : Nat → Nat → Int32) {v9 : Int32}, k + m = lay s → I 86 = nF D → (∀ j, j < k → I 93 j = nI (gd (aH s) j)) →
    (∀ I', Fr [91, 93] [10] I I' → (∀ j, j < lay s → I' 93 j = nI (gd (aH s) j)) → I' 85 10 = nI (aL s).length → rowO I' 91 (aL s) → fx_Go G (4, 60) mm_M_writeOutside 95 [(0, fx_r G 85), (1, .int (nI r)), (2, .int v2), (3, .int v3), (4, .int v4), (5, .int v5), (6, .int v6), (8, .int (nI (lay s))), (9, .int (nI (aL s).length))] [] (fx_wI S I') Q) → v9 = nI k →
    fx_Go G (4, 60) mm_M_writeOutside 48 [(0, fx_r G 85), (1, .int (nI r)), (2, .int v2), (3, .int v3), (4, .int v4), (5, .int v5), (6, .int v6), (8, .int (nI (lay s))), (9, .int v9)] [] (fx_wI S I) Q := by
  have hsz := hw.szl
  have hlay : lay s ≤ 1000 := by unfold lay; split <;> omega
  intro m
  induction m with
  | zero =>
    intro k I v9 hk hD hrow h e9
    subst e9
    refine bs_M_writeOutside_48 hS.w _ _ _ _ _ _ _ _ ?_
    refine pk_le (lay s) k (fun _ => ?_) (fun q => absurd q (by omega)) rfl rfl (by omega) (by omega)
    refine cM_loadMap hS hD r hR hr hw (fun I1 hF1 h10 hrow1 => ⟨hS, ?_⟩) rfl
    simp only [wI_I, h10]
    exact h I1 (hF1.mono (fun a h => by simp at h ⊢; omega) (fun a h => h)) (fun j hj => by rw [hF1.1 93 (by decide) (by decide)]; exact hrow j (by omega)) h10 hrow1
  | succ m ih =>
    intro k I v9 hk hD hrow h e9
    subst e9
    have k2 : aK s = 2 := by
      unfold lay at hk
      split at hk
      · assumption
      · omega
    have hll : lay s = sz s := by unfold lay; rw [if_pos k2]
    have esz : sz s = (aH s).length := by unfold sz; rw [if_neg (by omega)]
    have hhl := hw.hl (by omega)
    refine bs_M_writeOutside_48 hS.w _ _ _ _ _ _ _ _ ?_
    refine pk_le (lay s) k (fun q => absurd q (by omega)) (fun _ => ?_) rfl rfl (by omega) (by omega)
    refine cM_attribute hS hD r 2 hR hr hw (by omega) ⟨hS, ?_⟩ rfl rfl
    rw [atR_e hw k2]
    refine cM_byteR hS hD r (10 + (nmA (aM s)).length + 2 + k) hR hr (by omega) ⟨hS, pk_in k 64 (by omega) rfl, ?_⟩ rfl (by first | rfl | (simp (disch := omega) only [nI_lit, nI_ofInt1, nI_ofInt4, nI_ofInt2, nI_ofInt3, mI_neg, wI_I, wI_setI, wI_setR, forall_eq, nI_add, pk_mul, pk_sub, pk_div, pk_rem, nI_clamp, nI_leI, nI_ltI, nI_eq, vin_iff, nar0, nar1, nF_ap, bF_ap, oF_ap, bI_0, bI_1, and255, bu_w, bu_p, bu_90, bu_9, row_w, row_at, nF_up, nI_ofIntm] <;> first | done | omega | (congr 1; omega)))
    rw [rv_h s (by omega) (by omega)]
    simp only [wI_setI, forall_eq]
    rw [pk_cl k rfl (by omega)]
    refine ih (k + 1) _ (by omega) hD (fun j hj => ?_) (fun I' hF => h I' ((Fr.w [91, 93] [10] I 93 _ _ (by decide) (by decide)).tr hF (fun _ h => ⟨h, h⟩) (fun _ h => ⟨h, h⟩))) (by first | rfl | (simp (disch := omega) only [nI_lit, nI_ofInt1, nI_ofInt4, nI_ofInt2, nI_ofInt3, mI_neg, wI_I, wI_setI, wI_setR, forall_eq, nI_add, pk_mul, pk_sub, pk_div, pk_rem, nI_clamp, nI_leI, nI_ltI, nI_eq, vin_iff, nar0, nar1, nF_ap, bF_ap, oF_ap, bI_0, bI_1, and255, bu_w, bu_p, bu_90, bu_9, row_w, row_at, nF_up, nI_ofIntm] <;> first | done | omega | (congr 1; omega)))
    by_cases c : j = k
    · subst c; rw [fw_at]
    · rw [fw_nj c]; exact hrow j (by omega)
theorem cM_writeOutside (hS : shM S) (hM : MS I A) (hB : BI A) (ho : vo A = true) (r : Nat) (hr : r < 12) {s : AS} (hR : Rec (vD A) r s) (hw : wf s) (hs1 : aS s = 1) (a n : Nat) (b : Int32) (ha : a ≤ 1000) (hn : n ≤ 60) (han : a + n ≤ 1000) (h0 : I 85 0 = nI 0)
    (h3 : woR (vD A) (vT A) s a n b = none → ∀ I', K85 I I' → MS I' A → I' 85 0 = nI 3 → F (nI 0) (fx_wI S I'))
    (h1 : ∀ q, woR (vD A) (vT A) s a n b = some q → stOk (vt A) = false → ∀ I', K85 I I' → MS I' (stA (setT (setD A q.2.1) q.2.2) r q.1) → I' 85 0 = nI 1 → F (nI 0) (fx_wI S I'))
    (h2 : ∀ q, woR (vD A) (vT A) s a n b = some q → stOk (vt A) = true → ∀ I', K85 I I' → MS I' (stA (setT (setD A q.2.1) q.2.2) r q.1) → I' 85 0 = nI 0 → F (nI (gr s a n)) (fx_wI S I')) :
    fx_Go G (4, 60) mm_M_writeOutside 0 [(0, fx_r G 85), (1, .int (nI r)), (2, .int (nI a)), (3, .int (nI n)), (4, .int b)] [] (fx_wI S I) (fx_qi F Q) := by
  have hsz := hw.szl
  have hpl := hw.pl
  have hK := hw.1
  have hlay : lay s ≤ 1000 := by unfold lay; split <;> omega
  have hgs : sz s ≤ gr s a n := by unfold gr; split <;> omega
  have go23 : ∀ z0 : Int32, z0 = nI (gr s a n) → fx_Go G (4, 60) mm_M_writeOutside 23 [(0, fx_r G 85), (1, .int (nI r)), (2, .int (nI a)), (3, .int (nI n)), (4, .int b), (5, .int (nI (sz s)))] [.int z0] (fx_wI S I) (fx_qi F Q) := by
    intro z0 ez
    subst ez
    refine bs_M_writeOutside_23 hS.w _ _ _ _ _ _ ?_
    refine cM_isInside hS hM.1 r hR hr hw ⟨hS, ?_⟩ rfl
    have go48 : ∀ x : Int32, x = nI (lay s) → fx_Go G (4, 60) mm_M_writeOutside 48 [(0, fx_r G 85), (1, .int (nI r)), (2, .int (nI a)), (3, .int (nI n)), (4, .int b), (5, .int (nI (sz s))), (6, .int (nI (gr s a n))), (8, .int x), (9, .int 0)] [] (fx_wI S I) (fx_qi F Q) := by
      intro x ex
      subst ex
      refine cM_wo48 hS r hR hr hw _ _ _ _ _ (lay s) 0 I (by omega) hM.1 (fun j hj => absurd hj (by omega)) (fun I1 hF1 h93 h10 hrow1 => ?_) rfl
      have sc1 : SC I I1 := hF1.mono (fun a h => by simp at h ⊢; omega) (fun a h => by simp at h ⊢; omega)
      have hlen : (aL s).length ≤ (gr s a n + 15) / 16 := by
        by_cases k3 : aK s = 3
        · have := hw.ll k3
          have esz : sz s = aZ s := by unfold sz; rw [if_pos k3]
          omega
        · rw [hw.2.2.2.2.2.2.2.2.1 k3]; exact Nat.zero_le _
      refine cM_wo95 hS (hM.keep sc1) hB ho r hr hR hw hs1 a n b ha hn han ((hF1.2 0 (by decide)).trans h0) (fun k2 k hk => ?_) (fun z I' kk => h3 z I' (sc1.k.tr kk)) (fun q z y I' kk => h1 q z y I' (sc1.k.tr kk)) (fun q z y I' kk => h2 q z y I' (sc1.k.tr kk)) ((gr s a n + 15) / 16 - (aL s).length) (aL s).length I1 (by omega) (Nat.le_refl _) (Fr.rfl' _ _ _) (fun j hj => ?_) rfl
      · refine h93 k ?_
        unfold lay sz
        rw [if_pos k2, if_neg (by omega)]
        exact hk
      · rw [pad_go]; exact hrow1 j hj
    refine b0 (fun q => go48 _ ?_) (fun q => go48 _ ?_)
    · rw [show lay s = 0 by unfold lay; rw [if_neg (of_decide_eq_false q)]]; rfl
    · rw [show lay s = sz s by unfold lay; rw [if_pos (of_decide_eq_true q)]]
  refine bs_M_writeOutside_0 hS.w _ _ _ _ ?_
  refine cM_sizeOf hS hM.1 r hR hr hw hs1 ⟨hS, ?_⟩ rfl
  refine pk_le (a + n) (sz s) (fun q => go23 _ ?_) (fun q => go23 _ ?_) (nI_add a n) rfl (by omega) (by omega)
  · unfold gr; rw [if_pos q]
  · unfold gr; rw [if_neg (by omega)]; exact nI_add a n
end MWRI2
