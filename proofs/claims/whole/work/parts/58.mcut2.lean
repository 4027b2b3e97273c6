/-! The reference's cut, whole. -/
theorem cont_take : ∀ (x : Option Nat) (t : List (Option Nat)) (n : Nat), cont x (t.take n) = min (cont x t) n
  | x, t, 0 => by cases x <;> simp [cont]
  | x, [], n + 1 => by cases x <;> simp [cont]
  | none, none :: t, n + 1 => by
    simp only [List.take_succ_cons, cont]
    rw [cont_take none t n]
    omega
  | none, some c :: t, n + 1 => by simp [cont]
  | some c, none :: t, n + 1 => by simp [cont]
  | some c, some e :: t, n + 1 => by
    simp only [List.take_succ_cons, cont]
    split
    · rw [cont_take (some e) t n]; omega
    · omega
theorem rn_take : ∀ (m : Nat) (l : List (Option Nat)) (b n : Nat), l.length ≤ m → (rn b (l.take n)).length ≤ (rn b l).length
  | 0, l, b, n, h => by
    have : l = [] := List.eq_nil_of_length_eq_zero (by omega)
    subst this
    simp
  | m + 1, l, b, n, h => by
    cases l with
    | nil => simp
    | cons x t =>
      cases n with
      | zero => simp [rn_nil]
      | succ n =>
        simp only [List.length_cons] at h
        rw [List.take_succ_cons]
        have key : ∀ b', (rn b' ((t.take n).drop (cont x (t.take n)))).length ≤ (rn b' (t.drop (cont x t))).length := by
          intro b'
          rw [cont_take]
          by_cases hc : cont x t ≤ n
          · rw [Nat.min_eq_left hc, List.drop_take]
            exact rn_take m _ b' _ (by rw [List.length_drop]; omega)
          · rw [Nat.min_eq_right (by omega), List.drop_of_length_le (by rw [List.length_take]; omega), rn_nil]
            exact Nat.zero_le _
        cases x with
        | none =>
          rw [rn_none, rn_none]
          simp only [List.length_cons]
          have := key b
          omega
        | some c =>
          rw [rn_some, rn_some]
          simp only [List.length_cons]
          have := key c
          omega
theorem rowO.take {I : Nat → Nat → Int32} {a : Nat} {l : List (Option Nat)} (h : rowO I a l) (n : Nat) : rowO I a (l.take n) := by
  intro k hk
  rw [List.length_take] at hk
  rw [go_take _ _ _ (by omega)]
  exact h k (by omega)
theorem cutS_2 {s : AS} {k : Nat} (h : aK s = 2 ∨ k = 0) : cutS s k = (1, aP s, 0, aM s, 2, if aK s = 2 then (aH s).take k else [], 0, []) := by unfold cutS; rw [if_pos h]
theorem cutS_3 {s : AS} {k : Nat} (h : ¬ (aK s = 2 ∨ k = 0)) : cutS s k = (1, aP s, 0, aM s, 3, [], k, (aL s).take ((k + 15) / 16)) := by unfold cutS; rw [if_neg h]
section MCUT2
variable {G : fx_G} {S : fx_S} {I : Nat → Nat → Int32} {Q : fx_R → fx_S → Prop} {F : Int32 → fx_S → Prop} {A : VS}
theorem cM_cut119 (hS : shM S) (hM : MS I A) (hB : BI A) (ho : vo A = true) (r : Nat) (hr : r < 12) {s : AS} (hR : Rec (vD A) r s) (hw : wf s) (hs1 : aS s = 1) (k : Nat) (hk : k ≤ sz s) (hm : rowO I 91 (aL s)) (hbl : aK s = 2 → rowL I 93 ((aH s).take k)) (v3 : Int32) (h0 : I 85 0 = nI 0)
    (h1 : stOk (vt A) = false → ∀ I', K85 I I' → MS I' (stA (setD A (cutD (vD A) s k)) r (cutS s k)) → I' 85 0 = nI 1 → F (nI 0) (fx_wI S I'))
    (h2 : stOk (vt A) = true → ∀ I', K85 I I' → MS I' (setT (stA (setD A (cutD (vD A) s k)) r (cutS s k)) (clrT (vT A) ((aL s).drop ((k + 15) / 16)))) → I' 85 0 = nI 0 → F v3 (fx_wI S I')) :
    fx_Go G (4, 60) mm_M_cut 119 [(0, fx_r G 85), (1, .int (nI r)), (2, .int (nI k)), (3, .int v3), (4, .int (bI (decide (aK s = 2)))), (5, .int (nI (aL s).length))] [] (fx_wI S I) (fx_qi F Q) := by
  have hK := hw.1
  have hpl := hw.pl
  have hsz := hw.szl
  have hN := nmA_len (aM s)
  have hnl := hw.nl
  have hN10 : (nmA (aM s)).length ≤ 10 := by rw [hN]; split <;> omega
  have hpw := hw.2.1
  refine bs_M_cut_119 hS.w _ _ _ _ _ ?_
  refine cM_byteR hS hM.1 r 1 hR hr (by omega) ⟨hS, ?_⟩ rfl rfl
  rw [rv_1]
  refine cM_begin hS 1 (aP s) (fun b hb => ⟨hS, ?_⟩) rfl rfl
  refine cM_putName hS hM.1 r hR hr hw (by omega) ⟨hS, ?_⟩ rfl
  have hbf : ∀ (s' : AS) (l : List Nat), aS s' = 1 → aP s' = aP s → atA s' = nmA (aM s) ++ l → ∀ i, i < 64 → putL (putL b 10 (nmA (aM s))) (10 + (nmA (aM s)).length) l i = bfr s' i := by
    intro s' l e1 e2 el i hi
    rw [putL_app, ← el]
    refine putL_bfr (s := s') (fun i hi => ?_) i hi
    rw [hb i hi, e1, e2]
  have eD : setD A (vD A) = A := rfl
  -- a file that is inside, or empty
  have ins : (aK s = 2 ∨ k = 0) → fx_Go G (1, 13) mm_M_putInside 0 [(0, fx_r G 85), (1, .int (nI k))] [] (fx_wI S (bufS I (putL b 10 (nmA (aM s))) (10 + (nmA (aM s)).length))) (fx_qv (fun S5 => shM S5 ∧ fx_Go G (4, 60) mm_M_cut 193 [(0, fx_r G 85), (1, .int (nI r)), (2, .int (nI k)), (3, .int v3), (5, .int (nI (aL s).length))] [] S5 (fx_qi F Q)) (fx_qi F Q)) := by
    intro hc
    have hrow : rowL I 93 (if aK s = 2 then (aH s).take k else []) := by
      split
      · rename_i h2; exact hbl h2
      · exact fun j hj => absurd hj (Nat.not_lt_zero _)
    have hlen : (if aK s = 2 then (aH s).take k else []).length = k := by
      split
      · rename_i h2'
        have : sz s = (aH s).length := by unfold sz; rw [if_neg (by omega)]
        rw [List.length_take]; omega
      · rename_i h2'
        show 0 = k
        omega
    have hal : (atA (cutS s k)).length = (nmA (aM s)).length + (k + 2) := by
      rw [cutS_2 hc, atA_len]
      show (nmA (aM s)).length + ((if aK s = 2 then (aH s).take k else []).length + 2) = _
      rw [hlen]
    have hk54 : (nmA (aM s)).length + (k + 2) ≤ 54 := by
      rcases hc with hc | hc
      · have := hw.hl (by omega)
        have : sz s = (aH s).length := by unfold sz; rw [if_neg (by omega)]
        omega
      · omega
    have hcd : cutD (vD A) s k = vD A := by unfold cutD; rw [if_pos hc]
    rw [hcd, eD] at h1 h2
    have hput := hbf (cutS s k) (2 :: ((if aK s = 2 then (aH s).take k else []).length + 2) :: (if aK s = 2 then (aH s).take k else [])) (by rw [cutS_2 hc]; rfl) (by rw [cutS_2 hc]; rfl) (by rw [cutS_2 hc]; rfl)
    refine cM_putInside hS hrow (by omega) (by omega) ⟨hS, ?_⟩ (by rw [hlen])
    refine cM_cut193 hS hM hB ho r hr (s := cutS s k) (by rw [cutS_2 hc]; show 1 ≤ 2; omega) (by omega) hput (by rw [hal, hlen]; omega) hm (by omega) (fun c hc => (hpl.2 c hc).2) k (by omega) v3 h0 h1 h2
  refine b1 (fun q => ins (Or.inl (of_decide_eq_true q))) (fun q => ?_)
  have q' := of_decide_eq_false q
  refine ⟨fun q0 => ?_, fun q0 => ins (Or.inr ?_)⟩
  · have k0 : k ≠ 0 := fun e => q0 (by rw [e]; rfl)
    have hc : ¬ (aK s = 2 ∨ k = 0) := by omega
    have k3 : aK s = 3 := by omega
    have hz := hw.z k3
    have hll := hw.ll k3
    have hl3 := hw.l3 k3
    have esz : sz s = aZ s := by unfold sz; rw [if_pos k3]
    have hrt := rn_take (aL s).length (aL s) 48 ((k + 15) / 16) (Nat.le_refl _)
    have htl : ((aL s).take ((k + 15) / 16)).length = (k + 15) / 16 := by rw [List.length_take]; omega
    have htx : ∀ c, some c ∈ (aL s).take ((k + 15) / 16) → 48 ≤ c ∧ c < 128 := fun c hc => hpl.2 c (List.mem_of_mem_take hc)
    have hcd : cutD (vD A) s k = plw ((aL s).take ((k + 15) / 16)) (fun _ => some 0) (16 * ((k + 15) / 16) - k) k (vD A) := by unfold cutD; rw [if_neg hc]
    have hal : (atA (cutS s k)).length = (nmA (aM s)).length + (dt3 k ((aL s).take ((k + 15) / 16))).length := by
      rw [cutS_3 hc, atA_len]; rfl
    have hdl : (dt3 k ((aL s).take ((k + 15) / 16))).length = (rn 48 ((aL s).take ((k + 15) / 16))).length + 5 := by unfold dt3; simp
    refine cM_clustersOf hS k (by omega) ⟨hS, ?_⟩ rfl
    simp (disch := omega) only [nI_lit, nI_ofInt1, nI_ofInt4, nI_ofInt2, nI_ofInt3, mI_neg, wI_I, wI_setI, wI_setR, forall_eq, nI_add, pk_mul, pk_sub, pk_div, pk_rem, nI_clamp, nI_leI, nI_ltI, nI_eq, vin_iff, nar0, nar1, nF_ap, bF_ap, oF_ap, bI_0, bI_1, and255, bu_w, bu_p, bu_90, bu_9, row_w, row_at, nF_up, nI_ofIntm]
    rw [bu_j _ _ _ _ _ (by decide), ← htl]
    have sc1 : SC I (fx_w I 85 10 (nI ((aL s).take ((k + 15) / 16)).length)) := Fr.w5 _ _ _ _ _ (by decide)
    have c0 : fx_w I 85 10 (nI ((aL s).take ((k + 15) / 16)).length) 85 0 = nI 0 := h0
    have c10 : fx_w I 85 10 (nI ((aL s).take ((k + 15) / 16)).length) 85 10 = nI ((aL s).take ((k + 15) / 16)).length := rfl
    have hmJ : rowO (fx_w I 85 10 (nI ((aL s).take ((k + 15) / 16)).length)) 91 (aL s) := hm
    have hDJ : fx_w I 85 10 (nI ((aL s).take ((k + 15) / 16)).length) 86 = nF (vD A) := hM.1
    have hMI := hM
    generalize fx_w I 85 10 (nI ((aL s).take ((k + 15) / 16)).length) = J at *
    refine cM_putOutside hS (by omega) (fun c hc => (htx c hc).2) c10 (hmJ.take _) (10 + (nmA (aM s)).length) k (by omega) (by omega) ⟨hS, ?_⟩ rfl
    have hput := hbf (cutS s k) (dt3 k ((aL s).take ((k + 15) / 16))) (by rw [cutS_3 hc]; rfl) (by rw [cutS_3 hc]; rfl) (by rw [cutS_3 hc]; rfl)
    refine cM_cut168 hS _ _ _ (by omega) (fun c hc => (htx c hc).2) k (by omega) (16 * ((k + 15) / 16) - k) k (vD A) _ (by rw [htl]; omega) hDJ c10 (hmJ.take _) ?_ rfl
    rw [row_buf, ← hcd]
    refine cM_cut193 hS (A := setD A (cutD (vD A) s k)) (hMI.hi sc1 _ rfl) ⟨fun q => ?_, hB.2.1, hB.2.2.1, hB.2.2.2⟩ ho r hr (s := cutS s k) (by rw [cutS_3 hc]; show 1 ≤ 2; omega) (by omega) hput (by omega) hmJ (by omega) (fun c hc => (hpl.2 c hc).2) k (by omega) v3 c0 (fun hk I' kk => h1 hk I' ((sc1.k.tr (fun a ha => fx_row_ne _ _ (by omega))).tr kk)) (fun hk I' kk => h2 hk I' ((sc1.k.tr (fun a ha => fx_row_ne _ _ (by omega))).tr kk))
    show cutD (vD A) s k q < 256
    rw [hcd]
    exact plw_lt (fun _ v hv => by cases hv; omega) _ _ _ hB.1 q
  · exact (nI_eq (by omega) (by omega)).mp q0
theorem cM_cut (hS : shM S) (hM0 : MS I A) (hB : BI A) (hO : vo A = true → OI A) (v1 v2 : Int32) (h' : ∀ I', K85 I I' → MS I' (sCut A v1 v2).2.2 → I' 85 0 = nI (sCut A v1 v2).1 → F (sCut A v1 v2).2.1 (fx_wI S I')) :
    fx_Go G (4, 60) mm_M_cut 0 [(0, fx_r G 85), (1, .int v1), (2, .int v2)] [] (fx_wI S I) (fx_qi F Q) := by
  refine bs_M_cut_0 hS.w _ _ ?_
  simp only [wI_setI, forall_eq, wI_I]
  have hM := hM0.keep (sc0 I (nI 0))
  have h : ∀ I', K85 (fx_w I 85 0 (nI 0)) I' → MS I' (sCut A v1 v2).2.2 → I' 85 0 = nI (sCut A v1 v2).1 → F (sCut A v1 v2).2.1 (fx_wI S I') := fun I' k => h' I' ((sc0 I (nI 0)).k.tr k)
  have h0 : fx_w I 85 0 (nI 0) 85 0 = nI 0 := rfl
  rw [show (0 : Int32) = nI 0 from rfl]
  generalize fx_w I 85 0 (nI 0) = J at *
  clear h' hM0
  unfold sCut at h
  rw [hM.2.2.2.2.1]
  refine b1 (fun ho => ?_) (fun ho => ?_)
  · rw [if_neg (by rw [ho]; decide)] at h
    have bad : ¬ (uk A v1 1 = true ∧ ¬ v2 < 0 ∧ v2 ≤ nI (sz (vf A v1.toNatClampNeg))) → F (nI 0) (fx_wI S (fx_w J 85 0 (nI 2))) := by
      intro z
      rw [if_neg z] at h
      exact h _ (sc0 J _).k (hM.keep (sc0 J _)) rfl
    refine cM_uk hS hM hB hO v1 1 (by omega) ⟨hS, ?_⟩ rfl
    refine b1 (fun q => ?_) (fun q => cM_refuse hS 2 ⟨hS, bad (fun z => by rw [q] at z; exact absurd z.1 (by decide))⟩ rfl)
    obtain ⟨r, hr, e, hu, _, er, hs1⟩ := uk_j q
    obtain ⟨hR, hw⟩ := (hO ho).rc r hr hu
    rw [er] at h bad
    subst e
    have hK := hw.1
    have hpl := hw.pl
    have hsz := hw.szl
    refine cM_sizeOf hS hM.1 r hR hr hw hs1 ⟨hS, ?_⟩ rfl
    refine ⟨fun q1 => cM_refuse hS 2 ⟨hS, bad (fun z => z.2.1 q1)⟩ rfl, fun q1 => ?_⟩
    refine ⟨fun q2 => ?_, fun q2 => cM_refuse hS 2 ⟨hS, bad (fun z => q2 z.2.2)⟩ rfl⟩
    obtain ⟨k, hk, ek⟩ := nI_of2 (M := nI (sz (vf A r))) (n := sz (vf A r)) (nI_toInt (by omega)) q1 q2
    subst ek
    have hcl : (nI k).toNatClampNeg = k := nI_clamp (by omega)
    rw [if_pos ⟨q, q1, q2⟩] at h
    simp only [hcl] at h
    refine cM_isInside hS hM.1 r hR hr hw ⟨hS, ?_⟩ rfl
    refine cM_loadMap hS hM.1 r hR hr hw (fun I1 hF1 h10 hrow1 => ⟨hS, ?_⟩) rfl
    have sc1 : SC J I1 := hF1.mono (fun a h => by simp at h ⊢; omega) (fun a h => by simp at h ⊢; omega)
    have hM1 := hM.keep sc1
    have c1 : I1 85 0 = nI 0 := (hF1.2 0 (by decide)).trans h0
    refine cM_attribute hS hM1.1 r 2 hR hr hw (by omega) ⟨hS, ?_⟩ rfl rfl
    simp only [wI_I, h10]
    have tail : ∀ I2, SC I1 I2 → I2 85 0 = nI 0 → rowO I2 91 (aL (vf A r)) → (aK (vf A r) = 2 → rowL I2 93 ((aH (vf A r)).take k)) → fx_Go G (4, 60) mm_M_cut 119 [(0, fx_r G 85), (1, .int (nI r)), (2, .int (nI k)), (3, .int (nI (sz (vf A r)))), (4, .int (bI (decide (aK (vf A r) = 2)))), (5, .int (nI (aL (vf A r)).length))] [] (fx_wI S I2) (fx_qi F Q) := by
      intro I2 sc2 c2 hr2 hb2
      refine cM_cut119 hS (hM1.keep sc2) hB ho r hr hR hw hs1 k hk hr2 hb2 (nI (sz (vf A r))) c2 (fun hok I' kk m c => ?_) (fun hok I' kk m c => ?_)
      · rw [if_pos hok] at h
        exact h I' ((sc1.k.tr sc2.k).tr kk) m c
      · rw [if_neg (by rw [hok]; decide)] at h
        exact h I' ((sc1.k.tr sc2.k).tr kk) m c
    by_cases k2 : aK (vf A r) = 2
    · have esz : sz (vf A r) = (aH (vf A r)).length := by unfold sz; rw [if_neg (by omega)]
      rw [atR_e hw k2, decide_eq_true k2] at *
      simp (disch := omega) only [nI_lit, nI_ofInt1, nI_ofInt4, nI_ofInt2, nI_ofInt3, mI_neg, wI_I, wI_setI, wI_setR, forall_eq, nI_add, pk_mul, pk_sub, pk_div, pk_rem, nI_clamp, nI_leI, nI_ltI, nI_eq, vin_iff, nar0, nar1, nF_ap, bF_ap, oF_ap, bI_0, bI_1, and255, bu_w, bu_p, bu_90, bu_9, row_w, row_at, nF_up, nI_ofIntm]
      refine cM_cut85 hS r hR hr hw k2 k (by omega) _ _ k 0 I1 (by omega) hM1.1 (fun j hj => by simp at hj) (fun I2 hF2 hrow2 => ?_) rfl
      have sc2 : SC I1 I2 := hF2.mono (fun a h => by simp at h ⊢; omega) (fun a h => by simp at h)
      exact tail I2 sc2 ((hF2.2 0 (by simp)).trans c1) (hrow1.cg (hF2.1 91 (by decide) (by decide))) (fun _ => hrow2)
    · have fin := tail I1 (Fr.rfl' _ _ _) c1 hrow1 (fun z => absurd z k2)
      refine bs_M_cut_85 hS.w _ _ _ _ _ _ _ ?_
      rw [decide_eq_false k2] at fin ⊢
      exact pk_le k 0 (fun _ => fin) (fun _ => ⟨fun _ => fin, fun z => absurd rfl z⟩) rfl rfl (by omega) (by omega)
  · rw [if_pos ho] at h
    exact cM_refuse hS 1 ⟨hS, h _ (sc0 J _).k (hM.keep (sc0 J _)) rfl⟩ rfl
end MCUT2
