/-! The class's remove, move. -/
section CR
variable {G : fx_G} {S : fx_S} {I : Nat → Nat → Int32} {Q : fx_R → fx_S → Prop} {A : VS}
theorem cV_remove {F : Int32 → fx_S → Prop} (hS : shC S) (hR : fx_roomx S) (hC : CS I A) (hB : BI A) (hO : vo A = true → OI A) (v1 : Int32)
    (h0 : (sRem A v1).1 = 0 → ∀ I', LC I I' → CS I' (sRem A v1).2.2 → F (sRem A v1).2.1 (fx_wI S I'))
    (h1 : (sRem A v1).1 ≠ 0 → ∀ I', LC I I' → CS I' (sRem A v1).2.2 → Q (.inr (sRem A v1).1) (fx_exc (fx_wI S I'))) :
    fx_Go G (8, 109) mm_V_remove 0 [(0, fx_r G 0), (1, .int v1)] [] (fx_wI S I) (fx_qi F Q) := by
  refine bs_V_remove_0 hS.w _ ?_
  refine cV_requireRunning hS hR hC.2.1 (fun q => ?_) (fun ho => ⟨hS, ?_⟩)
  · have e : sRem A v1 = (1, nI 0, A) := by unfold sRem; rw [if_pos q]
    rw [e] at h1
    exact h1 ne10 I (LC.r I) hC
  · have hOA := hO ho
    have hK := hOA.gk hB
    obtain ⟨hH, hT⟩ := hC.2.2 ho
    have hb : ∀ (o : Bool), (o = true ↔ us A v1 = true ∧ v1 ≠ nI 0 ∧ full (vf A v1.toNatClampNeg) = false) → fx_Go G (8, 109) mm_V_remove 41 [(0, fx_r G 0), (1, .int v1)] [.int (bI o)] (fx_wI S I) (fx_qi F Q) := by
      intro o hoo
      refine bs_V_remove_41 hS.w _ _ ?_
      refine cV_require hS hR (fun q => ?_) (fun q => ⟨hS, ?_⟩) rfl
      · have e : sRem A v1 = (2, nI 0, A) := by
          unfold sRem
          rw [if_neg (by rw [ho]; decide), if_neg (fun z => by rw [hoo.mpr z] at q; cases q)]
        rw [e] at h1
        exact h1 ne20 I (LC.r I) hC
      · have hc := hoo.mp q
        obtain ⟨r, hr, er, hur, _, ec⟩ := us_j hc.1
        subst er
        rw [ec] at hc
        have hr0 : r ≠ 0 := fun z => hc.2.1 (by rw [z])
        have es : sRem A (nI r) = (let A1 := lst A (aP (vf A r)) (outL A (aP (vf A r)) r)
          if stOk (vt A) = false then (1, nI 0, A1)
          else let A2 := stA A1 r (frA 0)
            if stOk (vt A1) = false then (1, nI 0, A2) else (0, nI (cntO (aL (vf A r))), setT A2 (clrT (vT A) (aL (vf A r))))) := by
          unfold sRem
          rw [if_neg (by rw [ho]; decide), ec, if_pos hc]
        rw [es] at h0 h1
        clear es
        have hwr := (hK r hr).1 hur
        have hd : aP (vf A r) < 12 := hK.p hr
        obtain ⟨hud, hs2⟩ := hOA.2.2.2.2.1 r hr hur
        generalize hdd : aP (vf A r) = d at hd hud hs2 h0 h1
        have hwd := (hK d hd).1 hud
        have hli := hOA.li hd hud hs2
        have hrin : r ∈ aH (vf A d) := (hli.2 r).mpr ⟨by omega, hr, hur, hdd⟩
        have hrd : r ≠ d := by
          intro z
          have hf := hc.2.2
          rw [z] at hf
          unfold full at hf
          rw [decide_eq_true hs2, Bool.true_and, Bool.not_eq_false', decide_eq_true_eq] at hf
          have hnil := List.eq_nil_of_length_eq_zero hf
          rw [hnil] at hrin
          cases hrin
        have hP := hH r hr
        simp only [wI_I]
        rw [ec, hP.2.1, hdd]
        refine ⟨pk_in r 12 hr rfl, ?_⟩
        have hol : ∀ x ∈ outL A d r, x < 12 := fun x hx => hwd.2.2.2.2.2.2.2.1 (hwd.k4 hs2) x (List.mem_filter.mp hx).1
        have hoN : (outL A d r).length ≤ 12 := by
          have h1 := List.length_filter_le (kp (nI r)) (aH (vf A d))
          have h2 := hOA.l11 hd hud hs2
          unfold outL
          omega
        have hn1 : aN (vf A d) = wrd (vD A) (64 * d + 2) := ((hOA.rc d hd hud).1.w hwd.2.2.1).symm
        refine cV_leave hS hH d r hd hwd hs2 hr rfl (fun I1 hF1 hH1 => ⟨hS, ?_⟩) rfl rfl
        refine cV_storeS hS hR (hC.1.fc hF1 (by simp <;> omega) (by simp <;> omega) (by simp <;> omega) (by simp <;> omega)) (by rw [hF1 0 (by simp <;> omega), hC.2.1, ho]) (hT.fc hF1 (by simp <;> omega)) hB ho d hd _ _ hH1 hn1 (sLi_wf hwd hwd.2.2.1 hoN hol).sok (fun q2 J hJ hCJ => ?_) (fun q2 J hJ hCJ => ⟨hS, ?_⟩) rfl
        · simp only [if_pos q2] at h1
          exact h1 ne10 J ((hF1.lc (fun a ha => by simp at ha <;> omega)).tr (hJ.lc (fun a ha => by simp at ha <;> omega))) hCJ
        · have hLJ : LC I J := (hF1.lc (fun a ha => by simp at ha <;> omega)).tr (hJ.lc (fun a ha => by simp at ha <;> omega))
          rw [if_neg (by rw [q2]; decide)] at h0 h1
          change CS J (lst A d (outL A d r)) at hCJ
          have hB1 : BI (lst A d (outL A d r)) := lst_lt hB hwd hoN hol
          have hoJ : vo (lst A d (outL A d r)) = true := by unfold lst; rw [stA_o ho]; exact q2
          obtain ⟨hHJ, hTJ⟩ := hCJ.2.2 hoJ
          have efr : vf (lst A d (outL A d r)) r = vf A r := (stA_f hrd).1
          have hur1 : vU (lst A d (outL A d r)) r = true := by rw [show vU (lst A d (outL A d r)) r = vU A r from (stA_f hrd).2]; exact hur
          have hrc1 : Recs (vD (lst A d (outL A d r))) (vU (lst A d (outL A d r))) (vf (lst A d (outL A d r))) := lst_rc hB hOA.rc q2 hwd hoN hol
          have eT1 : vT (lst A d (outL A d r)) = vT A := rfl
          generalize lst A d (outL A d r) = A1 at *
          have hPr := hHJ r hr
          rw [efr] at hPr
          rw [eT1] at hTJ
          have hh := isH_at r hr
          have hnr : aN (vf A r) = wrd (vD A1) (64 * r + 2) := by
            have := (hrc1 r hr hur1).1.w (by rw [efr]; exact hwr.2.2.1)
            rw [this, efr]
          refine cV_releaseFrom hS (4 + 6 * r + 4) hh.y (by omega) hwr.dl 0 (Nat.zero_le _) hPr.2.2.2.2.2.2.2 hTJ (fun I2 hF2 hL2 hT2 => ⟨hS, ?_⟩) rfl
          rw [List.drop_zero] at hT2 ⊢
          have e2r : I2 (4 + 6 * r) = J (4 + 6 * r) := hF2 _ (by simp <;> omega)
          refine cH_become hS (4 + 6 * r) hh 0 0 (aN (vf A r)) (by omega) (by rw [e2r]; exact hPr.2.2.1) (fun I3 hF3 hP3 => ⟨hS, ?_⟩) rfl rfl
          have hF23 : FC [4 + 6 * r, 4 + 6 * r + 1, 4 + 6 * r + 4, 76] J I3 := (hF2.mono (fun a ha => by simp at ha ⊢ <;> omega)).tr (hF3.mono (fun a ha => by simp at ha ⊢ <;> omega))
          have hH3 : CH I3 (up (vf (setT A1 (clrT (vT A) (aL (vf A r))))) r (setN (frA 0) (aN (vf A r)))) := hHJ.set r hr hF23 (fun a a1 a2 a3 => by simp <;> omega) hP3
          refine cV_storeS hS hR (A := setT A1 (clrT (vT A) (aL (vf A r)))) (hCJ.1.fc hF23 (by simp <;> omega) (by simp <;> omega) (by simp <;> omega) (by simp <;> omega)) (by rw [hF23 0 (by simp <;> omega), hCJ.2.1, hoJ]) (hT2.fc hF3 (by simp <;> omega)) hB1 hoJ r hr (frA 0) _ hH3 hnr (frA_sok hwr.2.2.1) (fun q3 K hK' hCK => ?_) (fun q3 K hK' hCK => ⟨hS, ?_⟩) rfl
          · have q3' : stOk (vt A1) = false := q3
            simp only [if_pos q3'] at h1
            refine h1 ne10 K (hLJ.tr ((hF23.lc (fun a ha => by simp at ha <;> omega)).tr (hK'.lc (fun a ha => by simp at ha <;> omega)))) (hCK.off (fun z => z) ?_ ?_)
            · rw [stA_o (A := setT A1 (clrT (vT A) (aL (vf A r)))) hoJ]; exact q3
            · rw [stA_o hoJ]; exact q3'
          · have q3' : stOk (vt A1) = true := q3
            rw [if_neg (by rw [q3']; decide)] at h0
            exact h0 rfl K (hLJ.tr ((hF23.lc (fun a ha => by simp at ha <;> omega)).tr (hK'.lc (fun a ha => by simp at ha <;> omega)))) hCK
    refine cV_isUsed hS hK hH v1 ⟨hS, ?_⟩
    rw [← us_on ho]
    refine b0 (fun q => ?_) (fun q => ?_)
    · exact hb false ⟨fun z => (by cases z), fun z => by rw [q] at z; cases z.1⟩
    · refine ⟨fun q2 => ?_, fun q2 => ?_⟩
      · exact hb false ⟨fun z => (by cases z), fun z => absurd q2 z.2.1⟩
      · obtain ⟨r, hr, er, hur, _, ec⟩ := us_j q
        have hwr := (hK r hr).1 hur
        refine cV_isDirectory hS hK hH v1 ⟨hS, ?_⟩
        rw [← us_on ho, q, ec, Bool.true_and]
        refine b0 (fun q3 => ?_) (fun q3 => ?_)
        · refine hb true ⟨fun _ => ⟨q, q2, ?_⟩, fun _ => rfl⟩
          rw [ec]
          unfold full
          rw [q3]
          rfl
        · have h2 : aS (vf A r) = 2 := of_decide_eq_true q3
          have h4 := hwr.k4 h2
          have ez : sz (vf A r) = (aH (vf A r)).length := by unfold sz; rw [if_neg (by omega)]
          have hl := hwr.hl (by omega)
          simp only [wI_I]
          rw [(hH r hr).2.2.2.2.1, ez]
          refine ⟨pk_in r 12 hr er, ?_⟩
          refine pk_lt 0 (aH (vf A r)).length (fun q4 => ?_) (fun q4 => ?_) rfl rfl (by omega) (by omega)
          · refine hb false ⟨fun z => (by cases z), fun z => ?_⟩
            have hf := z.2.2
            rw [ec] at hf
            unfold full at hf
            rw [decide_eq_true h2, decide_eq_false (by omega)] at hf
            cases hf
          · refine hb true ⟨fun _ => ⟨q, q2, ?_⟩, fun _ => rfl⟩
            rw [ec]
            unfold full
            rw [decide_eq_true (p := (aH (vf A r)).length = 0) (by omega), Bool.not_true, Bool.and_false]
theorem cV_move {F : fx_S → Prop} (hS : shC S) (hR : fx_roomx S) (hC : CS I A) (hB : BI A) (hO : vo A = true → OI A) (v1 v2 : Int32)
    (h0 : (sMov A v1 v2).1 = 0 → ∀ I', LC I I' → CS I' (sMov A v1 v2).2 → F (fx_wI S I'))
    (h1 : (sMov A v1 v2).1 ≠ 0 → ∀ I', LC I I' → CS I' (sMov A v1 v2).2 → Q (.inr (sMov A v1 v2).1) (fx_exc (fx_wI S I'))) :
    fx_Go G (8, 109) mm_V_move 0 [(0, fx_r G 0), (1, .int v1), (2, .int v2)] [] (fx_wI S I) (fx_qv F Q) := by
  refine bs_V_move_0 hS.w _ _ ?_
  refine cV_requireRunning hS hR hC.2.1 (fun q => ?_) (fun ho => ⟨hS, ?_⟩)
  · have e : sMov A v1 v2 = (1, A) := by unfold sMov; rw [if_pos q]
    rw [e] at h1
    exact h1 ne10 I (LC.r I) hC
  · have hOA := hO ho
    have hK := hOA.gk hB
    obtain ⟨hH, hT⟩ := hC.2.2 ho
    have hb : ∀ (o : Bool), (o = true ↔ us A v1 = true ∧ v1 ≠ nI 0 ∧ uk A v2 2 = true ∧ isB (vf A) v1.toNatClampNeg 12 v2.toNatClampNeg = false ∧ hnN (vf A) v1.toNatClampNeg (aH (vf A v2.toNatClampNeg)) = false) → fx_Go G (8, 109) mm_V_move 56 [(0, fx_r G 0), (1, .int v1), (2, .int v2)] [.int (bI o)] (fx_wI S I) (fx_qv F Q) := by
      intro o hoo
      refine bs_V_move_56 hS.w _ _ _ ?_
      refine cV_require hS hR (fun q => ?_) (fun q => ⟨hS, ?_⟩) rfl
      · have e : sMov A v1 v2 = (2, A) := by
          unfold sMov
          rw [if_neg (by rw [ho]; decide), if_neg (fun z => by rw [hoo.mpr z] at q; cases q)]
        rw [e] at h1
        exact h1 ne20 I (LC.r I) hC
      · have hc := hoo.mp q
        obtain ⟨r, hr, er, hur, _, ec⟩ := us_j hc.1
        obtain ⟨d, hd, ed, hud, _, ecd, hs2⟩ := uk_j hc.2.2.1
        subst er ed
        rw [ec, ecd] at hc
        have hr0 : r ≠ 0 := fun z => hc.2.1 (by rw [z])
        have es : sMov A (nI r) (nI d) = (let A1 := stA A r (setP (vf A r) d)
          if stOk (vt A) = false then (1, A1)
          else let A2 := lst A1 (aP (vf A r)) (outL A1 (aP (vf A r)) r)
            if stOk (vt A1) = false then (1, A2)
            else let A3 := lst A2 d (insL A2 d r)
              if stOk (vt A2) = false then (1, A3) else (0, A3)) := by
          unfold sMov
          rw [if_neg (by rw [ho]; decide), ec, ecd, if_pos hc]
        rw [es] at h0 h1
        clear es
        have hwr := (hK r hr).1 hur
        have hwd := (hK d hd).1 hud
        have hb12 : aP (vf A r) < 12 := hK.p hr
        obtain ⟨hub, hsb2⟩ := hOA.2.2.2.2.1 r hr hur
        have hbr : aP (vf A r) ≠ r := fun z => hr0 (ldN_ne 12 r (hOA.2.2.2.2.2.1 r hr hur) z)
        have hdr : d ≠ r := fun z => by
          have := hc.2.2.2.1
          rw [z, isB_self] at this
          cases this
        generalize hdd : aP (vf A r) = b at hb12 hub hsb2 hbr h0 h1
        have hrinb : r ∈ aH (vf A b) := ((hOA.li hb12 hub hsb2).2 r).mpr ⟨by omega, hr, hur, hdd⟩
        have hdb : d ≠ b := fun z => by
          have := hnN_mem _ hc.2.2.2.2
          rw [z] at this
          exact this hrinb
        have hP := hH r hr
        have hh := isH_at r hr
        simp only [wI_I, wI_setI, forall_eq]
        rw [ec, hP.2.1, hdd]
        refine ⟨pk_in r 12 hr rfl, pk_in r 12 hr rfl, ?_⟩
        have hF1 : FC [4 + 6 * r] I (fx_w I (4 + 6 * r) 1 (nI d)) := FC.w [4 + 6 * r] I _ _ _ (by simp <;> omega)
        have hP1 : ShP (fx_w I (4 + 6 * r) 1 (nI d)) (4 + 6 * r) (setN (setP (vf A r) d) (aN (vf A r))) := by
          obtain ⟨p1, p2, p3, p4, p5, p6, p7, p8⟩ := hP
          exact ⟨by rw [fw_nj (by omega)]; exact p1, fw_at _ _ _ _, by rw [fw_nj (by omega)]; exact p3, by rw [fw_nj (by omega)]; exact p4, by rw [fw_nj (by omega)]; exact p5, p6.fc hF1 (by simp <;> omega) (by simp <;> omega), p7.cg (hF1 _ (by simp <;> omega)), p8.fc hF1 (by simp <;> omega) (by simp <;> omega)⟩
        have hH1 : CH (fx_w I (4 + 6 * r) 1 (nI d)) (up (vf A) r (setN (setP (vf A r) d) (aN (vf A r)))) := hH.set r hr hF1 (fun a a1 a2 a3 => by simp <;> omega) hP1
        have hn0 : aN (vf A r) = wrd (vD A) (64 * r + 2) := ((hOA.rc r hr hur).1.w hwr.2.2.1).symm
        generalize fx_w I (4 + 6 * r) 1 (nI d) = I1 at hF1 hP1 hH1 ⊢
        have hwn : wf (setN (setP (vf A r) d) (nN (vD A) r)) := setP_wf hwr hd (nN_lt hB.1 r)
        refine cV_storeS hS hR (hC.1.fc hF1 (by simp <;> omega) (by simp <;> omega) (by simp <;> omega) (by simp <;> omega)) (by rw [hF1 0 (by simp <;> omega), hC.2.1, ho]) (hT.fc hF1 (by simp <;> omega)) hB ho r hr _ _ hH1 hn0 (setP_wf hwr hd hwr.2.2.1).sok (fun q2 J hJ hCJ => ?_) (fun q2 J hJ hCJ => ⟨hS, ?_⟩) rfl
        · simp only [if_pos q2] at h1
          exact h1 ne10 J ((hF1.lc (fun a ha => by simp at ha <;> omega)).tr (hJ.lc (fun a ha => by simp at ha <;> omega))) hCJ
        · have hLJ : LC I J := (hF1.lc (fun a ha => by simp at ha <;> omega)).tr (hJ.lc (fun a ha => by simp at ha <;> omega))
          rw [if_neg (by rw [q2]; decide)] at h0 h1
          have hB1 : BI (stA A r (setP (vf A r) d)) := hB.st r _ (enc_wf_lt (nN_lt hB.1 r) hwn)
          have ho1 : vo (stA A r (setP (vf A r) d)) = true := by rw [stA_o ho]; exact q2
          have hrc1 := RecsA hOA.rc q2 (r := r) (s := setP (vf A r) d) (fun _ => hwn)
          have hsr0 : aS (setP (vf A r) d) ≠ 0 := by
            have := hwr.1
            change aS (vf A r) ≠ 0
            omega
          have hK1 : GK (vU (stA A r (setP (vf A r) d))) (vf (stA A r (setP (vf A r) d))) := GK.st hK r _ _ (fun _ => hwn) (fun z => absurd z hsr0)
          have efb := stA_f (A := A) (s := setP (vf A r) d) hbr
          have efd := stA_f (A := A) (s := setP (vf A r) d) hdr
          generalize stA A r (setP (vf A r) d) = A1 at *
          obtain ⟨hHJ, hTJ⟩ := hCJ.2.2 ho1
          have hub1 : vU A1 b = true := by rw [efb.2]; exact hub
          have hsb1 : aS (vf A1 b) = 2 := by rw [efb.1]; exact hsb2
          have hwb1 := (hK1 b hb12).1 hub1
          have hol : ∀ x ∈ outL A1 b r, x < 12 := fun x hx => hwb1.2.2.2.2.2.2.2.1 (hwb1.k4 hsb1) x (List.mem_filter.mp hx).1
          have hoN : (outL A1 b r).length ≤ 12 := by
            have h1 := List.length_filter_le (kp (nI r)) (aH (vf A1 b))
            have h2 := hOA.l11 hb12 hub hsb2
            unfold outL
            rw [efb.1] at h1 ⊢
            omega
          have hn1 : aN (vf A1 b) = wrd (vD A1) (64 * b + 2) := ((hrc1 b hb12 hub1).1.w hwb1.2.2.1).symm
          refine cV_leave hS hHJ b r hb12 hwb1 hsb1 hr rfl (fun I2 hF2 hH2 => ⟨hS, ?_⟩) rfl rfl
          refine cV_storeS hS hR (hCJ.1.fc hF2 (by simp <;> omega) (by simp <;> omega) (by simp <;> omega) (by simp <;> omega)) (by rw [hF2 0 (by simp <;> omega), hCJ.2.1, ho1]) (hTJ.fc hF2 (by simp <;> omega)) hB1 ho1 b hb12 _ _ hH2 hn1 (sLi_wf hwb1 hwb1.2.2.1 hoN hol).sok (fun q3 K hK' hCK => ?_) (fun q3 K hK' hCK => ⟨hS, ?_⟩) rfl
          · simp only [if_pos q3] at h1
            exact h1 ne10 K (hLJ.tr ((hF2.lc (fun a ha => by simp at ha <;> omega)).tr (hK'.lc (fun a ha => by simp at ha <;> omega)))) hCK
          · have hLK : LC I K := hLJ.tr ((hF2.lc (fun a ha => by simp at ha <;> omega)).tr (hK'.lc (fun a ha => by simp at ha <;> omega)))
            rw [if_neg (by rw [q3]; decide)] at h0 h1
            change CS K (lst A1 b (outL A1 b r)) at hCK
            have hB2 : BI (lst A1 b (outL A1 b r)) := lst_lt hB1 hwb1 hoN hol
            have ho2 : vo (lst A1 b (outL A1 b r)) = true := by unfold lst; rw [stA_o ho1]; exact q3
            have hrc2 := lst_rc hB1 hrc1 q3 hwb1 hoN hol
            have hK2 : GK (vU (lst A1 b (outL A1 b r))) (vf (lst A1 b (outL A1 b r))) := GK.st hK1 b _ _ (fun _ => sLi_wf hwb1 (nN_lt hB1.1 b) hoN hol) (fun z => by cases z)
            have efd2 := stA_f (A := A1) (s := sLi (vf A1 b) (outL A1 b r)) hdb
            change vf (lst A1 b (outL A1 b r)) d = vf A1 d ∧ vU (lst A1 b (outL A1 b r)) d = vU A1 d at efd2
            generalize lst A1 b (outL A1 b r) = A2 at *
            obtain ⟨hHK, hTK⟩ := hCK.2.2 ho2
            have hud2 : vU A2 d = true := by rw [efd2.2, efd.2]; exact hud
            have hsd2 : aS (vf A2 d) = 2 := by rw [efd2.1, efd.1]; exact hs2
            have hwd2 := (hK2 d hd).1 hud2
            have hl11 : (aH (vf A2 d)).length ≤ 11 := by rw [efd2.1, efd.1]; exact hOA.l11 hd hud hs2
            have hxd2 : ∀ x ∈ insL A2 d r, x < 12 := by
              intro x hx
              rcases insA_mem hx with hx | hx
              · rw [hx]; exact hr
              · exact hwd2.2.2.2.2.2.2.2.1 (hwd2.k4 hsd2) x hx
            have hil : (insL A2 d r).length ≤ 12 := by
              unfold insL
              rw [insA_len _ _ _ (ipos_le _ _ _)]
              omega
            have hn2 : aN (vf A2 d) = wrd (vD A2) (64 * d + 2) := ((hrc2 d hd hud2).1.w hwd2.2.2.1).symm
            refine cV_enter hS hK2 hHK d r hd hud2 hsd2 hr (by omega) rfl (fun I3 hF3 hH3 => ⟨hS, ?_⟩) rfl rfl
            refine cV_storeS hS hR (hCK.1.fc hF3 (by simp <;> omega) (by simp <;> omega) (by simp <;> omega) (by simp <;> omega)) (by rw [hF3 0 (by simp <;> omega), hCK.2.1, ho2]) (hTK.fc hF3 (by simp <;> omega)) hB2 ho2 d hd _ _ hH3 hn2 (sLi_wf hwd2 hwd2.2.2.1 hil hxd2).sok (fun q4 L hL' hCL => ?_) (fun q4 L hL' hCL => ⟨hS, ?_⟩) rfl
            · simp only [if_pos q4] at h1
              exact h1 ne10 L (hLK.tr ((hF3.lc (fun a ha => by simp at ha <;> omega)).tr (hL'.lc (fun a ha => by simp at ha <;> omega)))) hCL
            · rw [if_neg (by rw [q4]; decide)] at h0
              exact h0 rfl L (hLK.tr ((hF3.lc (fun a ha => by simp at ha <;> omega)).tr (hL'.lc (fun a ha => by simp at ha <;> omega)))) hCL
    refine cV_isUsed hS hK hH v1 ⟨hS, ?_⟩
    rw [← us_on ho]
    refine b0 (fun q => ?_) (fun q => ?_)
    · exact hb false ⟨fun z => (by cases z), fun z => by rw [q] at z; cases z.1⟩
    · refine ⟨fun q2 => ?_, fun q2 => ?_⟩
      · exact hb false ⟨fun z => (by cases z), fun z => absurd q2 z.2.1⟩
      · obtain ⟨r, hr, er, hur, _, ec⟩ := us_j q
        have hr0 : r ≠ 0 := fun z => q2 (by rw [er, z]; rfl)
        refine cV_isDirectory hS hK hH v2 ⟨hS, ?_⟩
        rw [← uk_on ho]
        refine b0 (fun q3 => ?_) (fun q3 => ?_)
        · exact hb false ⟨fun z => (by cases z), fun z => by rw [q3] at z; cases z.2.2.1⟩
        · obtain ⟨d, hd, ed, hud, _, ecd, hs2⟩ := uk_j q3
          have hwr := (hK r hr).1 hur
          refine cV_isAtOrBelow hS hK hH hOA.2.2.1.2.2.1 d r hd hr hr0 (hOA.2.2.2.2.2.1 d hd hud) ⟨hS, ?_⟩ ed er
          refine b1 (fun q4 => ?_) (fun q4 => ?_)
          · exact hb false ⟨fun z => (by cases z), fun z => by rw [ec, ecd, q4] at z; cases z.2.2.2.1⟩
          · rw [ec]
            refine ⟨pk_in r 12 hr er, ?_⟩
            have hx : ∀ e ∈ aH (vf A d), e < 12 := fun e he => (((hOA.li hd hud hs2).2 e).mp he).2.1
            have hfd := hnN_fd hK hr (aH (vf A d)) hx
            refine cV_entryNamed hS hK hH (4 + 6 * r + 1) (isH_at r hr).n (hH r hr).2.2.2.2.2.1 (hK.nm hr) d hd hud hs2 ⟨hS, fun q5 => ?_, fun q5 => ?_⟩ ed
            · exact hb false ⟨fun z => (by cases z), fun z => absurd (hfd.mp (by rw [ec, ecd] at z; exact z.2.2.2.2)) q5⟩
            · exact hb true ⟨fun _ => ⟨q, q2, q3, by rw [ec, ecd]; exact q4, by rw [ec, ecd]; exact hfd.mpr q5⟩, fun _ => rfl⟩
end CR
