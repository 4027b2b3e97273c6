/-! The class's mount. -/
def MR (D : Nat → Nat) (f : Nat → AS) : Prop := (∀ r, r < 12 → inU D r = true → Rec D r (f r) ∧ wf (f r) ∧ ∀ x ∈ aM (f r), isLt x = true) ∧ (∀ r, r < 12 → inU D r = false → f r = frA (wrd D (64 * r + 2))) ∧ (inU D 0 = true → aS (f 0) = 2 ∧ aP (f 0) = 0)
theorem inU_cg {D b : Nat → Nat} {r : Nat} (h : ∀ k, k < 64 → b k = D (64 * r + k)) : inU b 0 = inU D r := by
  have w : ∀ p, p < 63 → wrd b (64 * 0 + p) = wrd D (64 * r + p) := by
    intro p hp
    unfold wrd
    rw [show 64 * 0 + p = p by omega, h p (by omega), h (p + 1) (by omega), show 64 * r + (p + 1) = 64 * r + p + 1 by omega]
  unfold inU torn
  rw [w 30 (by omega), w 2 (by omega), w 62 (by omega), show 64 * 0 = 0 from rfl, h 0 (by omega), Nat.add_zero (64 * r)]
theorem Rec_cg {D b : Nat → Nat} {r : Nat} {s : AS} (h : ∀ k, k < 64 → b k = D (64 * r + k)) (hR : Rec D r s) : Rec b 0 s := by
  intro k hk
  rw [← hR k hk]
  unfold byt
  by_cases c1 : k = 30 ∨ k = 31
  · rw [if_pos c1, if_pos c1, show 64 * 0 + k - 26 = k - 26 by omega, h (k - 26) (by omega)]
    congr 1
    omega
  · rw [if_neg c1, if_neg c1]
    by_cases c2 : k = 62 ∨ k = 63
    · rw [if_pos c2, if_pos c2, show 64 * 0 + k - 56 = k - 56 by omega, h (k - 56) (by omega)]
      congr 1
      omega
    · rw [if_neg c2, if_neg c2]
      by_cases c3 : 3 < k ∧ k < 8
      · rw [if_pos c3, if_pos c3]
      · rw [if_neg c3, if_neg c3, show 64 * 0 + k = k by omega, h k hk]
section CMN
variable {G : fx_G} {S : fx_S} {I : Nat → Nat → Int32} {Q : fx_R → fx_S → Prop} {A : VS}
theorem cV_mtEnd {F : Int32 → fx_S → Prop} (hS : shC S) (hR : fx_roomx S) (hC : CB I A) (hH : CH I (vf A)) (hM : ML A) (hroot : vU A 0 = true → aS (vf A 0) = 2 ∧ aP (vf A 0) = 0) (hfr : vU A 0 = false → vf A 0 = frA (wrd (vD A) 2))
    (h2 : vo (sMnt A).2 = true → ∀ J, LC I J → CB J (sMnt A).2 → J 0 4 = bI true → CH J (vf (sMnt A).2) → (∀ T, tkT (vU (sMnt A).2) (vf (sMnt A).2) 12 T → CT J T) → F (nI (sMnt A).1) (fx_wI S J))
    (h1 : vo (sMnt A).2 = false → ∀ J, LC I J → CB J (sMnt A).2 → J 0 4 = nI 0 → Q (.inr 1) (fx_exc (fx_wI S J))) {v1 : Int32} (e1 : v1 = nI 12) :
    fx_Go G (9, 125) mm_V_mount 2 [(0, fx_r G 0), (1, .int v1)] [] (fx_wI S I) (fx_qi F Q) := by
  subst e1
  refine bs_V_mount_2 hS.w _ ?_
  refine pk_le 12 12 (fun _ => ?_) (fun q => by omega) rfl rfl (by omega) (by omega)
  unfold sMnt at h1 h2
  have aft : ∀ (c0 : Nat) (A1 : VS) (J : Nat → Nat → Int32), c0 ≤ 1 → mRoot A = (c0, A1) → CB J A1 → CH J (vf A1) → ML A1 → vU A1 0 = true → aS (vf A1 0) = 2 → aP (vf A1 0) = 0 → fmt I J →
      fx_Go G (8, 109) mm_V_adoptStrays 0 [(0, fx_r G 0)] [] (fx_wI S J) (fx_qi (fun x4 S3 => shC S3 ∧ fx_Go G (8, 109) mm_V_mendLists 0 [(0, fx_r G 0)] [] S3 (fx_qi (fun x6 S5 => shC S5 ∧ fx_Go G (1, 12) mm_V_noteTaken 0 [(0, fx_r G 0)] [] S5 (fx_qv (fun S7 => shC S7 ∧ ∀ S8, S8 = fx_setI S7 0 4 1 → fx_qi F Q (.inl (some (.int ((nI c0 + x4) + x6)))) S8) (fx_qi F Q))) (fx_qi F Q))) (fx_qi F Q)) := by
    intro c0 A1 J hc0 hm hCJ hHJ hMJ hu0 hs0 hp0 hfm
    have hk1 := mPar_k 11 1 0 A1 (by omega) hMJ.2.2.1 hMJ.2.2.2 hMJ.2.1
    rw [hm] at h1 h2
    simp only at h1 h2
    rw [if_neg (by rw [hMJ.2.2.2]; decide), mPar_c 11 1 c0 A1] at h1 h2
    simp only at h1 h2
    refine bs_V_adoptStrays_0 hS.w ?_
    refine bs_V_adoptStrays_4 hS.w _ _ ?_
    refine pk_le 12 0 (fun q => by omega) (fun _ => ?_) rfl rfl (by omega) (by omega)
    refine cV_isUsed hS hMJ.1 hHJ 0 ⟨hS, ?_⟩
    have eu : isr true (vU A1) 0 = true := by
      have := isr_nI (on := true) (U := vU A1) (j := 0) (by omega)
      rw [hu0] at this
      exact this
    rw [eu]
    refine b0 (fun q => by cases q) (fun _ => ?_)
    refine cV_leadsToRoot hS hMJ.1 hHJ 0 (by omega) ⟨hS, ?_⟩ rfl
    have el : cLr (vU A1) (vf A1) 12 (aP (vf A1 0)) = true := by
      rw [hp0]
      show (if vU A1 0 = true ∧ aS (vf A1 0) = 2 then (if 0 = 0 then true else _) else false) = true
      rw [if_pos ⟨hu0, hs0⟩, if_pos rfl]
    rw [el]
    refine b1 (fun _ => ?_) (fun q => by cases q)
    refine cV_as4 hS hR 11 1 0 A1 J (by omega) (by omega) (by omega) hCJ hHJ hMJ (fun ho2 K hK hCK hHK hMK => ⟨hS, ?_⟩) (fun ho2 K hK hCK h04 => ?_) rfl rfl
    · rw [if_neg (by rw [ho2]; decide), mLis_c 12 0] at h1 h2
      simp only at h1 h2
      refine bs_V_mendLists_0 hS.w ?_
      have hk2 := mLis_k 12 0 0 (mPar 11 1 0 A1).2 (by omega) hMK.2.2.1 hMK.2.2.2 hMK.2.1
      refine cV_ml4 hS hR 12 0 0 (mPar 11 1 0 A1).2 K (by omega) (by omega) hCK hHK hMK (fun ho3 L hL hCL hHL hML => ⟨hS, ?_⟩) (fun ho3 L hL hCL h04 => ?_) rfl rfl
      · refine cV_noteTaken hS hML.1 hHL (fun M hFM hTM => ⟨hS, ?_⟩)
        simp only [wI_setI, forall_eq]
        have hFN : FC [0] M (fx_w M 0 4 1) := FC.w [0] M 0 _ _ (by simp <;> omega)
        have hFLN : FC [0, 76] L (fx_w M 0 4 1) := (hFM.mono (fun a ha => by simp at ha ⊢ <;> omega)).tr (hFN.mono (fun a ha => by simp at ha ⊢ <;> omega))
        have := h2 ho3 (fx_w M 0 4 1) ((hfm.tr (hK.tr hL)).lc.tr (hFLN.lc (fun a ha => by simp at ha <;> omega))) (hCL.fc hFLN (by simp <;> omega) (by simp <;> omega) (by simp <;> omega) (by simp <;> omega)) (fw_at _ _ _ _) (hHL.fc hFLN (fun a a1 a2 => by simp <;> omega)) (fun T hT => (hTM T hT).fc hFN (by simp <;> omega))
        rw [nI_add, nI_add]
        exact this
      · exact h1 ho3 L ((hfm.tr hK).lc.tr hL) hCL h04
    · rw [if_pos ho2] at h1
      exact h1 ho2 K (hfm.lc.tr hK) hCK h04
  refine bs_V_restoreRoot_0 hS.w ?_
  refine cV_isUsed hS hM.1 hH 0 ⟨hS, ?_⟩
  have eu : isr true (vU A) 0 = vU A 0 := by
    have := isr_nI (on := true) (U := vU A) (j := 0) (by omega)
    rw [Bool.true_and] at this
    exact this
  rw [eu]
  refine b0 (fun q => ?_) (fun q => ?_)
  · refine ⟨pk_in 0 12 (by omega) rfl, ?_⟩
    have hB := hM.2.2.1
    have hf0 := hfr q
    have hn0 := wrd_lt hB.1 2
    refine cH_become hS 4 (isH_at 0 (by omega)) 2 0 (wrd (vD A) 2) (by omega) (by rw [show (4 : Nat) = 4 + 6 * 0 from rfl, (hH 0 (by omega)).2.2.1, hf0]; rfl) (fun I1 hF1 hP1 => ⟨hS, ?_⟩) rfl rfl
    have hH1 : CH I1 (up (vf A) 0 (setN rootS (wrd (vD A) 2))) := hH.set 0 (by omega) hF1 (fun a a1 a2 a3 => by simp <;> omega) hP1
    have em : mRoot A = (1, stA A 0 rootS) := by unfold mRoot; rw [if_neg (by rw [q]; decide)]
    have hwn : wf (setN rootS (nN (vD A) 0)) := rootS_wf (nN_lt hB.1 0)
    refine cV_store hS hR (hC.fc hF1 (by simp <;> omega) (by simp <;> omega) (by simp <;> omega) (by simp <;> omega)) hB.2.1 hH1 0 (by omega) rootS _ (up_at _ _ _) rfl (by rw [up_at]; exact (rootS_wf hn0).sok) (nN_lt hB.1 0) (fun q3 J hJ hCB h04 => ?_) (fun q3 J hJ hCB hCH => ⟨hS, hS, ?_⟩) rfl
    · rw [em] at h1
      have ho1 : vo (stA A 0 rootS) = false := by rw [stA_o hM.2.2.2]; exact q3
      rw [if_pos ho1] at h1
      exact h1 ho1 J ((hF1.lc (fun a ha => by simp at ha <;> omega)).tr (hJ.lc (fun a ha => by simp at ha <;> omega))) hCB h04
    · rw [up_up] at hCH
      have hfm : fmt I J := (hF1.fm (fun a ha => by simp at ha <;> omega)).tr (hJ.fm (fun a ha => by simp at ha <;> omega))
      exact aft 1 _ J (by omega) em hCB hCH (hM.st 0 rootS q3 ne20 hwn) rfl rfl rfl hfm
  · have em : mRoot A = (0, A) := by unfold mRoot; rw [if_pos q]
    exact ⟨hS, aft 0 A I (by omega) em hC hH hM q (hroot q).1 (hroot q).2 (fun _ _ => rfl)⟩
theorem cV_mt2 {F : Int32 → fx_S → Prop} (hS : shC S) {D : Nat → Nat} (hB : ∀ k, D k < 256) {f : Nat → AS} (hf : MR D f)
    (hE : ∀ J, fmt I J → J 1 = I 1 → J 2 = nF D → CH J f → fx_Go G (9, 125) mm_V_mount 2 [(0, fx_r G 0), (1, .int (nI 12))] [] (fx_wI S J) (fx_qi F Q)) :
    ∀ (m r : Nat) (J : Nat → Nat → Int32) {v1 : Int32}, r + m = 12 → fmt I J → J 1 = I 1 → J 2 = nF D → (∀ x, x < r → ShP J (4 + 6 * x) (f x)) → v1 = nI r →
    fx_Go G (9, 125) mm_V_mount 2 [(0, fx_r G 0), (1, .int v1)] [] (fx_wI S J) (fx_qi F Q) := by
  intro m
  induction m with
  | zero =>
    intro r J v1 hr hJ h1 h2 hP e1
    subst e1
    have : r = 12 := by omega
    subst this
    exact hE J hJ h1 h2 hP
  | succ m ih =>
    intro r J v1 hr hJ h1 h2 hP e1
    subst e1
    have hr' : r < 12 := by omega
    refine bs_V_mount_2 hS.w _ ?_
    refine pk_le 12 r (fun q => by omega) (fun _ => ?_) rfl rfl (by omega) (by omega)
    refine cD_liftRecord hS h2 r hr' (fun b hb => ⟨hS, pk_in r 12 hr' rfl, ?_⟩) rfl
    rw [nI_clamp (by omega)]
    have hF1 : FC [83] J (fx_row J 83 (nF b)) := FC.row [83] J 83 _ (by simp <;> omega)
    have hiu : inU b 0 = inU D r := inU_cg hb
    refine cH_decode hS (4 + 6 * r) (isH_at r hr') (by omega) (s := f r) (b := b) (row_at _ _ _) (fun k hk => by rw [hb k hk]; exact hB _) (fun q => ?_) (fun q => ?_) (fun K hFK hPK => ⟨hS, ?_⟩)
    · rw [hiu] at q
      obtain ⟨g1, g2, g3⟩ := hf.1 r hr' q
      exact ⟨Rec_cg hb g1, g2, g3⟩
    · rw [hiu] at q
      rw [hf.2.1 r hr' q]
      unfold wrd
      rw [hb 2 (by omega), hb 3 (by omega)]
    · have hFJ : FC [4 + 6 * r, 4 + 6 * r + 1, 4 + 6 * r + 2, 4 + 6 * r + 3, 4 + 6 * r + 4, 4 + 6 * r + 5, 83] J K := (hF1.mono (fun a ha => by simp at ha ⊢ <;> omega)).tr hFK
      refine ih (r + 1) K (by omega) (hJ.tr (hFJ.fm (fun a ha => by simp at ha <;> omega))) (by rw [hFJ 1 (by simp <;> omega)]; exact h1) (by rw [hFJ 2 (by simp <;> omega)]; exact h2) (fun x hx => ?_) (by first | rfl | (simp (disch := omega) only [nI_lit, nI_ofInt1, nI_ofInt4, nI_ofInt2, nI_ofInt3, mI_neg, wI_I, wI_setI, wI_setR, forall_eq, nI_add, pk_mul, pk_sub, pk_div, pk_rem, nI_clamp, nI_leI, nI_ltI, nI_eq, vin_iff, nar0, nar1, nF_ap, bF_ap, oF_ap, bI_0, bI_1, and255, bu_w, bu_p, bu_90, bu_9, row_w, row_at, nF_up, nI_ofIntm] <;> first | done | omega | (congr 1; omega)))
      by_cases e : x = r
      · subst e
        exact hPK
      · exact (hP x (by omega)).fc hFJ (fun a a1 a2 => by simp <;> omega)
theorem cV_mount {F : Int32 → fx_S → Prop} (hS : shC S) (hR : fx_roomx S) (hC : CB I A) (hB : BI A) (f : Nat → AS) (hf : MR (vD A) f) (U : Nat → Bool) (hU : okU (vD A) U)
    (h2 : vo (sMnt (mSt A U f)).2 = true → ∀ J, LC I J → CB J (sMnt (mSt A U f)).2 → J 0 4 = bI true → CH J (vf (sMnt (mSt A U f)).2) → (∀ T, tkT (vU (sMnt (mSt A U f)).2) (vf (sMnt (mSt A U f)).2) 12 T → CT J T) → F (nI (sMnt (mSt A U f)).1) (fx_wI S J))
    (h1 : vo (sMnt (mSt A U f)).2 = false → ∀ J, LC I J → CB J (sMnt (mSt A U f)).2 → J 0 4 = nI 0 → Q (.inr 1) (fx_exc (fx_wI S J))) :
    fx_Go G (9, 125) mm_V_mount 0 [(0, fx_r G 0)] [] (fx_wI S I) (fx_qi F Q) := by
  have hML : ML (mSt A U f) := by
    refine ⟨fun r hr => ⟨fun hu => ?_, fun hu => ?_⟩, fun r hr hu => ?_, hB, rfl⟩
    · change U r = true at hu
      rw [hU r hr] at hu
      exact (hf.1 r hr hu).2.1
    · change U r = false at hu
      rw [hU r hr] at hu
      exact ⟨_, wrd_lt hB.1 _, hf.2.1 r hr hu⟩
    · change U r = true at hu
      rw [hU r hr] at hu
      exact ⟨(hf.1 r hr hu).1, (hf.1 r hr hu).2.1⟩
  refine bs_V_mount_0 hS.w ?_
  refine cV_mt2 hS hB.1 hf (fun J hJ g1 g2 hCH => ?_) 12 0 I (by omega) (fun _ _ => rfl) rfl hC.1 (fun x hx => by omega) rfl
  refine cV_mtEnd hS hR (A := mSt A U f) ⟨g2, by rw [g1]; exact hC.2.1, hC.2.2.cg (hJ 77 (by omega)) (hJ 78 (by omega))⟩ hCH hML (fun hu => ?_) (fun hu => ?_) (fun ho K hK => h2 ho K (hJ.lc.tr hK)) (fun ho K hK => h1 ho K (hJ.lc.tr hK)) rfl
  · change U 0 = true at hu
    rw [hU 0 (by omega)] at hu
    exact hf.2.2 hu
  · change U 0 = false at hu
    rw [hU 0 (by omega)] at hu
    exact hf.2.1 0 (by omega) hu
end CMN
