/-! The reference's mount, whole. -/
/-- what mending keeps -/
def Kp (A B : VS) : Prop := BI B ∧ vl B = vl A ∧ (vo B = true → Recs (vD B) (vU B) (vf B))
theorem mPar_k : ∀ (n r c : Nat) (A : VS), r + n ≤ 12 → BI A → vo A = true → Recs (vD A) (vU A) (vf A) → Kp A (mPar n r c A).2 ∧ (mPar n r c A).1 ≤ c + n
  | 0, r, c, A, _, hB, ho, hrc => ⟨⟨hB, rfl, fun _ => hrc⟩, Nat.le_refl _⟩
  | n + 1, r, c, A, hr, hB, ho, hrc => by
    unfold mPar
    split
    · rename_i q
      obtain ⟨hR, hw⟩ := hrc r (by omega) q.1
      have hn := nN_lt hB.1 r
      have hwn : wf (setN (setP (vf A r) 0) (nN (vD A) r)) := setP_wf hw (by omega) hn
      have hB1 := hB.st r _ (enc_wf_lt hn hwn)
      split
      · rename_i hk
        exact ⟨⟨hB1, rfl, fun z => by rw [show vo ((c + 1, stA A r (setP (vf A r) 0)) : Nat × VS).2 = vo (stA A r (setP (vf A r) 0)) from rfl, stA_o ho, hk] at z; cases z⟩, by show c + 1 ≤ _; omega⟩
      · rename_i hk
        have hk' : stOk (vt A) = true := by simpa using hk
        have := mPar_k n (r + 1) (c + 1) (stA A r (setP (vf A r) 0)) (by omega) hB1 (by rw [stA_o ho]; exact hk') (RecsA hrc hk' (fun _ => hwn))
        exact ⟨⟨this.1.1, this.1.2.1, this.1.2.2⟩, by omega⟩
    · have := mPar_k n (r + 1) c A (by omega) hB ho hrc
      exact ⟨this.1, by omega⟩
theorem mLis_k : ∀ (n d c : Nat) (A : VS), d + n ≤ 12 → BI A → vo A = true → Recs (vD A) (vU A) (vf A) → Kp A (mLis n d c A).2 ∧ (mLis n d c A).1 ≤ c + n
  | 0, d, c, A, _, hB, ho, hrc => ⟨⟨hB, rfl, fun _ => hrc⟩, Nat.le_refl _⟩
  | n + 1, d, c, A, hr, hB, ho, hrc => by
    unfold mLis
    split
    · rename_i q
      obtain ⟨hR, hw⟩ := hrc d (by omega) q.1
      have hcc := colL_c (vU A) (vf A) d 11 1 [] (by omega) (by omega) (by simp) (fun e he => by cases he)
      change (colA A d).length < 12 ∧ ∀ e ∈ colA A d, e < 12 ∧ vU A e = true at hcc
      have hB1 : BI (lst A d (colA A d)) := lst_lt hB hw (by omega) (fun x hx => (hcc.2 x hx).1)
      split
      · rename_i hk
        exact ⟨⟨hB1, rfl, fun z => by rw [show vo ((c + 1, lst A d (colA A d)) : Nat × VS).2 = vo (stA A d (sLi (vf A d) (colA A d))) from rfl, stA_o ho, hk] at z; cases z⟩, by show c + 1 ≤ _; omega⟩
      · rename_i hk
        have hk' : stOk (vt A) = true := by simpa using hk
        have := mLis_k n (d + 1) (c + 1) (lst A d (colA A d)) (by omega) hB1 (by unfold lst; rw [stA_o ho]; exact hk') (lst_rc hB hrc hk' hw (by omega) (fun x hx => (hcc.2 x hx).1))
        exact ⟨⟨this.1.1, this.1.2.1, this.1.2.2⟩, by omega⟩
    · have := mLis_k n (d + 1) c A (by omega) hB ho hrc
      exact ⟨this.1, by omega⟩
theorem mRoot_k {A : VS} (hB : BI A) (ho : vo A = true) (hrc : Recs (vD A) (vU A) (vf A)) : Kp A (mRoot A).2 ∧ (mRoot A).1 ≤ 1 := by
  unfold mRoot
  split
  · exact ⟨⟨hB, rfl, fun _ => hrc⟩, Nat.zero_le _⟩
  · have hn := nN_lt hB.1 0
    refine ⟨⟨hB.st 0 _ (enc_wf_lt hn (rootS_wf hn)), rfl, fun z => ?_⟩, Nat.le_refl _⟩
    refine RecsA hrc ?_ (fun _ => rootS_wf hn)
    have z' : vo (stA A 0 rootS) = true := z
    rw [stA_o ho] at z'
    exact z'
abbrev MF (I I' : Nat → Nat → Int32) : Prop := Fr [86, 87, 88, 90, 91, 94] [0, 4, 5, 9, 10, 14, 16] I I'
theorem MF.tr {I I' I'' : Nat → Nat → Int32} (h : MF I I') (h' : MF I' I'') : MF I I'' := Fr.tr h h' (fun _ h => ⟨h, h⟩) (fun _ h => ⟨h, h⟩)
theorem MF.k {I I' : Nat → Nat → Int32} (h : MF I I') : K85 I I' := Fr.k h (fun a ha => by simp; omega)
section MMNT3
variable {G : fx_G} {S : fx_S} {I : Nat → Nat → Int32} {Q : fx_R → fx_S → Prop} {F : Int32 → fx_S → Prop} {A : VS}
theorem MS.mf {J : Nat → Nat → Int32} {B : VS} {T T0 : Nat → Bool} (h : MS I A) (hF : MF I J) (hd : MD J B) (hl : vl B = vl A) (h4 : J 85 4 = bI (vo B)) (h88 : J 88 = bF T0) (hT : vo B = true → T0 = T) : MS J (setT B T) := by
  obtain ⟨h1, h2, h3, h4', h5, U, T', h6, h7, h8⟩ := h
  obtain ⟨g1, g2, U', g3, g4⟩ := hd
  refine ⟨g1, g2, ?_, ?_, h4, U', T0, g3, h88, fun z => ⟨g4 z, hT z⟩⟩
  · show J 85 6 = nI (vl B).length
    rw [hl, hF.2 6 (by decide)]; exact h3
  · show rowL J 89 (vl B)
    rw [hl]; exact h4'.cg (hF.1 89 (by decide) (by decide))
theorem cM_mount (hS : shM S) (hM : MS I A) (hB : BI A) {U0 : Nat → Bool} (h87 : I 87 = bF U0) (f : Nat → AS) (hf : ∀ r, r < 12 → inU (vD A) r = true → Rec (vD A) r (f r) ∧ wf (f r))
    (h : ∀ U T, okU (vD A) U → (∀ x, 12 ≤ x → U x = U0 x) → (vo (sMnt (mSt A U f)).2 = true → tkT (vU (sMnt (mSt A U f)).2) (vf (sMnt (mSt A U f)).2) 12 T) → ∀ I', K85 I I' → MS I' (setT (sMnt (mSt A U f)).2 T) → I' 85 0 = nI (if vo (sMnt (mSt A U f)).2 = true then 0 else 1) → F (if vo (sMnt (mSt A U f)).2 = true then nI (sMnt (mSt A U f)).1 else nI 0) (fx_wI S I')) :
    fx_Go G (7, 105) mm_M_mount 0 [(0, fx_r G 85)] [] (fx_wI S I) (fx_qi F Q) := by
  obtain ⟨_, _, _, _, _, _, Tx, _, m7, _⟩ := id hM
  refine bs_M_mount_0 hS.w ?_
  simp only [wI_setI, forall_eq]
  have hF0 : MF I (fx_w (fx_w (fx_w I 85 0 (nI 0)) 85 4 (nI 0)) 85 16 (nI 0)) := MF.tr (MF.tr (Fr.w5 _ _ _ _ _ (by decide)) (Fr.w5 _ _ _ _ _ (by decide))) (Fr.w5 _ _ _ _ _ (by decide))
  have hD0 : fx_w (fx_w (fx_w I 85 0 (nI 0)) 85 4 (nI 0)) 85 16 (nI 0) 86 = nF (vD A) := hM.1
  have hU0 : fx_w (fx_w (fx_w I 85 0 (nI 0)) 85 4 (nI 0)) 85 16 (nI 0) 87 = bF U0 := h87
  have hT0 : fx_w (fx_w (fx_w I 85 0 (nI 0)) 85 4 (nI 0)) 85 16 (nI 0) 88 = bF Tx := m7
  have h50 : fx_w (fx_w (fx_w I 85 0 (nI 0)) 85 4 (nI 0)) 85 16 (nI 0) 85 5 = nI (vt A) := hM.2.1
  have h00 : fx_w (fx_w (fx_w I 85 0 (nI 0)) 85 4 (nI 0)) 85 16 (nI 0) 85 0 = nI 0 := rfl
  have h40 : fx_w (fx_w (fx_w I 85 0 (nI 0)) 85 4 (nI 0)) 85 16 (nI 0) 85 4 = bI false := rfl
  have h160 : fx_w (fx_w (fx_w I 85 0 (nI 0)) 85 4 (nI 0)) 85 16 (nI 0) 85 16 = nI 0 := rfl
  rw [show (0 : Int32) = nI 0 from rfl]
  generalize fx_w (fx_w (fx_w I 85 0 (nI 0)) 85 4 (nI 0)) 85 16 (nI 0) = J at *
  refine cM_mt17 hS hB.1 12 0 U0 J (by omega) hD0 hU0 (fun x hx => absurd hx (by omega)) (fun I1 U hF1 hU1 hok hxx => ?_) rfl
  have hFa : MF I I1 := hF0.tr (hF1.mono (fun a h => by simp at h ⊢; omega) (fun a h => by simp at h))
  have hD1 := (hF1.1 86 (by decide) (by decide)).trans hD0
  have hT1 := (hF1.1 88 (by decide) (by decide)).trans hT0
  have h51 := (hF1.2 5 (by simp)).trans h50
  have h01 := (hF1.2 0 (by simp)).trans h00
  have h41 := (hF1.2 4 (by simp)).trans h40
  have h161 := (hF1.2 16 (by simp)).trans h160
  have hrc : Recs (vD (mSt A U f)) (vU (mSt A U f)) (vf (mSt A U f)) := fun e he hu => hf e he ((hok e he).symm.trans hu)
  have hMD : MD I1 (mSt A U f) := ⟨hD1, h51, U, hU1, fun _ => rfl⟩
  have hB0 : BI (mSt A U f) := hB
  have ho0 : vo (mSt A U f) = true := rfl
  have hl0 : vl (mSt A U f) = vl A := rfl
  have h' := fun T => h U T hok hxx
  clear h hF1 hF0
  generalize mSt A U f = B at *
  obtain ⟨⟨kB, kl, krc⟩, kc⟩ := mRoot_k hB0 ho0 hrc
  -- it fails somewhere
  have bad : ∀ (K : Nat → Nat → Int32), MF I K → MD K (sMnt B).2 → vl (sMnt B).2 = vl A → vo (sMnt B).2 = false → K 85 4 = bI false → K 88 = bF Tx → F (nI 0) (fx_wI S (fx_w K 85 0 (nI 1))) := by
    intro K hK hd hl hv h4 h88
    have hF5 : MF I (fx_w K 85 0 (nI 1)) := hK.tr (Fr.w5 _ _ _ _ _ (by decide))
    have := h' Tx (fun z => by rw [hv] at z; cases z) (fx_w K 85 0 (nI 1)) hF5.k (hM.mf hF5 hd hl (by rw [hv]; exact h4) h88 (fun _ => rfl))
    rw [if_neg (by rw [hv]; decide), if_neg (by rw [hv]; decide)] at this
    exact this rfl
  have good : ∀ (K : Nat → Nat → Int32), MF I K → MD K (sMnt B).2 → vl (sMnt B).2 = vl A → vo (sMnt B).2 = true → Recs (vD (sMnt B).2) (vU (sMnt B).2) (vf (sMnt B).2) → K 85 0 = nI 0 → K 85 16 = nI (sMnt B).1 → K 88 = bF Tx → fx_Go G (7, 105) mm_M_mount 97 [(0, fx_r G 85), (1, .int 0)] [] (fx_wI S K) (fx_qi F Q) := by
    intro K hK hd hl hv hr h0 h16 h88
    have hMC := hd.mc hv
    refine cM_mt97 hS 128 0 Tx K (by omega) h88 (fun x hx => absurd hx (by omega)) (fun I2 T2 hF2 hT2 ht2 => ?_) rfl
    refine cM_mt119 hS hr 12 0 T2 I2 (by omega) ((hF2.1 86 (by decide) (by decide)).trans hMC.1) ((hF2.1 87 (by decide) (by decide)).trans hMC.2.2) hT2 (fun c hc => ?_) (fun I3 T3 hF3 hT3 ht3 h43 => ?_) rfl
    · rw [ht2 c hc]
      exact ⟨fun z => (by cases z), fun ⟨r, hr, _⟩ => absurd hr (by omega)⟩
    · have hF5 : MF I I3 := (hK.tr (hF2.mono (fun a h => by simp at h ⊢; omega) (fun a h => by simp at h))).tr (hF3.mono (fun a h => by simp at h ⊢; omega) (fun a h => by simp at h ⊢; omega))
      have e16 : I3 85 16 = nI (sMnt B).1 := (hF3.2 16 (by decide)).trans ((hF2.2 16 (by simp)).trans h16)
      have e0 : I3 85 0 = nI 0 := (hF3.2 0 (by decide)).trans ((hF2.2 0 (by simp)).trans h0)
      have hd3 : MD I3 (sMnt B).2 := ⟨(hF3.1 86 (by decide) (by decide)).trans ((hF2.1 86 (by decide) (by decide)).trans hMC.1), (hF3.2 5 (by decide)).trans ((hF2.2 5 (by simp)).trans hMC.2.1), _, (hF3.1 87 (by decide) (by decide)).trans ((hF2.1 87 (by decide) (by decide)).trans hMC.2.2), fun _ => rfl⟩
      have := h' T3 (fun _ => ht3) I3 hF5.k (hM.mf hF5 hd3 hl (by rw [hv]; exact h43) hT3 (fun _ => rfl))
      rw [if_pos hv, if_pos hv] at this
      rw [e16]
      exact this e0
  -- the lists
  have lists : ∀ (K : Nat → Nat → Int32), MF I K → vo (mRoot B).2 = true → vo (mPar 11 1 (mRoot B).1 (mRoot B).2).2 = true → MD K (mPar 11 1 (mRoot B).1 (mRoot B).2).2 → K 85 4 = bI false → K 85 0 = nI 0 → K 85 16 = nI (mPar 11 1 (mRoot B).1 (mRoot B).2).1 → K 88 = bF Tx →
      fx_Go G (6, 90) mm_M_mendLists 0 [(0, fx_r G 85)] [] (fx_wI S K) (fx_qi (fun x10 S9 => shM S9 ∧ (¬ x10 = 0 → fx_Go G (7, 105) mm_M_mount 97 [(0, fx_r G 85), (1, .int 0)] [] S9 (fx_qi F Q)) ∧ (x10 = 0 → fx_Go G (0, 0) mm_M_refuse 0 [(0, fx_r G 85), (1, .int 1)] [] S9 (fx_qi (fun x12 S11 => shM S11 ∧ fx_qi F Q (.inl (some (.int x12))) S11) (fx_qi F Q)))) (fx_qi F Q)) := by
    intro K hK hv1 hv2 hd h4 h0 h16 h88
    obtain ⟨⟨pB, pl, prc⟩, pc⟩ := mPar_k 11 1 (mRoot B).1 (mRoot B).2 (by omega) kB hv1 (krc hv1)
    obtain ⟨⟨lB, ll, lrc⟩, lc⟩ := mLis_k 12 0 (mPar 11 1 (mRoot B).1 (mRoot B).2).1 (mPar 11 1 (mRoot B).1 (mRoot B).2).2 (by omega) pB hv2 (prc hv2)
    have es : sMnt B = mLis 12 0 (mPar 11 1 (mRoot B).1 (mRoot B).2).1 (mPar 11 1 (mRoot B).1 (mRoot B).2).2 := by unfold sMnt; rw [if_neg (by rw [hv1]; decide), if_neg (by rw [hv2]; decide)]
    rw [← es] at ll lrc lc
    refine bs_M_mendLists_0 hS.w ?_
    refine cM_mendLis2 hS 12 0 _ _ K (by omega) (by omega) hd pB hv2 (prc hv2) h16 h4 (fun I2 hF2 hM2 h42 h162 => ⟨hS, ?_⟩) rfl
    rw [← es] at hM2 h162 ⊢
    have hF5 : MF I I2 := hK.tr (hF2.mono (fun a h => by simp at h ⊢; omega) (fun a h => by simp at h ⊢; omega))
    have e88 : I2 88 = bF Tx := (hF2.1 88 (by decide) (by decide)).trans h88
    have e0 : I2 85 0 = nI 0 := (hF2.2 0 (by decide)).trans h0
    have el : vl (sMnt B).2 = vl A := ll.trans (pl.trans (kl.trans hl0))
    refine b1 (fun z => good I2 hF5 hM2 el z (lrc z) e0 h162 e88) (fun z => cM_refuse hS 1 ⟨hS, bad I2 hF5 hM2 el z h42 e88⟩ rfl)
  have pars : ∀ (K : Nat → Nat → Int32), MF I K → vo (mRoot B).2 = true → MD K (mRoot B).2 → K 85 4 = bI false → K 85 0 = nI 0 → K 85 16 = nI (mRoot B).1 → K 88 = bF Tx →
      fx_Go G (2, 31) mm_M_mendParents 0 [(0, fx_r G 85)] [] (fx_wI S K) (fx_qi (fun x6 S5 => shM S5 ∧ (x6 = 0 → fx_Go G (0, 0) mm_M_refuse 0 [(0, fx_r G 85), (1, .int 1)] [] S5 (fx_qi (fun x8 S7 => shM S7 ∧ fx_qi F Q (.inl (some (.int x8))) S7) (fx_qi F Q))) ∧ (¬ x6 = 0 → fx_Go G (6, 90) mm_M_mendLists 0 [(0, fx_r G 85)] [] S5 (fx_qi (fun x10 S9 => shM S9 ∧ (¬ x10 = 0 → fx_Go G (7, 105) mm_M_mount 97 [(0, fx_r G 85), (1, .int 0)] [] S9 (fx_qi F Q)) ∧ (x10 = 0 → fx_Go G (0, 0) mm_M_refuse 0 [(0, fx_r G 85), (1, .int 1)] [] S9 (fx_qi (fun x12 S11 => shM S11 ∧ fx_qi F Q (.inl (some (.int x12))) S11) (fx_qi F Q)))) (fx_qi F Q)))) (fx_qi F Q)) := by
    intro K hK hv1 hd h4 h0 h16 h88
    obtain ⟨⟨pB, pl, prc⟩, pc⟩ := mPar_k 11 1 (mRoot B).1 (mRoot B).2 (by omega) kB hv1 (krc hv1)
    refine bs_M_mendParents_0 hS.w ?_
    refine cM_mendPar2 hS 11 1 _ _ K (by omega) (by omega) hd kB hv1 (krc hv1) h16 h4 (fun I2 hF2 hM2 h42 h162 => ⟨hS, ?_⟩) rfl
    have hF5 : MF I I2 := hK.tr (hF2.mono (fun a h => by simp at h ⊢; omega) (fun a h => by simp at h ⊢; omega))
    have e88 : I2 88 = bF Tx := (hF2.1 88 (by decide) (by decide)).trans h88
    have e0 : I2 85 0 = nI 0 := (hF2.2 0 (by decide)).trans h0
    refine b0 (fun z => ?_) (fun z => lists I2 hF5 hv1 z hM2 h42 e0 h162 e88)
    have es : sMnt B = mPar 11 1 (mRoot B).1 (mRoot B).2 := by unfold sMnt; rw [if_neg (by rw [hv1]; decide), if_pos z]
    rw [← es] at hM2 z pl
    exact cM_refuse hS 1 ⟨hS, bad I2 hF5 hM2 (pl.trans (kl.trans hl0)) z h42 e88⟩ rfl
  refine bs_M_mount_17 hS.w _ ?_
  refine pk_le 12 12 (fun _ => ?_) (fun q => absurd q (by omega)) rfl rfl (by omega) (by omega)
  refine cM_mendRoot hS hMD hB0 ho0 0 h161 h41 (fun q => ⟨hS, ?_⟩) (fun q I2 hF2 hM2 h42 h162 => ⟨hS, ?_⟩)
  · have em : mRoot B = (0, B) := by unfold mRoot; rw [if_pos q]
    refine ⟨fun z => absurd z (by decide), fun _ => ?_⟩
    exact pars I1 hFa (by rw [em]; exact ho0) (by rw [em]; exact hMD) h41 h01 (by rw [em]; exact h161) hT1
  · have em : mRoot B = (1, stA B 0 rootS) := by unfold mRoot; rw [if_neg (by rw [q]; decide)]
    have hF5 : MF I I2 := hFa.tr (hF2.mono (fun a h => by simp at h ⊢; omega) (fun a h => by simp at h ⊢; omega))
    have e88 : I2 88 = bF Tx := (hF2.1 88 (by decide) (by decide)).trans hT1
    have e0 : I2 85 0 = nI 0 := (hF2.2 0 (by decide)).trans h01
    have ev : vo (mRoot B).2 = stOk (vt B) := by rw [em]; exact stA_o ho0
    refine b0 (fun z => ?_) (fun z => pars I2 hF5 (by rw [ev]; exact z) (by rw [em]; exact hM2) h42 e0 (by rw [em]; exact h162) e88)
    have es : sMnt B = mRoot B := by unfold sMnt; rw [if_pos (by rw [ev]; exact z)]
    refine cM_refuse hS 1 ⟨hS, bad I2 hF5 (by rw [es, em]; exact hM2) (by rw [es]; exact kl.trans hl0) (by rw [es, ev]; exact z) h42 e88⟩ rfl
end MMNT3
