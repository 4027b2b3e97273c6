/-! The class's write. -/
theorem wv_cls {pl : List (Option Nat)} {s : AS} {a n : Nat} {b : Int32} {fr : Nat → Bool} {N z : Nat} (hz : z = gr s a n) (hN : N = (z + 15) / 16) (hl : pl.length = N) (k c : Nat) (hk : go pl (k / 16) = some c) :
    vcb (vcb (vcb (vcb (fun k => if fr (k / 16) = true then some 0 else none) (fun j => if 0 ≤ j ∧ j < 0 + lay s then some (gd (aH s) j) else none)) (fun j => if sz s ≤ j ∧ j < sz s + (a - sz s) then some 0 else none)) (fun j => if a ≤ j ∧ j < a + n then some (wv b (j - a)) else none)) (fun j => if z ≤ j ∧ j < z + (16 * N - z) then some 0 else none) k
      = if 0 ≤ k ∧ k < 0 + 16 * N then wval s a n b fr k else none := by
  have hk2 : k / 16 < pl.length := Nat.not_le.mp (fun q => by rw [go_out q] at hk; cases hk)
  have hga : a + n ≤ gr s a n ∧ sz s ≤ gr s a n := by unfold gr; split <;> omega
  have hgm : gr s a n = sz s ∨ gr s a n = a + n := by unfold gr; split <;> omega
  have hlay : lay s ≤ sz s := by unfold lay; split <;> omega
  rw [if_pos (by omega)]
  unfold vcb wval
  simp only
  have n3 : ∀ {α : Type} (x y : α), ¬ (sz s ≤ k ∧ k < sz s + (a - sz s)) → (if sz s ≤ k ∧ k < sz s + (a - sz s) then x else y) = y := fun x y q => if_neg q
  have n2 : ∀ {α : Type} (x y : α), ¬ (k < lay s) → (if 0 ≤ k ∧ k < 0 + lay s then x else y) = y := fun x y q => if_neg (by omega)
  have n5 : ∀ {α : Type} (x y : α), ¬ (z ≤ k ∧ k < z + (16 * N - z)) → (if z ≤ k ∧ k < z + (16 * N - z) then x else y) = y := fun x y q => if_neg q
  by_cases c1 : a ≤ k ∧ k < a + n
  · rw [if_pos c1, n5 _ _ (by omega), if_pos c1]
  · rw [if_neg c1]
    by_cases c5 : z ≤ k ∧ k < z + (16 * N - z)
    · rw [if_pos c5, if_neg c1, if_neg (show ¬ k < lay s by omega), if_pos (show sz s ≤ k ∨ fr (k / 16) = true from Or.inl (by omega))]
    · rw [n5 _ _ c5, if_neg c1]
      by_cases c2 : k < lay s
      · rw [if_pos c2, n3 _ _ (by omega), if_pos (show 0 ≤ k ∧ k < 0 + lay s by omega)]
      · rw [if_neg c2]
        by_cases c3 : sz s ≤ k
        · rw [if_pos (show sz s ≤ k ∨ fr (k / 16) = true from Or.inl c3), if_pos (show sz s ≤ k ∧ k < sz s + (a - sz s) by omega)]
        · rw [n3 _ _ (by omega), n2 _ _ c2]
          by_cases c4 : fr (k / 16) = true
          · rw [if_pos c4, if_pos (show sz s ≤ k ∨ fr (k / 16) = true from Or.inr c4)]
          · rw [if_neg c4, if_neg (show ¬ (sz s ≤ k ∨ fr (k / 16) = true) by rintro (z | z); exact c3 z; exact c4 z)]
section CW2
variable {G : fx_G} {S : fx_S} {I : Nat → Nat → Int32} {Q : fx_R → fx_S → Prop} {A : VS}
theorem cV_po69 {F : fx_S → Prop} (hS : shC S) (h : Nat) (hh : isH h) (h6 : 4 ≤ h ∧ h + 5 < 76) {s : AS} (hs1 : aS s = 1) {pl : List (Option Nat)} (hd : dlo pl) (a n z : Nat) (b : Int32) (ha : a ≤ 1000) (hn2 : n ≤ 60) (hz : z ≤ 1000)
    : ∀ (m k : Nat) (I : Nat → Nat → Int32) (D : Nat → Nat) {v6 : Int32}, k + m = n → ShP I h s → LyP I 81 pl → I 2 = nF D →
    (∀ J, FC [2, h, h + 4, h + 5] I J → J 2 = nF (plw pl (fun _ => some 0) (16 * ((z + 15) / 16) - z) z (plw pl (fun j => some (wv b (j - a))) m (a + k) D)) → ShP J h (setN (woS s z pl) (aN s)) → F (fx_wI S J)) → v6 = nI k →
    fx_Go G (4, 59) mm_V_putOutside 69 [(0, fx_r G 0), (1, fx_r G h), (2, .int (nI a)), (3, .int (nI n)), (4, .int b), (5, .int (nI z)), (6, .int v6)] [] (fx_wI S I) (fx_qv F Q) := by
  intro m
  have h63 := hd.1
  induction m with
  | zero =>
    intro k I D v6 hk hP hL hD hF e6
    subst e6
    refine bs_V_putOutside_69 hS.w h _ _ _ _ _ hh ?_
    refine pk_le n k (fun _ => ?_) (fun q => by omega) rfl rfl (by omega) (by omega)
    refine cV_endOfLast hS z (by omega) ⟨hS, ?_⟩ rfl
    refine cD_clearFile hS 81 isY_plan (by decide) hL hd hD z (16 * ((z + 15) / 16)) (by omega) (by omega) ⟨hS, ?_⟩ rfl rfl
    simp only [wI_setI, forall_eq]
    have hF1 : FC [2] I (fx_row I 2 (nF (plw pl (fun _ => some 0) (16 * ((z + 15) / 16) - z) z D))) := FC.row [2] I 2 _ (by simp <;> omega)
    have hD1 : fx_row I 2 (nF (plw pl (fun _ => some 0) (16 * ((z + 15) / 16) - z) z D)) 2 = nF (plw pl (fun _ => some 0) (16 * ((z + 15) / 16) - z) z D) := row_at _ _ _
    generalize fx_row I 2 (nF (plw pl (fun _ => some 0) (16 * ((z + 15) / 16) - z) z D)) = I1 at hF1 hD1 ⊢
    have hF2 : FC [h] I1 (fx_w (fx_w I1 h 3 3) h 4 (nI z)) := (FC.w [h] I1 h _ _ (by simp <;> omega)).tr (FC.w [h] _ h _ _ (by simp <;> omega))
    have e2j : ∀ j, j ≠ 3 → j ≠ 4 → fx_w (fx_w I1 h 3 3) h 4 (nI z) h j = I1 h j := fun j j3 j4 => by rw [fw_nj j4, fw_nj j3]
    have e23 : fx_w (fx_w I1 h 3 3) h 4 (nI z) h 3 = nI 3 := by rw [fw_nj (by omega), fw_at]; rfl
    have e24 : fx_w (fx_w I1 h 3 3) h 4 (nI z) h 4 = nI z := fw_at _ _ _ _
    generalize fx_w (fx_w I1 h 3 3) h 4 (nI z) = I2 at hF2 e2j e23 e24 ⊢
    have hF12 : FC [2, h] I I2 := (hF1.mono (fun x hx => by simp at hx ⊢ <;> omega)).tr (hF2.mono (fun x hx => by simp at hx ⊢ <;> omega))
    refine cY_copyFrom hS (h + 4) 81 hh.y isY_plan (by omega) (hL.fc hF12 (by simp <;> omega) (by simp <;> omega)) h63 (fun I3 hF3 hL3 => ⟨hS, ?_⟩)
    have hF13 : FC [2, h, h + 4, h + 5] I I3 := (hF12.mono (fun x hx => by simp at hx ⊢ <;> omega)).tr (hF3.mono (fun x hx => by simp at hx ⊢ <;> omega))
    obtain ⟨p1, p2, p3, p4, p5, p6, p7, p8⟩ := hP
    have e3 : I3 h = I2 h := hF3 h (by simp <;> omega)
    have e1 : I1 h = I h := hF1 h (by simp <;> omega)
    refine hF I3 hF13 ?_ ⟨?_, ?_, ?_, ?_, ?_, p6.fc hF13 (by simp <;> omega) (by simp <;> omega), fun j hj => absurd hj (Nat.not_lt_zero _), hL3⟩
    · rw [hF3 2 (by simp <;> omega), hF2 2 (by simp <;> omega)]
      exact hD1
    · rw [e3, e2j 0 (by omega) (by omega), e1, p1, hs1]; rfl
    · rw [e3, e2j 1 (by omega) (by omega), e1, p2]; rfl
    · rw [e3, e2j 2 (by omega) (by omega), e1, p3]; rfl
    · rw [e3, e23]; rfl
    · rw [e3, e24]; rfl
  | succ m ih =>
    intro k I D v6 hk hP hL hD hF e6
    subst e6
    refine bs_V_putOutside_69 hS.w h _ _ _ _ _ hh ?_
    refine pk_le n k (fun q => by omega) (fun _ => ?_) rfl rfl (by omega) (by omega)
    have ew := wv_eq b k 0 (Nat.zero_le _) (by omega)
    rw [show nI 0 = (0 : Int32) from rfl, Int32.sub_zero, Nat.sub_zero] at ew
    refine cD_putFileByte hS 81 isY_plan hL hd hD (a + k) (wv b k) (by omega) ⟨hS, ?_⟩ (nI_add a k) ew
    have hF1 : FC [2] I (fx_row I 2 (nF (plD D pl (a + k) (wv b k)))) := FC.row [2] I 2 _ (by simp <;> omega)
    refine ih (k + 1) _ _ (by omega) (hP.fc hF1 (fun x x1 x2 => by simp <;> omega)) (hL.fc hF1 (by simp <;> omega) (by simp <;> omega)) (row_at _ _ _) (fun J hJ hDJ hPJ => hF J ((hF1.mono (fun x hx => by simp at hx ⊢ <;> omega)).tr hJ) ?_ hPJ) (by first | rfl | (simp (disch := omega) only [nI_lit, nI_ofInt1, nI_ofInt4, nI_ofInt2, nI_ofInt3, mI_neg, wI_I, wI_setI, wI_setR, forall_eq, nI_add, pk_mul, pk_sub, pk_div, pk_rem, nI_clamp, nI_leI, nI_ltI, nI_eq, vin_iff, nar0, nar1, nF_ap, bF_ap, oF_ap, bI_0, bI_1, and255, bu_w, bu_p, bu_90, bu_9, row_w, row_at, nF_up, nI_ofIntm] <;> first | done | omega | (congr 1; omega)))
    rw [hDJ]
    congr 2
    show _ = plw pl (fun j => some (wv b (j - a))) m (a + k + 1) (plD D pl (a + k) (wv b (a + k - a)))
    rw [Nat.add_sub_cancel_left, Nat.add_assoc]
theorem cV_po15 {F : fx_S → Prop} (hS : shC S) (h : Nat) (hh : isH h) (h6 : 4 ≤ h ∧ h + 5 < 76) {s : AS} (hs1 : aS s = 1) (hw : wf s) (hk2 : aK s = 2) {pl : List (Option Nat)} (hd : dlo pl) (a n z : Nat) (b : Int32) (ha : a ≤ 1000) (hn2 : n ≤ 60) (hz : z ≤ 1000)
    : ∀ (m k : Nat) (I : Nat → Nat → Int32) (D : Nat → Nat) {v6 : Int32}, k + m = sz s → ShP I h s → LyP I 81 pl → I 2 = nF D →
    (∀ J, FC [2, h, h + 4, h + 5] I J → J 2 = nF (plw pl (fun _ => some 0) (16 * ((z + 15) / 16) - z) z (plw pl (fun j => some (wv b (j - a))) n a (plw pl (fun _ => some 0) (a - sz s) (sz s) (plw pl (fun j => some (gd (aH s) j)) m k D)))) → ShP J h (setN (woS s z pl) (aN s)) → F (fx_wI S J)) → v6 = nI k →
    fx_Go G (4, 59) mm_V_putOutside 15 [(0, fx_r G 0), (1, fx_r G h), (2, .int (nI a)), (3, .int (nI n)), (4, .int b), (5, .int (nI z)), (6, .int v6)] [] (fx_wI S I) (fx_qv F Q) := by
  intro m
  have hsl := hw.szl
  have hhl := hw.hl (by omega)
  have ez : sz s = (aH s).length := by unfold sz; rw [if_neg (by omega)]
  induction m with
  | zero =>
    intro k I D v6 hk hP hL hD hF e6
    subst e6
    refine bs_V_putOutside_15 hS.w h _ _ _ _ _ hh ?_
    rw [wI_I, hP.2.2.2.2.1]
    refine pk_le (sz s) k (fun _ => ?_) (fun q => by omega) rfl rfl (by omega) (by omega)
    refine cD_clearFile hS 81 isY_plan (by decide) hL hd hD (sz s) a (by omega) (by omega) ⟨hS, ?_⟩ rfl rfl
    have hF1 : FC [2] I (fx_row I 2 (nF (plw pl (fun _ => some 0) (a - sz s) (sz s) D))) := FC.row [2] I 2 _ (by simp <;> omega)
    exact cV_po69 hS h hh h6 hs1 hd a n z b ha hn2 hz n 0 _ _ (by omega) (hP.fc hF1 (fun x x1 x2 => by simp <;> omega)) (hL.fc hF1 (by simp <;> omega) (by simp <;> omega)) (row_at _ _ _) (fun J hJ hDJ hPJ => hF J ((hF1.mono (fun x hx => by simp at hx ⊢ <;> omega)).tr hJ) hDJ hPJ) rfl
  | succ m ih =>
    intro k I D v6 hk hP hL hD hF e6
    subst e6
    refine bs_V_putOutside_15 hS.w h _ _ _ _ _ hh ?_
    simp only [wI_I]
    rw [hP.2.2.2.2.1, nI_clamp (by omega), hP.2.2.2.2.2.2.1 k (by omega)]
    refine pk_le (sz s) k (fun q => by omega) (fun _ => ⟨pk_in k 54 (by omega) rfl, ?_⟩) rfl rfl (by omega) (by omega)
    refine cD_putFileByte hS 81 isY_plan hL hd hD k (gd (aH s) k) (by omega) ⟨hS, ?_⟩ rfl rfl
    have hF1 : FC [2] I (fx_row I 2 (nF (plD D pl k (gd (aH s) k)))) := FC.row [2] I 2 _ (by simp <;> omega)
    exact ih (k + 1) _ _ (by omega) (hP.fc hF1 (fun x x1 x2 => by simp <;> omega)) (hL.fc hF1 (by simp <;> omega) (by simp <;> omega)) (row_at _ _ _) (fun J hJ hDJ hPJ => hF J ((hF1.mono (fun x hx => by simp at hx ⊢ <;> omega)).tr hJ) hDJ hPJ) (by first | rfl | (simp (disch := omega) only [nI_lit, nI_ofInt1, nI_ofInt4, nI_ofInt2, nI_ofInt3, mI_neg, wI_I, wI_setI, wI_setR, forall_eq, nI_add, pk_mul, pk_sub, pk_div, pk_rem, nI_clamp, nI_leI, nI_ltI, nI_eq, vin_iff, nar0, nar1, nF_ap, bF_ap, oF_ap, bI_0, bI_1, and255, bu_w, bu_p, bu_90, bu_9, row_w, row_at, nF_up, nI_ofIntm] <;> first | done | omega | (congr 1; omega)))
theorem cV_putOutside {F : fx_S → Prop} (hS : shC S) (h : Nat) (hh : isH h) (h6 : 4 ≤ h ∧ h + 5 < 76) {s : AS} (hP : ShP I h s) (hs1 : aS s = 1) (hw : wf s) {pl : List (Option Nat)} (hL : LyP I 81 pl) (hd : dlo pl) (hj : inj pl) (fr : Nat → Bool) (T : Nat → Bool) (hfr : ∀ i c, go pl i = some c → (fr i = true → T c = false) ∧ (fr i = false → T c = true)) {D : Nat → Nat} (hD : I 2 = nF D) (hT : CT I T) (a n z : Nat) (b : Int32) (ha : a ≤ 1000) (hn2 : n ≤ 60) (hz : z ≤ 1000) (hzg : z = gr s a n) (hpl : pl.length = (z + 15) / 16) {v2 v3 v5 : Int32}
    (hF : ∀ J T', FC [2, 76, h, h + 4, h + 5] I J → J 2 = nF (plw pl (wval s a n b fr) (16 * ((z + 15) / 16)) 0 D) → CT J T' → (∀ c, T' c = true ↔ T c = true ∨ some c ∈ pl) → ShP J h (setN (woS s z pl) (aN s)) → F (fx_wI S J)) (e2 : v2 = nI a) (e3 : v3 = nI n) (e5 : v5 = nI z) :
    fx_Go G (4, 59) mm_V_putOutside 0 [(0, fx_r G 0), (1, fx_r G h), (2, .int v2), (3, .int v3), (4, .int b), (5, .int v5)] [] (fx_wI S I) (fx_qv F Q) := by
  subst e2 e3 e5
  have hka := hw.ka
  have hsl := hw.szl
  refine bs_V_putOutside_0 hS.w h _ _ _ _ hh ?_
  refine cV_takePlanned hS hL hd hj fr T hfr hD hT (fun I1 D1 T1 hF1 hD1 hT1 hE1 hTT => ⟨hS, ?_⟩)
  have hP1 : ShP I1 h s := hP.fc hF1 (fun x x1 x2 => by simp <;> omega)
  have hL1 : LyP I1 81 pl := hL.fc hF1 (by simp <;> omega) (by simp <;> omega)
  have fin : ∀ J, FC [2, h, h + 4, h + 5] I1 J → J 2 = nF (plw pl (fun _ => some 0) (16 * ((z + 15) / 16) - z) z (plw pl (fun j => some (wv b (j - a))) n a (plw pl (fun _ => some 0) (a - sz s) (sz s) (plw pl (fun j => some (gd (aH s) j)) (lay s) 0 D1)))) → ShP J h (setN (woS s z pl) (aN s)) → F (fx_wI S J) := by
    intro J hJ hDJ hPJ
    refine hF J T1 ((hF1.mono (fun x hx => by simp at hx ⊢ <;> omega)).tr (hJ.mono (fun x hx => by simp at hx ⊢ <;> omega))) ?_ (hT1.fc hJ (by simp <;> omega)) hTT hPJ
    rw [hDJ]
    congr 1
    refine Eff.uq ((((hE1.tr (plw_eff hj (fun j => some (gd (aH s) j)) (lay s) 0 D1)).tr (plw_eff hj (fun _ => some 0) (a - sz s) (sz s) _)).tr (plw_eff hj (fun j => some (wv b (j - a))) n a _)).tr (plw_eff hj (fun _ => some 0) (16 * ((z + 15) / 16) - z) z _)) (plw_eff hj (wval s a n b fr) (16 * ((z + 15) / 16)) 0 D) (fun k c hk => ?_)
    exact wv_cls hzg rfl hpl k c hk
  rw [wI_I, hP1.2.2.2.1, hP1.2.2.2.2.1]
  refine ne_pair (pk_eq (aK s) 2 (fun q => ?_) (fun q => ?_) rfl rfl (by omega) (by omega))
  · have el : lay s = sz s := by unfold lay; rw [if_pos q]
    rw [el] at fin
    exact cV_po15 hS h hh h6 hs1 hw q hd a n z b ha hn2 hz (sz s) 0 I1 D1 (by omega) hP1 hL1 hD1 fin rfl
  · have el : lay s = 0 := by unfold lay; rw [if_neg q]
    rw [el] at fin
    refine cD_clearFile hS 81 isY_plan (by decide) hL1 hd hD1 (sz s) a (by omega) (by omega) ⟨hS, ?_⟩ rfl rfl
    have hF2 : FC [2] I1 (fx_row I1 2 (nF (plw pl (fun _ => some 0) (a - sz s) (sz s) D1))) := FC.row [2] I1 2 _ (by simp <;> omega)
    exact cV_po69 hS h hh h6 hs1 hd a n z b ha hn2 hz n 0 _ _ (by omega) (hP1.fc hF2 (fun x x1 x2 => by simp <;> omega)) (hL1.fc hF2 (by simp <;> omega) (by simp <;> omega)) (row_at _ _ _) (fun J hJ hDJ hPJ => fin J ((hF2.mono (fun x hx => by simp at hx ⊢ <;> omega)).tr hJ) hDJ hPJ) rfl
end CW2
