/-! The class's sheets: the image. -/
theorem cpy_put {g : Nat → Int32} {b : Nat → Nat} {l : List Nat} (p : Nat) (hl : ∀ k, k < l.length → g k = nI (gd l k)) (hp : p + l.length ≤ 64) : va_cpy g (nF b) 0 p l.length = nF (putL b p l) := by
  funext k
  by_cases hk : p ≤ k ∧ k < p + l.length
  · rw [pk_cpy_in hk.1 hk.2, Nat.zero_add, hl _ (by omega), nF_ap, putL_in _ _ _ _ hk.1 hk.2 (by omega)]
  · rw [pk_cpy_out (by omega), nF_ap, nF_ap, putL_no _ _ _ _ (by omega)]
theorem up2_putL (b : Nat → Nat) (p x y : Nat) (l : List Nat) (h : p + 1 < 64) : up (up (putL b (p + 2) l) p x) (p + 1) y = putL b p (x :: y :: l) := by
  funext k
  unfold up putL
  simp only [List.length_cons]
  by_cases k1 : k = p + 1
  · subst k1
    rw [if_pos rfl, if_pos (by omega), show p + 1 - p = 0 + 1 by omega, gd_s, gd_0]
  · rw [if_neg k1]
    by_cases k0 : k = p
    · subst k0
      rw [if_pos rfl, if_pos (by omega), Nat.sub_self, gd_0]
    · rw [if_neg k0]
      by_cases hk : p + 2 ≤ k ∧ k < p + 2 + l.length ∧ k < 64
      · rw [if_pos hk, if_pos (by omega), show k - p = (k - (p + 2)) + 1 + 1 by omega, gd_s, gd_s]
      · rw [if_neg hk, if_neg (by omega)]
theorem putL_z (b : Nat → Nat) (p : Nat) (m : List Nat) (h : p + m.length < 64) (hz : b (p + m.length) = 0) : putL b p m = putL b p (m ++ [0]) := by
  rw [← putL_app, putL_1 _ _ _ h]
  funext k
  unfold up
  split
  · rename_i e
    subst e
    rw [putL_no _ _ _ _ (by omega)]
    exact hz
  · rfl
theorem dt_put (b : Nat → Nat) (p x y z w : Nat) (l : List Nat) (hp : p + (l.length + 5) ≤ 64) (hz : b (p + 4 + l.length) = 0) : up (up (putL (up (up b (p + 2) z) (p + 3) w) (p + 4) l) p x) (p + 1) y = putL b p (x :: y :: z :: w :: (l ++ [0])) := by
  have e1 : putL (up (up b (p + 2) z) (p + 3) w) (p + 4) l = putL b (p + 2) (z :: w :: l) := by
    rw [← putL_1 b (p + 2) z (by omega), ← putL_1 _ (p + 3) w (by omega)]
    exact putL_2 b (p + 2) z w l
  rw [e1, up2_putL _ _ _ _ _ (by omega), putL_z b p (x :: y :: z :: w :: l) (by simp only [List.length_cons]; omega) (by simp only [List.length_cons]; rw [show p + (l.length + 1 + 1 + 1 + 1) = p + 4 + l.length by omega]; exact hz)]
  rfl
def sok (s : AS) : Prop := aN s < 65536 ∧ (aM s).length ≤ 8 ∧ (atA s).length ≤ 54 ∧ yok (aL s) ∧ aK s < 5 ∧ sz s < 65536 ∧ ∀ x ∈ atA s, x < 256
theorem wf.sok {s : AS} (h : wf s) : sok s := by
  refine ⟨h.2.2.1, h.nl, h.al, ?_, by have := h.ka; omega, by have := h.szl; omega, h.at⟩
  by_cases h3 : aK s = 3
  · have h9 := h.2.2.2.2.2.2.2.2.2 h3
    exact ⟨by rw [h9.2.2.1]; omega, fun c hc => by have := h9.2.2.2.2 c hc; omega⟩
  · have h8 := h.2.2.2.2.2.2.2.2.1 h3
    rw [h8]
    exact ⟨by show 0 ≤ 63; omega, fun c hc => by cases hc⟩
theorem frA_sok {n : Nat} (h : n < 65536) : sok (frA n) := ⟨h, by show 0 ≤ 8; omega, by show 0 ≤ 54; omega, ⟨by show 0 ≤ 63; omega, fun c hc => by cases hc⟩, by show 0 < 5; omega, by show 0 < 65536; omega, fun x hx => by cases hx⟩
section CH2
variable {G : fx_G} {S : fx_S} {I : Nat → Nat → Int32} {Q : fx_R → fx_S → Prop}
theorem cA_fill5 {F : fx_S → Prop} (hS : shC S) (v : Nat) (hv : isA v 64) : ∀ (n k : Nat) (b : Nat → Nat) {v1 v2 v3 : Int32}, k + n = 64 → (∀ b', (∀ i, k ≤ i → i < 64 → b' i = 0) → (∀ i, i < k → b' i = b i) → F (fx_wI S (fx_row I v (nF b')))) → v1 = nI 0 → v2 = nI k → v3 = nI 64 →
    fx_Go G (0, 0) mm_A_fill 5 [(0, fx_r G v), (1, .int v1), (2, .int v2), (3, .int v3)] [] (fx_wI S (fx_row I v (nF b))) (fx_qv F Q) := by
  intro n
  induction n with
  | zero =>
    intro k b v1 v2 v3 hk hF e1 e2 e3
    subst e1 e2 e3
    refine bk_A_fill_5 v _ _ _ ?_
    exact pk_le 64 k (fun _ => hF b (fun i h1 h2 => by omega) (fun _ _ => rfl)) (fun q => by omega) rfl rfl (by omega) (by omega)
  | succ n ih =>
    intro k b v1 v2 v3 hk hF e1 e2 e3
    subst e1 e2 e3
    refine bk_A_fill_5 v _ _ _ ?_
    refine pk_le 64 k (fun q => by omega) (fun q => ?_) rfl rfl (by omega) (by omega)
    refine ⟨(shC.w hS).iA hv, (shC.w hS).vA hv (pk_in k 64 (by omega) rfl), ?_⟩
    simp only [wI_setI, forall_eq]
    rw [pk_cl k rfl (by omega), row_w, nF_up]
    refine ih (k + 1) (up b k 0) (by omega) (fun b' h1 h2 => hF b' (fun i g1 g2 => ?_) (fun i g1 => ?_)) rfl (by first | rfl | (simp (disch := omega) only [nI_lit, nI_ofInt1, nI_ofInt4, nI_ofInt2, nI_ofInt3, mI_neg, wI_I, wI_setI, wI_setR, forall_eq, nI_add, pk_mul, pk_sub, pk_div, pk_rem, nI_clamp, nI_leI, nI_ltI, nI_eq, vin_iff, nar0, nar1, nF_ap, bF_ap, oF_ap, bI_0, bI_1, and255, bu_w, bu_p, bu_90, bu_9, row_w, row_at, nF_up, nI_ofIntm] <;> first | done | omega | (congr 1; omega))) rfl
    · by_cases e : i = k
      · subst e
        rw [h2 i (by omega)]
        unfold up
        rw [if_pos rfl]
      · exact h1 i (by omega) g2
    · rw [h2 i (by omega)]
      unfold up
      rw [if_neg (by omega)]
theorem cA_fill {F : fx_S → Prop} (hS : shC S) (v : Nat) (hv : isA v 64) {v1 : Int32} (hF : ∀ b', (∀ i, i < 64 → b' i = 0) → F (fx_wI S (fx_row I v (nF b')))) (e1 : v1 = nI 0) : fx_Go G (0, 0) mm_A_fill 0 [(0, fx_r G v), (1, .int v1)] [] (fx_wI S I) (fx_qv F Q) := by
  obtain ⟨b, hb⟩ := nF_surj (I v)
  rw [← row_self hb]
  refine bk_A_fill_0 v _ ⟨(shC.w hS).iA hv, ?_⟩
  rw [(shC.w hS).lA hv]
  exact cA_fill5 hS v hv 64 0 b (by omega) (fun b' h1 _ => hF b' (fun i hi => h1 i (Nat.zero_le _) hi)) e1 rfl rfl
theorem cH_encodeName {F : Int32 → fx_S → Prop} (hS : shC S) (h : Nat) (hh : isH h) (h6 : h + 5 < 76) {l : List Nat} (hN : NmP I (h + 1) l) (hl : l.length ≤ 8) {b : Nat → Nat} (hb : I 83 = nF b) (hF : F (nI (10 + (nmA l).length)) (fx_wI S (fx_row I 83 (nF (putL b 10 (nmA l)))))) : fx_Go G (1, 18) mm_H_encodeName 0 [(0, fx_r G h), (1, fx_r G 83)] [] (fx_wI S I) (fx_qi F Q) := by
  have en : ∀ g, fx_row I 83 g (h + 1) = I (h + 1) := fun g => fx_row_ne _ _ (by omega)
  have el : ∀ g, fx_row I 83 g (h + 1 + 1) = I (h + 1 + 1) := fun g => fx_row_ne _ _ (by omega)
  rw [← row_self hb]
  refine bs_H_encodeName_0 hS.w h 83 hh isA_image ?_
  simp only [wI_I, wI_setI, wI_setR, forall_eq, row_w, row_row, row_at, en, el, hN.1]
  refine ne_pair (pk_eq l.length 0 (fun q => ?_) (fun q => ?_) rfl rfl (by omega) (by omega))
  · have hl0 : nmA l = [] := by unfold nmA; rw [if_pos q]
    rw [hl0, putL_nil] at hF
    exact hF
  · have hl1 : nmA l = 1 :: (l.length + 2) :: l := by unfold nmA; rw [if_neg q]
    have er : va_cpy (I (h + 1 + 1)) (upd (upd (nF b) 10 1) 11 (2 + nI l.length)) 0 12 l.length = nF (putL b 10 (nmA l)) := by
      rw [hl1, show (2 : Int32) + nI l.length = nI (l.length + 2) by rw [show (2 : Int32) = nI 2 from rfl, nI_add, Nat.add_comm], show (1 : Int32) = nI 1 from rfl, nF_up, nF_up, cpy_put 12 hN.2 (by omega), ← putL_1 b 10 1 (by omega), ← putL_1 _ 11 _ (by omega)]
      exact congrArg nF (putL_2 b 10 1 (l.length + 2) l)
    rw [pk_cl l.length rfl (by omega), show (0 : Int32).toNatClampNeg = 0 from rfl, show (10 : Int32).toNatClampNeg = 10 from rfl, show (11 : Int32).toNatClampNeg = 11 from rfl, show (12 : Int32).toNatClampNeg = 12 from rfl, er]
    refine ⟨pk_in 10 64 (by omega) rfl, pk_in 11 64 (by omega) rfl, ⟨by decide, by decide, nI_pos (by omega), by rw [nI_clamp (by omega)]; show 0 + l.length ≤ 8; omega, by rw [nI_clamp (by omega)]; show 12 + l.length ≤ 64; omega⟩, ?_⟩
    have e2 : (12 : Int32) + nI l.length = nI (10 + (nmA l).length) := by
      rw [hl1, show (12 : Int32) = nI 12 from rfl, nI_add]
      congr 1
      simp only [List.length_cons]
      omega
    rw [e2]
    exact hF
theorem cH_encodeData68 {F : Int32 → fx_S → Prop} (hS : shC S) (h : Nat) (hh : isH h) (h6 : h + 5 < 76) {b : Nat → Nat} {v2 v3 : Int32} (p e kd : Nat) (hp : p + 1 < 64) (he : p ≤ e) (he2 : e < 1000) (hb : I 83 = nF b) (hk : I h 3 = nI kd) (hF : F (nI e) (fx_wI S (fx_row I 83 (nF (up (up b p kd) (p + 1) (e - p)))))) (e2 : v2 = nI p) (e3 : v3 = nI e) :
    fx_Go G (2, 31) mm_H_encodeData 68 [(0, fx_r G h), (1, fx_r G 83), (2, .int v2), (3, .int v3)] [] (fx_wI S I) (fx_qi F Q) := by
  subst e2 e3
  have eh : ∀ g, fx_row I 83 g h = I h := fun g => fx_row_ne _ _ (by omega)
  rw [← row_self hb]
  refine bs_H_encodeData_68 hS.w h 83 _ _ hh isA_image ?_
  simp only [wI_I, wI_setI, forall_eq, row_w, row_row, row_at, eh, hk]
  rw [pk_cl p rfl (by omega), pk_cl (p + 1) (by first | rfl | (simp (disch := omega) only [nI_lit, nI_ofInt1, nI_ofInt4, nI_ofInt2, nI_ofInt3, mI_neg, wI_I, wI_setI, wI_setR, forall_eq, nI_add, pk_mul, pk_sub, pk_div, pk_rem, nI_clamp, nI_leI, nI_ltI, nI_eq, vin_iff, nar0, nar1, nF_ap, bF_ap, oF_ap, bI_0, bI_1, and255, bu_w, bu_p, bu_90, bu_9, row_w, row_at, nF_up, nI_ofIntm] <;> first | done | omega | (congr 1; omega))) (by omega), pk_sub he, nF_up, nF_up]
  exact ⟨pk_in p 64 (by omega) rfl, pk_in (p + 1) 64 (by omega) (by first | rfl | (simp (disch := omega) only [nI_lit, nI_ofInt1, nI_ofInt4, nI_ofInt2, nI_ofInt3, mI_neg, wI_I, wI_setI, wI_setR, forall_eq, nI_add, pk_mul, pk_sub, pk_div, pk_rem, nI_clamp, nI_leI, nI_ltI, nI_eq, vin_iff, nar0, nar1, nF_ap, bF_ap, oF_ap, bI_0, bI_1, and255, bu_w, bu_p, bu_90, bu_9, row_w, row_at, nF_up, nI_ofIntm] <;> first | done | omega | (congr 1; omega))), hF⟩
theorem cH_encodeData {F : Int32 → fx_S → Prop} (hS : shC S) (h : Nat) (hh : isH h) (h6 : h + 5 < 76) {s : AS} (hP : ShP I h s) (hy : yok (aL s)) (hk : aK s < 5) {b : Nat → Nat} (hb : I 83 = nF b) {v2 : Int32} (p : Nat) (hp10 : 10 ≤ p) (hp : p + (dtA s).length ≤ 64) (hp1 : p + 1 < 64) (hz : ∀ k, p ≤ k → k < 64 → b k = 0) (hsz : sz s < 65536)
    (hF : F (nI (p + (dtA s).length)) (fx_wI S (fx_row I 83 (nF (putL b p (dtA s)))))) (e2 : v2 = nI p) : fx_Go G (2, 31) mm_H_encodeData 0 [(0, fx_r G h), (1, fx_r G 83), (2, .int v2)] [] (fx_wI S I) (fx_qi F Q) := by
  subst e2
  obtain ⟨h1, h2, h3, h4, h5, hn, hd, hly⟩ := hP
  have hL := dtA_len s
  have eh : ∀ g, fx_row I 83 g h = I h := fun g => fx_row_ne _ _ (by omega)
  have eh3 : ∀ g, fx_row I 83 g (h + 3) = I (h + 3) := fun g => fx_row_ne _ _ (by omega)
  refine bs_H_encodeData_0 hS.w h 83 _ hh isA_image ?_
  simp only [wI_I, wI_setR, forall_eq, eh, h4, h5]
  refine ne_pair (pk_eq (aK s) 0 (fun q => ?_) (fun q => ?_) rfl rfl (by omega) (by omega))
  · have e0 : dtA s = [] := by unfold dtA; rw [if_pos q]
    rw [e0, putL_nil, row_self hb] at hF
    exact hF
  · rw [if_neg q] at hL
    refine ne_pair (pk_eq (aK s) 3 (fun q2 => ?_) (fun q2 => ?_) rfl rfl (by omega) (by omega))
    · rw [if_pos q2] at hL
      have ed : dtA s = 3 :: (5 + (rn 48 (aL s)).length) :: (aZ s % 256) :: (aZ s / 256) :: (rn 48 (aL s) ++ [0]) := by unfold dtA; rw [if_neg q, if_pos q2]
      have ez : sz s = aZ s := by unfold sz; rw [if_pos q2]
      rw [ez] at hsz ⊢
      refine cV_putWord hS 83 isA_image hb (p + 2) (aZ s) (by omega) hsz ⟨hS, ?_⟩ (by first | rfl | (simp (disch := omega) only [nI_lit, nI_ofInt1, nI_ofInt4, nI_ofInt2, nI_ofInt3, mI_neg, wI_I, wI_setI, wI_setR, forall_eq, nI_add, pk_mul, pk_sub, pk_div, pk_rem, nI_clamp, nI_leI, nI_ltI, nI_eq, vin_iff, nar0, nar1, nF_ap, bF_ap, oF_ap, bI_0, bI_1, and255, bu_w, bu_p, bu_90, bu_9, row_w, row_at, nF_up, nI_ofIntm] <;> first | done | omega | (congr 1; omega))) rfl
      refine cY_encode hS (h + 4) 83 hh.y isA_image ⟨by omega, by omega⟩ hy (hly.cg (fx_row_ne _ _ (by omega)) (fx_row_ne _ _ (by omega))) (row_at _ _ _) (p + 4) (by omega) (fun k k1 k2 => ?_) ⟨hS, ?_⟩ (by first | rfl | (simp (disch := omega) only [nI_lit, nI_ofInt1, nI_ofInt4, nI_ofInt2, nI_ofInt3, mI_neg, wI_I, wI_setI, wI_setR, forall_eq, nI_add, pk_mul, pk_sub, pk_div, pk_rem, nI_clamp, nI_leI, nI_ltI, nI_eq, vin_iff, nar0, nar1, nF_ap, bF_ap, oF_ap, bI_0, bI_1, and255, bu_w, bu_p, bu_90, bu_9, row_w, row_at, nF_up, nI_ofIntm] <;> first | done | omega | (congr 1; omega)))
      · unfold up
        rw [if_neg (by omega), if_neg (by omega)]
        exact hz k (by omega) k2
      · rw [row_row]
        refine cH_encodeData68 hS h hh h6 p (p + (dtA s).length) (aK s) hp1 (by omega) (by omega) (row_at _ _ _) (by rw [eh]; exact h4) ?_ rfl (by rw [hL, nI_1]; congr 1; omega)
        rw [row_row, show p + (dtA s).length - p = 5 + (rn 48 (aL s)).length by omega, q2, dt_put b p 3 (5 + (rn 48 (aL s)).length) _ _ _ (by omega) (hz _ (by omega) (by omega)), ← ed]
        exact hF
    · rw [if_neg q2] at hL
      have ed : dtA s = aK s :: ((aH s).length + 2) :: aH s := by unfold dtA; rw [if_neg q, if_neg q2]
      have ez : sz s = (aH s).length := by unfold sz; rw [if_neg q2]
      rw [ez]
      rw [show (0 : Int32).toNatClampNeg = 0 from rfl, pk_cl (p + 2) (by first | rfl | (simp (disch := omega) only [nI_lit, nI_ofInt1, nI_ofInt4, nI_ofInt2, nI_ofInt3, mI_neg, wI_I, wI_setI, wI_setR, forall_eq, nI_add, pk_mul, pk_sub, pk_div, pk_rem, nI_clamp, nI_leI, nI_ltI, nI_eq, vin_iff, nar0, nar1, nF_ap, bF_ap, oF_ap, bI_0, bI_1, and255, bu_w, bu_p, bu_90, bu_9, row_w, row_at, nF_up, nI_ofIntm] <;> first | done | omega | (congr 1; omega))) (by omega), pk_cl (aH s).length rfl (by omega), hb, cpy_put (p + 2) hd (by omega)]
      refine ⟨⟨by decide, ?_, nI_pos (by omega), by rw [nI_clamp (by omega)]; show 0 + (aH s).length ≤ 54; omega, by rw [pk_cl (p + 2) (by first | rfl | (simp (disch := omega) only [nI_lit, nI_ofInt1, nI_ofInt4, nI_ofInt2, nI_ofInt3, mI_neg, wI_I, wI_setI, wI_setR, forall_eq, nI_add, pk_mul, pk_sub, pk_div, pk_rem, nI_clamp, nI_leI, nI_ltI, nI_eq, vin_iff, nar0, nar1, nF_ap, bF_ap, oF_ap, bI_0, bI_1, and255, bu_w, bu_p, bu_90, bu_9, row_w, row_at, nF_up, nI_ofIntm] <;> first | done | omega | (congr 1; omega))) (by omega), nI_clamp (by omega)]; omega⟩, ?_⟩
      · rw [show nI p + 2 = nI (p + 2) from (by first | rfl | (simp (disch := omega) only [nI_lit, nI_ofInt1, nI_ofInt4, nI_ofInt2, nI_ofInt3, mI_neg, wI_I, wI_setI, wI_setR, forall_eq, nI_add, pk_mul, pk_sub, pk_div, pk_rem, nI_clamp, nI_leI, nI_ltI, nI_eq, vin_iff, nar0, nar1, nF_ap, bF_ap, oF_ap, bI_0, bI_1, and255, bu_w, bu_p, bu_90, bu_9, row_w, row_at, nF_up, nI_ofIntm] <;> first | done | omega | (congr 1; omega)))]
        exact nI_pos (by omega)
      · refine cH_encodeData68 hS h hh h6 p (p + (dtA s).length) (aK s) hp1 (by omega) (by omega) (row_at _ _ _) (by rw [eh]; exact h4) ?_ rfl ?_
        · rw [row_row, show p + (dtA s).length - p = (aH s).length + 2 by omega, up2_putL _ _ _ _ _ (by omega), ← ed]
          exact hF
        · rw [hL, show (2 : Int32) = nI 2 from rfl, nI_add, nI_add]
          congr 1
          omega
theorem cH_setAside {F : fx_S → Prop} (hS : shC S) (h : Nat) (hh : isH h) (h6 : h + 5 < 76) {b : Nat → Nat} (hb : I 83 = nF b) {v2 v3 : Int32} (p q n : Nat) (hp : p + 1 < q) (hq : q < 63) (hn : n < 65536) (hN : I h 2 = nI n) (b1 : b q < 256) (b2 : b (q + 1) < 256)
    (hF : F (fx_wI S (fx_row I 83 (nF (up (up (up (up b p (b q)) (p + 1) (b (q + 1))) q (n % 256)) (q + 1) (n / 256)))))) (e2 : v2 = nI p) (e3 : v3 = nI q) : fx_Go G (1, 15) mm_H_setAside 0 [(0, fx_r G h), (1, fx_r G 83), (2, .int v2), (3, .int v3)] [] (fx_wI S I) (fx_qv F Q) := by
  refine bs_H_setAside_0 hS.w h 83 _ _ hh isA_image ?_
  refine cV_wordAt hS 83 isA_image hb q hq ⟨hS, ?_⟩ e3
  refine cV_putWord hS 83 isA_image hb p (wrd b q) (by omega) (by unfold wrd; omega) ⟨hS, ?_⟩ e2 rfl
  have e5 : wrd b q % 256 = b q := by unfold wrd; omega
  have e6 : wrd b q / 256 = b (q + 1) := by unfold wrd; omega
  rw [e5, e6]
  simp only [wI_I]
  refine cV_putWord hS 83 isA_image (row_at _ _ _) q n hq hn ⟨hS, ?_⟩ e3 (by rw [fx_row_ne _ _ (by omega)]; exact hN)
  rw [row_row]
  exact hF
theorem enc_fin (s : AS) (b : Nat → Nat) (hb : ∀ i, i < 64 → b i = if i = 8 then (atA s).length else if i = 2 then aN s % 256 else if i = 3 then aN s / 256 else bfr s i) (c : Nat → Nat) (hc : c = up (up (up (up b 4 (b 30)) 5 (b 31)) 30 (aN s % 256)) 31 (aN s / 256)) (i : Nat) (hi : i < 64) :
    up (up (up (up c 6 (c 62)) 7 (c 63)) 62 (aN s % 256)) 63 (aN s / 256) i = encB s (aN s) i := by
  subst hc
  have h30 := hb 30 (by omega)
  have h31 := hb 31 (by omega)
  have h62 := hb 62 (by omega)
  have h63 := hb 63 (by omega)
  rw [if_neg (by decide), if_neg (by decide), if_neg (by decide)] at h30 h31 h62 h63
  unfold encB fixB up
  have hcs : i = 63 ∨ i = 62 ∨ i = 7 ∨ i = 6 ∨ i = 31 ∨ i = 30 ∨ i = 5 ∨ i = 4 ∨ i = 8 ∨ i = 2 ∨ i = 3 ∨ (i ≠ 63 ∧ i ≠ 62 ∧ i ≠ 7 ∧ i ≠ 6 ∧ i ≠ 31 ∧ i ≠ 30 ∧ i ≠ 5 ∧ i ≠ 4 ∧ i ≠ 8 ∧ i ≠ 2 ∧ i ≠ 3) := by omega
  rcases hcs with e | e | e | e | e | e | e | e | e | e | e | ⟨e1, e2, e3, e4, e5, e6, e7, e8, e9, e10, e11⟩
  · subst e; rfl
  · subst e; rfl
  · subst e; exact h63
  · subst e; exact h62
  · subst e; rfl
  · subst e; rfl
  · subst e; exact h31
  · subst e; exact h30
  · subst e; exact hb 8 (by omega)
  · subst e; exact hb 2 (by omega)
  · subst e; exact hb 3 (by omega)
  · rw [if_neg e1, if_neg e2, if_neg e3, if_neg e4, if_neg e5, if_neg e6, if_neg e7, if_neg e8, if_neg e9, if_neg e8, if_neg e7, if_neg e4, if_neg e3, if_neg (by omega), if_neg (by omega), hb i hi, if_neg e9, if_neg e10, if_neg e11]
theorem cH_encode {F : fx_S → Prop} (hS : shC S) (h : Nat) (hh : isH h) (h6 : h + 5 < 76) {s : AS} (hP : ShP I h s) (hs : sok s) (hF : ∀ I' b, FC [83] I I' → I' 83 = nF b → (∀ i, i < 64 → b i = encB s (aN s) i) → F (fx_wI S I')) : fx_Go G (3, 46) mm_H_encode 0 [(0, fx_r G h), (1, fx_r G 83)] [] (fx_wI S I) (fx_qv F Q) := by
  obtain ⟨s1, s2, s3, s4, s5, s6, s7⟩ := hs
  obtain ⟨h1, h2, h3, h4, h5, hn, hd, hly⟩ := hP
  have eh : ∀ g, fx_row I 83 g h = I h := fun g => fx_row_ne _ _ (by omega)
  have hal := atA_len s
  have hnl : (nmA (aM s)).length ≤ 10 := by rw [nmA_len]; split <;> omega
  refine bs_H_encode_0 hS.w h 83 hh isA_image ?_
  refine cA_fill hS 83 isA_image (fun b0 hb0 => ⟨hS, ?_⟩) rfl
  simp only [wI_I, wI_setI, forall_eq, row_w, eh, h1, h2, h3]
  rw [show (0 : Int32).toNatClampNeg = 0 from rfl, show (1 : Int32).toNatClampNeg = 1 from rfl, nF_up, nF_up]
  refine ⟨pk_in 0 64 (by omega) rfl, pk_in 1 64 (by omega) rfl, ?_⟩
  refine cV_putWord hS 83 isA_image (row_at _ _ _) 2 (aN s) (by omega) s1 ⟨hS, ?_⟩ rfl rfl
  rw [row_row]
  generalize hb2 : up (up (up (up b0 0 (aS s)) 1 (aP s)) 2 (aN s % 256)) (2 + 1) (aN s / 256) = b2
  refine cH_encodeName hS h hh h6 (hn.cg (fx_row_ne _ _ (by omega)) (fx_row_ne _ _ (by omega))) s2 (row_at _ _ _) ⟨hS, ?_⟩
  rw [row_row]
  have hP3 : ∀ g, ShP (fx_row I 83 g) h s := fun g => ShP.fc ⟨h1, h2, h3, h4, h5, hn, hd, hly⟩ (FC.row [83] I 83 g (by simp)) (fun a a1 a2 => by simp; omega)
  have hz2 : ∀ k, 4 ≤ k → k < 64 → b2 k = 0 := by
    intro k k1 k2
    rw [← hb2]
    unfold up
    rw [if_neg (by omega), if_neg (by omega), if_neg (by omega), if_neg (by omega)]
    exact hb0 k k2
  refine cH_encodeData hS h hh h6 (hP3 _) s4 s5 (row_at _ _ _) (10 + (nmA (aM s)).length) (by omega) (by omega) (by omega) (fun k k1 k2 => ?_) s6 ⟨hS, ?_⟩ rfl
  · rw [putL_no _ _ _ _ (by omega)]
    exact hz2 k (by omega) k2
  · rw [row_row, putL_app]
    simp only [wI_I, wI_setI, forall_eq, row_w]
    rw [show (8 : Int32).toNatClampNeg = 8 from rfl, show nI (10 + (nmA (aM s)).length + (dtA s).length) - 10 = nI (atA s).length by rw [show (10 : Int32) = nI 10 from rfl, pk_sub (by omega)]; congr 1; omega, nF_up]
    refine ⟨pk_in 8 64 (by omega) rfl, ?_⟩
    have hb4 : ∀ i, i < 64 → up (putL b2 10 (nmA (aM s) ++ dtA s)) 8 (atA s).length i = if i = 8 then (atA s).length else if i = 2 then aN s % 256 else if i = 3 then aN s / 256 else bfr s i := by
      intro i hi
      change up (putL b2 10 (atA s)) 8 (atA s).length i = _
      unfold up
      by_cases e8 : i = 8
      · rw [if_pos e8, if_pos e8]
      · rw [if_neg e8, if_neg e8]
        by_cases e10 : 10 ≤ i
        · rw [if_neg (by omega), if_neg (by omega)]
          unfold bfr
          rw [if_neg (by omega), if_neg (by omega), if_neg (by omega)]
          by_cases el : i < 10 + (atA s).length
          · rw [putL_in _ _ _ _ e10 el hi]
          · rw [putL_no _ _ _ _ (by omega), hz2 i (by omega) hi, gd_out (by omega)]
        · rw [putL_no _ _ _ _ (by omega), ← hb2]
          unfold up bfr
          by_cases e3 : i = 3
          · rw [if_pos e3, if_neg (by omega), if_pos e3]
          · rw [if_neg e3, if_neg e3]
            by_cases e2 : i = 2
            · rw [if_pos e2, if_pos e2]
            · rw [if_neg e2, if_neg e2]
              by_cases e1 : i = 1
              · rw [if_pos e1, if_neg (by omega), if_pos e1]
              · rw [if_neg e1, if_neg e1]
                by_cases e0 : i = 0
                · rw [if_pos e0, if_pos e0]
                · rw [if_neg e0, if_neg e0, if_pos (by omega)]
                  exact hb0 i hi
    generalize up (putL b2 10 (nmA (aM s) ++ dtA s)) 8 (atA s).length = b4 at hb4 ⊢
    have hB4 : ∀ i, 10 ≤ i → i < 64 → b4 i < 256 := by
      intro i g1 g2
      rw [hb4 i g2, if_neg (by omega), if_neg (by omega), if_neg (by omega)]
      unfold bfr
      rw [if_neg (by omega), if_neg (by omega), if_neg (by omega)]
      exact gd_lt (by omega) s7 _
    refine cH_setAside hS h hh h6 (row_at _ _ _) 4 30 (aN s) (by omega) (by omega) s1 (by rw [eh]; exact h3) (hB4 30 (by omega) (by omega)) (hB4 31 (by omega) (by omega)) ⟨hS, ?_⟩ rfl rfl
    rw [row_row]
    generalize hc : up (up (up (up b4 4 (b4 30)) (4 + 1) (b4 (30 + 1))) 30 (aN s % 256)) (30 + 1) (aN s / 256) = c
    have c62 : c 62 = b4 62 ∧ c (62 + 1) = b4 63 := by rw [← hc]; exact ⟨rfl, rfl⟩
    refine cH_setAside hS h hh h6 (row_at _ _ _) 6 62 (aN s) (by omega) (by omega) s1 (by rw [eh]; exact h3) (by rw [c62.1]; exact hB4 62 (by omega) (by omega)) (by rw [c62.2]; exact hB4 63 (by omega) (by omega)) ⟨hS, ?_⟩ rfl rfl
    rw [row_row]
    exact hF _ _ (FC.row [83] I 83 _ (by simp)) (row_at _ _ _) (fun i hi => enc_fin s b4 hb4 c hc.symm i hi)
end CH2
