/-! The class's sheets: lists, bytes inside, decoding. -/
theorem ShP.li {I I' : Nat → Nat → Int32} {h : Nat} {s : AS} {m : List Nat} (hP : ShP I h s) (h2 : aS s = 2) (hk : aK s = 4) (hL : aL s = []) (hF : FC [h, h + 3] I I') (e : ∀ j, j ≠ 4 → I' h j = I h j) (e4 : I' h 4 = nI m.length) (er : rowL I' (h + 3) m) : ShP I' h (setN (sLi s m) (aN s)) := by
  obtain ⟨p1, p2, p3, p4, p5, p6, p7, p8⟩ := hP
  refine ⟨?_, ?_, ?_, ?_, ?_, p6.fc hF (by simp <;> omega) (by simp <;> omega), er, ?_⟩
  · rw [e 0 (by omega), p1, h2]; rfl
  · rw [e 1 (by omega)]; exact p2
  · rw [e 2 (by omega)]; exact p3
  · rw [e 3 (by omega), p4, hk]; rfl
  · rw [e4]; rfl
  · have := p8.fc hF (by simp <;> omega) (by simp <;> omega)
    rw [hL] at this
    exact this
theorem wrd_lt2 {b : Nat → Nat} (hB : ∀ k, k < 64 → b k < 256) (p : Nat) (hp : p < 63) : wrd b p < 65536 := by
  have h1 := hB p (by omega)
  have h2 := hB (p + 1) (by omega)
  unfold wrd
  omega
section CH3
variable {G : fx_G} {S : fx_S} {I : Nat → Nat → Int32} {Q : fx_R → fx_S → Prop}
theorem cH_hasList12 {F : Int32 → fx_S → Prop} (hS : shC S) (h : Nat) (hh : isH h) {l m : List Nat} (hr : rowL I (h + 3) l) (hl : ∀ x ∈ l, x < 256) (hm : rowL I 84 m) (hm12 : m.length ≤ 12) (hmx : ∀ x ∈ m, x < 256) (hlm : l.length = m.length) (hF : F (bI (decide (l = m))) (fx_wI S I)) : ∀ (n k : Nat) {v2 v3 : Int32}, k + n = m.length → (∀ i, i < k → gd l i = gd m i) → v2 = nI m.length → v3 = nI k →
    fx_Go G (0, 0) mm_H_hasList 12 [(0, fx_r G h), (1, fx_r G 84), (2, .int v2), (3, .int v3)] [] (fx_wI S I) (fx_qi F Q) := by
  intro n
  induction n with
  | zero =>
    intro k v2 v3 hk hi e2 e3
    subst e2 e3
    refine bs_H_hasList_12 hS.w h 84 _ _ hh isA_entries ?_
    refine pk_le m.length k (fun _ => ?_) (fun q => by omega) rfl rfl (by omega) (by omega)
    have e : l = m := gd_ext hlm (fun i hi2 => hi i (by omega))
    rw [decide_eq_true e] at hF
    exact hF
  | succ n ih =>
    intro k v2 v3 hk hi e2 e3
    subst e2 e3
    refine bs_H_hasList_12 hS.w h 84 _ _ hh isA_entries ?_
    refine pk_le m.length k (fun q => by omega) (fun _ => ?_) rfl rfl (by omega) (by omega)
    simp only [wI_I]
    rw [pk_cl k rfl (by omega), hr k (by omega), hm k (by omega)]
    refine ⟨pk_in k 54 (by omega) rfl, pk_in k 12 (by omega) rfl, ?_⟩
    have g1 : gd l k < 256 := gd_lt (by omega) hl k
    have g2 : gd m k < 256 := gd_lt (by omega) hmx k
    refine pk_eq (gd l k) (gd m k) (fun q => ?_) (fun q => ?_) rfl rfl (by omega) (by omega)
    · refine ih (k + 1) (by omega) (fun i hi2 => ?_) rfl (by first | rfl | (simp (disch := omega) only [nI_lit, nI_ofInt1, nI_ofInt4, nI_ofInt2, nI_ofInt3, mI_neg, wI_I, wI_setI, wI_setR, forall_eq, nI_add, pk_mul, pk_sub, pk_div, pk_rem, nI_clamp, nI_leI, nI_ltI, nI_eq, vin_iff, nar0, nar1, nF_ap, bF_ap, oF_ap, bI_0, bI_1, and255, bu_w, bu_p, bu_90, bu_9, row_w, row_at, nF_up, nI_ofIntm] <;> first | done | omega | (congr 1; omega)))
      by_cases e : i = k
      · rw [e]; exact q
      · exact hi i (by omega)
    · rw [decide_eq_false (fun e => q (by rw [e]))] at hF
      exact hF
theorem cH_hasList {F : Int32 → fx_S → Prop} (hS : shC S) (h : Nat) (hh : isH h) {l m : List Nat} (h4 : I h 4 = nI l.length) (hl4 : l.length < 1000) (hr : rowL I (h + 3) l) (hl : ∀ x ∈ l, x < 256) (hm : rowL I 84 m) (hm12 : m.length ≤ 12) (hmx : ∀ x ∈ m, x < 256) {v2 : Int32} (hF : F (bI (decide (l = m))) (fx_wI S I)) (e2 : v2 = nI m.length) :
    fx_Go G (0, 0) mm_H_hasList 0 [(0, fx_r G h), (1, fx_r G 84), (2, .int v2)] [] (fx_wI S I) (fx_qi F Q) := by
  subst e2
  refine bs_H_hasList_0 hS.w h 84 _ hh isA_entries ?_
  simp only [wI_I, h4]
  refine pk_eq l.length m.length (fun q => ?_) (fun q => ?_) rfl rfl (by omega) (by omega)
  · exact cH_hasList12 hS h hh hr hl hm hm12 hmx q hF m.length 0 (by omega) (fun i hi => by omega) rfl rfl
  · rw [decide_eq_false (fun e => q (by rw [e]))] at hF
    exact hF
theorem cH_setList {F : fx_S → Prop} (hS : shC S) (h : Nat) (hh : isH h) {s : AS} (hP : ShP I h s) (hs2 : aS s = 2) (hk : aK s = 4) (hL : aL s = []) {m : List Nat} (hm : rowL I 84 m) (hm12 : m.length ≤ 12) {v2 : Int32} (hF : ∀ I', FC [h, h + 3] I I' → ShP I' h (setN (sLi s m) (aN s)) → F (fx_wI S I')) (e2 : v2 = nI m.length) :
    fx_Go G (1, 18) mm_H_setList 0 [(0, fx_r G h), (1, fx_r G 84), (2, .int v2)] [] (fx_wI S I) (fx_qv F Q) := by
  subst e2
  refine bs_H_setList_0 hS.w h 84 _ hh isA_entries ?_
  simp only [wI_setR, wI_setI, forall_eq, wI_I]
  rw [show (0 : Int32).toNatClampNeg = 0 from rfl, pk_cl m.length rfl (by omega)]
  refine ⟨⟨by decide, by decide, nI_pos (by omega), by rw [nI_clamp (by omega)]; show 0 + m.length ≤ 12; omega, by rw [nI_clamp (by omega)]; show 0 + m.length ≤ 54; omega⟩, ?_⟩
  have hFC : FC [h, h + 3] I (fx_w (fx_row I (h + 3) (va_cpy (I 84) (I (h + 3)) 0 0 m.length)) h 4 (nI m.length)) := (FC.row [h, h + 3] I (h + 3) _ (by simp <;> omega)).tr (FC.w [h, h + 3] _ h _ _ (by simp <;> omega))
  refine hF _ hFC (hP.li hs2 hk hL hFC (fun j hj => ?_) (fw_at _ _ _ _) (fun k hk2 => ?_))
  · rw [fw_nj hj, fx_row_ne _ _ (by omega)]
  · rw [fw_ne (by omega), row_at, pk_cpy_in (Nat.zero_le _) (by omega), Nat.sub_zero, Nat.zero_add]
    exact hm k hk2
theorem cH_pi29 {F : fx_S → Prop} (hS : shC S) (h : Nat) (hh : isH h) {s : AS} (a n : Nat) (b : Int32) (hn : n ≤ 60) (hg : gr s a n ≤ 54) (hF : ∀ I', FC [h, h + 3] I I' → (∀ j, j ≠ 4 → I' h j = I h j) → I' h 4 = nI (gr s a n) → rowL I' (h + 3) (wiL s a n b) → F (fx_wI S I')) : ∀ (m k : Nat) (J : Nat → Nat → Int32) {v5 : Int32}, k + m = n → FC [h + 3] I J → (∀ j, (j < sz s ∨ j < a + k) → J (h + 3) j = nI (if a ≤ j ∧ j < a + k then wv b (j - a) else if j < sz s then gd (aH s) j else 0)) → v5 = nI k →
    fx_Go G (0, 0) mm_H_putInside 29 [(0, fx_r G h), (1, .int (nI a)), (2, .int (nI n)), (3, .int b), (4, .int (nI (gr s a n))), (5, .int v5)] [] (fx_wI S J) (fx_qv F Q) := by
  have hga : a + n ≤ gr s a n ∧ sz s ≤ gr s a n := by unfold gr; split <;> omega
  intro m
  induction m with
  | zero =>
    intro k J v5 hk hJ hR e5
    subst e5
    refine bs_H_putInside_29 hS.w h _ _ _ _ _ hh ?_
    refine pk_le n k (fun _ => ?_) (fun q => by omega) rfl rfl (by omega) (by omega)
    simp only [wI_setI, forall_eq]
    refine hF _ ((hJ.mono (fun x hx => by simp at hx ⊢ <;> omega)).tr (FC.w [h, h + 3] _ h _ _ (by simp <;> omega))) (fun j hj => ?_) (fw_at _ _ _ _) (fun j hj => ?_)
    · rw [fw_nj hj, hJ h (by simp <;> omega)]
    · rw [wiL_len] at hj
      have hjn : j < sz s ∨ j < a + k := by
        unfold gr at hj
        split at hj <;> omega
      rw [fw_ne (by omega), hR j hjn, wiL_gd _ _ _ _ _ hj]
      unfold wiV
      rw [show a + k = a + n by omega]
  | succ m ih =>
    intro k J v5 hk hJ hR e5
    subst e5
    refine bs_H_putInside_29 hS.w h _ _ _ _ _ hh ?_
    refine pk_le n k (fun q => by omega) (fun _ => ?_) rfl rfl (by omega) (by omega)
    simp only [wI_setI, forall_eq]
    have ew := wv_eq b k 0 (Nat.zero_le _) (by omega)
    rw [show nI 0 = (0 : Int32) from rfl, Int32.sub_zero, Nat.sub_zero] at ew
    rw [show (b + nI k) &&& 255 = nI (wv b k) from ew, pk_cl (a + k) (by first | rfl | (simp (disch := omega) only [nI_lit, nI_ofInt1, nI_ofInt4, nI_ofInt2, nI_ofInt3, mI_neg, wI_I, wI_setI, wI_setR, forall_eq, nI_add, pk_mul, pk_sub, pk_div, pk_rem, nI_clamp, nI_leI, nI_ltI, nI_eq, vin_iff, nar0, nar1, nF_ap, bF_ap, oF_ap, bI_0, bI_1, and255, bu_w, bu_p, bu_90, bu_9, row_w, row_at, nF_up, nI_ofIntm] <;> first | done | omega | (congr 1; omega))) (by omega)]
    refine ⟨pk_in (a + k) 54 (by omega) (by first | rfl | (simp (disch := omega) only [nI_lit, nI_ofInt1, nI_ofInt4, nI_ofInt2, nI_ofInt3, mI_neg, wI_I, wI_setI, wI_setR, forall_eq, nI_add, pk_mul, pk_sub, pk_div, pk_rem, nI_clamp, nI_leI, nI_ltI, nI_eq, vin_iff, nar0, nar1, nF_ap, bF_ap, oF_ap, bI_0, bI_1, and255, bu_w, bu_p, bu_90, bu_9, row_w, row_at, nF_up, nI_ofIntm] <;> first | done | omega | (congr 1; omega))), ?_⟩
    refine ih (k + 1) _ (by omega) (hJ.tr (FC.w [h + 3] _ (h + 3) _ _ (by simp <;> omega))) (fun j hj => ?_) (by first | rfl | (simp (disch := omega) only [nI_lit, nI_ofInt1, nI_ofInt4, nI_ofInt2, nI_ofInt3, mI_neg, wI_I, wI_setI, wI_setR, forall_eq, nI_add, pk_mul, pk_sub, pk_div, pk_rem, nI_clamp, nI_leI, nI_ltI, nI_eq, vin_iff, nar0, nar1, nF_ap, bF_ap, oF_ap, bI_0, bI_1, and255, bu_w, bu_p, bu_90, bu_9, row_w, row_at, nF_up, nI_ofIntm] <;> first | done | omega | (congr 1; omega)))
    by_cases e : j = a + k
    · subst e
      rw [fw_at, if_pos (by omega), Nat.add_sub_cancel_left]
    · rw [fw_nj e, hR j (by omega)]
      by_cases c : a ≤ j ∧ j < a + k
      · rw [if_pos c, if_pos (by omega)]
      · rw [if_neg c, if_neg (show ¬ (a ≤ j ∧ j < a + (k + 1)) by omega)]
theorem cH_pi6 {F : fx_S → Prop} (hS : shC S) (h : Nat) (hh : isH h) {s : AS} (a n : Nat) (b : Int32) (hn : n ≤ 60) (hg : gr s a n ≤ 54) (hF : ∀ I', FC [h, h + 3] I I' → (∀ j, j ≠ 4 → I' h j = I h j) → I' h 4 = nI (gr s a n) → rowL I' (h + 3) (wiL s a n b) → F (fx_wI S I')) : ∀ (m k : Nat) (J : Nat → Nat → Int32) {v5 : Int32}, a ≤ k + m → k < 1000 → FC [h + 3] I J → (∀ j, j < sz s → J (h + 3) j = nI (gd (aH s) j)) → (∀ j, sz s ≤ j → j < k → J (h + 3) j = nI 0) → sz s ≤ k → v5 = nI k →
    fx_Go G (0, 0) mm_H_putInside 6 [(0, fx_r G h), (1, .int (nI a)), (2, .int (nI n)), (3, .int b), (4, .int (nI (gr s a n))), (5, .int v5)] [] (fx_wI S J) (fx_qv F Q) := by
  have hga : a + n ≤ gr s a n ∧ sz s ≤ gr s a n := by unfold gr; split <;> omega
  have main : ∀ (k : Nat) (J : Nat → Nat → Int32), a ≤ k → FC [h + 3] I J → (∀ j, j < sz s → J (h + 3) j = nI (gd (aH s) j)) → (∀ j, sz s ≤ j → j < k → J (h + 3) j = nI 0) →
      fx_Go G (0, 0) mm_H_putInside 29 [(0, fx_r G h), (1, .int (nI a)), (2, .int (nI n)), (3, .int b), (4, .int (nI (gr s a n))), (5, .int 0)] [] (fx_wI S J) (fx_qv F Q) := by
    intro k J hak hJ h1 h2
    refine cH_pi29 hS h hh a n b hn hg hF n 0 J (by omega) hJ (fun j hj => ?_) rfl
    rw [if_neg (by omega)]
    by_cases c : j < sz s
    · rw [if_pos c]; exact h1 j c
    · rw [if_neg c]; exact h2 j (by omega) (by omega)
  intro m
  induction m with
  | zero =>
    intro k J v5 hk hk1 hJ h1 h2 h3 e5
    subst e5
    refine bs_H_putInside_6 hS.w h _ _ _ _ _ hh ?_
    exact pk_le a k (fun q => main k J q hJ h1 h2) (fun q => by omega) rfl rfl (by omega) (by omega)
  | succ m ih =>
    intro k J v5 hk hk1 hJ h1 h2 h3 e5
    subst e5
    refine bs_H_putInside_6 hS.w h _ _ _ _ _ hh ?_
    refine pk_le a k (fun q => main k J q hJ h1 h2) (fun q => ?_) rfl rfl (by omega) (by omega)
    simp only [wI_setI, forall_eq]
    rw [pk_cl k rfl (by omega)]
    refine ⟨pk_in k 54 (by omega) rfl, ?_⟩
    refine ih (k + 1) _ (by omega) (by omega) (hJ.tr (FC.w [h + 3] _ (h + 3) _ _ (by simp <;> omega))) (fun j hj => ?_) (fun j j1 j2 => ?_) (by omega) (by first | rfl | (simp (disch := omega) only [nI_lit, nI_ofInt1, nI_ofInt4, nI_ofInt2, nI_ofInt3, mI_neg, wI_I, wI_setI, wI_setR, forall_eq, nI_add, pk_mul, pk_sub, pk_div, pk_rem, nI_clamp, nI_leI, nI_ltI, nI_eq, vin_iff, nar0, nar1, nF_ap, bF_ap, oF_ap, bI_0, bI_1, and255, bu_w, bu_p, bu_90, bu_9, row_w, row_at, nF_up, nI_ofIntm] <;> first | done | omega | (congr 1; omega)))
    · rw [fw_nj (by omega)]; exact h1 j hj
    · by_cases e : j = k
      · subst e; exact fw_at _ _ _ _
      · rw [fw_nj e]; exact h2 j j1 (by omega)
theorem cH_putInside {F : fx_S → Prop} (hS : shC S) (h : Nat) (hh : isH h) {s : AS} (hP : ShP I h s) (hs1 : aS s = 1) (hk : aK s = 2) (hL : aL s = []) (a n : Nat) (b : Int32) (hn : n ≤ 60) (hg : gr s a n ≤ 54) {v1 v2 v4 : Int32} (hF : ∀ I', FC [h, h + 3] I I' → ShP I' h (setN (wiS s a n b) (aN s)) → F (fx_wI S I')) (e1 : v1 = nI a) (e2 : v2 = nI n) (e4 : v4 = nI (gr s a n)) :
    fx_Go G (0, 0) mm_H_putInside 0 [(0, fx_r G h), (1, .int v1), (2, .int v2), (3, .int b), (4, .int v4)] [] (fx_wI S I) (fx_qv F Q) := by
  subst e1 e2 e4
  have hga : a + n ≤ gr s a n ∧ sz s ≤ gr s a n := by unfold gr; split <;> omega
  have ez : sz s = (aH s).length := by unfold sz; rw [if_neg (by omega)]
  obtain ⟨p1, p2, p3, p4, p5, p6, p7, p8⟩ := hP
  refine bs_H_putInside_0 hS.w h _ _ _ _ hh ?_
  simp only [wI_I, p5]
  refine cH_pi6 hS h hh a n b hn hg (fun I' hF' e e4 er => hF I' hF' ?_) a (sz s) I (by omega) (by omega) (FC.r _ _) (fun j hj => p7 j (by omega)) (fun j j1 j2 => by omega) (Nat.le_refl _) rfl
  refine ⟨?_, ?_, ?_, ?_, ?_, p6.fc hF' (by simp <;> omega) (by simp <;> omega), er, ?_⟩
  · rw [e 0 (by omega), p1, hs1]; rfl
  · rw [e 1 (by omega)]; exact p2
  · rw [e 2 (by omega)]; exact p3
  · rw [e 3 (by omega), p4, hk]; rfl
  · rw [e4]
    show nI (gr s a n) = nI (wiL s a n b).length
    rw [wiL_len]
  · have := p8.fc hF' (by simp <;> omega) (by simp <;> omega)
    rw [hL] at this
    exact this
theorem cH_isTorn {F : Int32 → fx_S → Prop} (hS : shC S) (h : Nat) (hh : isH h) {b : Nat → Nat} (hb : I 83 = nF b) (hB : ∀ k, k < 64 → b k < 256) (h2 : I h 2 = nI (wrd b 2)) (hF : F (bI (torn b 0)) (fx_wI S I)) : fx_Go G (1, 13) mm_H_isTorn 0 [(0, fx_r G h), (1, fx_r G 83)] [] (fx_wI S I) (fx_qi F Q) := by
  have hF' : F (bI (!(decide (wrd b 30 = wrd b 2) && decide (wrd b 62 = wrd b 2)))) (fx_wI S I) := hF
  have w1 := wrd_lt2 hB 30 (by omega)
  have w2 := wrd_lt2 hB 62 (by omega)
  have w3 := wrd_lt2 hB 2 (by omega)
  refine bs_H_isTorn_0 hS.w h 83 hh isA_image ?_
  refine cV_wordAt hS 83 isA_image hb 30 (by omega) ⟨hS, ?_⟩ rfl
  simp only [wI_I, h2]
  refine ne_pair (pk_eq (wrd b 30) (wrd b 2) (fun q => ?_) (fun q => ?_) rfl rfl (by omega) (by omega))
  · refine cV_wordAt hS 83 isA_image hb 62 (by omega) ⟨hS, ?_⟩ rfl
    simp only [wI_I, h2]
    refine pk_eq (wrd b 62) (wrd b 2) (fun q2 => ?_) (fun q2 => ?_) rfl rfl (by omega) (by omega)
    · rw [decide_eq_true q, decide_eq_true q2] at hF'
      exact hF'
    · rw [decide_eq_true q, decide_eq_false q2] at hF'
      exact hF'
  · rw [decide_eq_false q] at hF'
    exact hF'
theorem cH_da16 {F : fx_S → Prop} (hS : shC S) (h : Nat) (hh : isH h) (h6 : h + 5 < 76) (b : Nat → Nat) : ∀ (rest acc : List Nat) (p : Nat) (I : Nat → Nat → Int32) {v3 v5 : Int32}, p + rest.length ≤ 64 → I 83 = nF b → NmP I (h + 1) acc → acc.length + rest.length ≤ 8 → (∀ x ∈ rest, isLt x = true ∧ x < 256) → (∀ i, i < rest.length → b (p + i) = gd rest i) →
    (∀ I', FC [h + 1, h + 2] I I' → NmP I' (h + 1) (acc ++ rest) → F (fx_wI S I')) → v3 = nI (p + rest.length) → v5 = nI p →
    fx_Go G (2, 32) mm_H_decodeAttribute 16 [(0, fx_r G h), (1, fx_r G 83), (3, .int v3), (5, .int v5)] [] (fx_wI S I) (fx_qv F Q) := by
  intro rest
  induction rest with
  | nil =>
    intro acc p I v3 v5 hp hb hN hl hx hr hF e3 e5
    subst e3 e5
    refine bs_H_decodeAttribute_16 hS.w h 83 _ _ hh isA_image ?_
    refine pk_le (p + 0) p (fun _ => ?_) (fun q => by omega) rfl rfl (by simp at hp <;> omega) (by simp at hp <;> omega)
    refine hF I (FC.r _ _) ?_
    rw [List.append_nil]
    exact hN
  | cons x rest ih =>
    intro acc p I v3 v5 hp hb hN hl hx hr hF e3 e5
    subst e3 e5
    simp only [List.length_cons] at hp hl
    have hx0 := hx x (List.mem_cons_self ..)
    have hb0 : b p = x := by
      have := hr 0 (by simp <;> omega)
      rw [Nat.add_zero, gd_0] at this
      exact this
    refine bs_H_decodeAttribute_16 hS.w h 83 _ _ hh isA_image ?_
    refine pk_le (p + (x :: rest).length) p (fun q => by simp only [List.length_cons] at q; omega) (fun _ => ?_) rfl rfl (by simp only [List.length_cons]; omega) (by omega)
    simp only [wI_I, hb]
    rw [pk_cl p rfl (by omega), nF_ap, hb0]
    refine ⟨pk_in p 64 (by omega) rfl, ?_⟩
    refine cN_append hS (h + 1) hh.n hN (by omega) x (by omega) (fun I' hF' hN' => ⟨hS, ?_⟩) rfl
    have ha : apN acc x = true := by
      unfold apN
      rw [hx0.1, decide_eq_true (by omega)]
      rfl
    rw [if_pos ha] at hN'
    refine ih (acc ++ [x]) (p + 1) I' (by omega) (by rw [hF' 83 (by simp <;> omega)]; exact hb) hN' (by simp <;> omega) (fun y hy => hx y (List.mem_cons_of_mem _ hy)) (fun i hi => ?_) (fun I'' hF'' hN'' => hF I'' (hF'.tr hF'') ?_) (by simp only [List.length_cons]; congr 1; omega) (by first | rfl | (simp (disch := omega) only [nI_lit, nI_ofInt1, nI_ofInt4, nI_ofInt2, nI_ofInt3, mI_neg, wI_I, wI_setI, wI_setR, forall_eq, nI_add, pk_mul, pk_sub, pk_div, pk_rem, nI_clamp, nI_leI, nI_ltI, nI_eq, vin_iff, nar0, nar1, nF_ap, bF_ap, oF_ap, bI_0, bI_1, and255, bu_w, bu_p, bu_90, bu_9, row_w, row_at, nF_up, nI_ofIntm] <;> first | done | omega | (congr 1; omega)))
    · have := hr (i + 1) (by simp only [List.length_cons]; omega)
      rw [gd_s] at this
      rw [← this]
      congr 1
      omega
    · rw [List.append_assoc] at hN''
      exact hN''
theorem cH_daName {F : fx_S → Prop} (hS : shC S) (h : Nat) (hh : isH h) (h6 : h + 5 < 76) {b : Nat → Nat} (hb : I 83 = nF b) (p : Nat) (l : List Nat) (hp : p + 2 + l.length ≤ 64) (hN : NmP I (h + 1) []) (hl : l.length ≤ 8) (hx : ∀ x ∈ l, isLt x = true ∧ x < 256) (h1 : b p = 1) (hr : ∀ i, i < l.length → b (p + 2 + i) = gd l i) {v2 v3 : Int32}
    (hF : ∀ I', FC [h + 1, h + 2] I I' → NmP I' (h + 1) l → F (fx_wI S I')) (e2 : v2 = nI p) (e3 : v3 = nI (p + 2 + l.length)) : fx_Go G (2, 32) mm_H_decodeAttribute 0 [(0, fx_r G h), (1, fx_r G 83), (2, .int v2), (3, .int v3)] [] (fx_wI S I) (fx_qv F Q) := by
  subst e2 e3
  refine bs_H_decodeAttribute_0 hS.w h 83 _ _ hh isA_image ?_
  simp only [wI_I, hb]
  rw [pk_cl p rfl (by omega), nF_ap, h1]
  refine ⟨pk_in p 64 (by omega) rfl, fun q => absurd rfl q, fun _ => ?_⟩
  exact cH_da16 hS h hh h6 b l [] (p + 2) I (by omega) hb hN (by simp <;> omega) hx hr hF rfl (by first | rfl | (simp (disch := omega) only [nI_lit, nI_ofInt1, nI_ofInt4, nI_ofInt2, nI_ofInt3, mI_neg, wI_I, wI_setI, wI_setR, forall_eq, nI_add, pk_mul, pk_sub, pk_div, pk_rem, nI_clamp, nI_leI, nI_ltI, nI_eq, vin_iff, nar0, nar1, nF_ap, bF_ap, oF_ap, bI_0, bI_1, and255, bu_w, bu_p, bu_90, bu_9, row_w, row_at, nF_up, nI_ofIntm] <;> first | done | omega | (congr 1; omega)))
theorem cH_daIn {F : fx_S → Prop} (hS : shC S) (h : Nat) (hh : isH h) (h6 : h + 5 < 76) {b : Nat → Nat} (hb : I 83 = nF b) (p k : Nat) (l : List Nat) (hp : p + 2 + l.length ≤ 64) (hl : l.length ≤ 54) (hk : k = 2 ∨ k = 4) (h1 : b p = k) (hr : ∀ i, i < l.length → b (p + 2 + i) = gd l i) {v2 v3 : Int32}
    (hF : ∀ I', FC [h, h + 3] I I' → (∀ j, j ≠ 3 → j ≠ 4 → I' h j = I h j) → I' h 3 = nI k → I' h 4 = nI l.length → rowL I' (h + 3) l → F (fx_wI S I')) (e2 : v2 = nI p) (e3 : v3 = nI (p + 2 + l.length)) : fx_Go G (2, 32) mm_H_decodeAttribute 0 [(0, fx_r G h), (1, fx_r G 83), (2, .int v2), (3, .int v3)] [] (fx_wI S I) (fx_qv F Q) := by
  subst e2 e3
  refine bs_H_decodeAttribute_0 hS.w h 83 _ _ hh isA_image ?_
  simp only [wI_I, wI_setI, wI_setR, forall_eq, hb]
  rw [pk_cl p rfl (by omega), nF_ap, h1]
  refine ⟨pk_in p 64 (by omega) rfl, fun _ => ⟨pk_in p 64 (by omega) rfl, fun q => absurd q ?_, fun _ => ⟨pk_in p 64 (by omega) rfl, ?_⟩⟩, fun q => absurd q ?_⟩
  · rw [show (3 : Int32) = nI 3 from rfl, nI_eq (by omega) (by omega)]
    omega
  · have e4 : nI (p + 2 + l.length) - (nI p + 2) = nI l.length := by
      rw [show nI p + 2 = nI (p + 2) from (by first | rfl | (simp (disch := omega) only [nI_lit, nI_ofInt1, nI_ofInt4, nI_ofInt2, nI_ofInt3, mI_neg, wI_I, wI_setI, wI_setR, forall_eq, nI_add, pk_mul, pk_sub, pk_div, pk_rem, nI_clamp, nI_leI, nI_ltI, nI_eq, vin_iff, nar0, nar1, nF_ap, bF_ap, oF_ap, bI_0, bI_1, and255, bu_w, bu_p, bu_90, bu_9, row_w, row_at, nF_up, nI_ofIntm] <;> first | done | omega | (congr 1; omega))), pk_sub (by omega)]
      congr 1
      omega
    have eI : fx_w (fx_w I h 3 (nI k)) h 4 (nI l.length) h 4 = nI l.length := fw_at _ _ _ _
    have e83 : fx_w (fx_w I h 3 (nI k)) h 4 (nI l.length) 83 = nF b := by rw [fw_ne (by omega), fw_ne (by omega)]; exact hb
    rw [e4, eI, e83, pk_cl (p + 2) (by first | rfl | (simp (disch := omega) only [nI_lit, nI_ofInt1, nI_ofInt4, nI_ofInt2, nI_ofInt3, mI_neg, wI_I, wI_setI, wI_setR, forall_eq, nI_add, pk_mul, pk_sub, pk_div, pk_rem, nI_clamp, nI_leI, nI_ltI, nI_eq, vin_iff, nar0, nar1, nF_ap, bF_ap, oF_ap, bI_0, bI_1, and255, bu_w, bu_p, bu_90, bu_9, row_w, row_at, nF_up, nI_ofIntm] <;> first | done | omega | (congr 1; omega))) (by omega), show (0 : Int32).toNatClampNeg = 0 from rfl, pk_cl l.length rfl (by omega)]
    refine ⟨⟨?_, by decide, nI_pos (by omega), by rw [pk_cl (p + 2) (by first | rfl | (simp (disch := omega) only [nI_lit, nI_ofInt1, nI_ofInt4, nI_ofInt2, nI_ofInt3, mI_neg, wI_I, wI_setI, wI_setR, forall_eq, nI_add, pk_mul, pk_sub, pk_div, pk_rem, nI_clamp, nI_leI, nI_ltI, nI_eq, vin_iff, nar0, nar1, nF_ap, bF_ap, oF_ap, bI_0, bI_1, and255, bu_w, bu_p, bu_90, bu_9, row_w, row_at, nF_up, nI_ofIntm] <;> first | done | omega | (congr 1; omega))) (by omega), nI_clamp (by omega)]; omega, by rw [nI_clamp (by omega)]; show 0 + l.length ≤ 54; omega⟩, ?_⟩
    · rw [show nI p + 2 = nI (p + 2) from (by first | rfl | (simp (disch := omega) only [nI_lit, nI_ofInt1, nI_ofInt4, nI_ofInt2, nI_ofInt3, mI_neg, wI_I, wI_setI, wI_setR, forall_eq, nI_add, pk_mul, pk_sub, pk_div, pk_rem, nI_clamp, nI_leI, nI_ltI, nI_eq, vin_iff, nar0, nar1, nF_ap, bF_ap, oF_ap, bI_0, bI_1, and255, bu_w, bu_p, bu_90, bu_9, row_w, row_at, nF_up, nI_ofIntm] <;> first | done | omega | (congr 1; omega)))]
      exact nI_pos (by omega)
    · refine hF _ (((FC.w [h, h + 3] I h _ _ (by simp <;> omega)).tr (FC.w [h, h + 3] _ h _ _ (by simp <;> omega))).tr (FC.row [h, h + 3] _ (h + 3) _ (by simp <;> omega))) (fun j j3 j4 => ?_) ?_ ?_ (fun i hi => ?_)
      · rw [fx_row_ne _ _ (by omega), fw_nj j4, fw_nj j3]
      · rw [fx_row_ne _ _ (by omega), fw_nj (by omega), fw_at]
      · rw [fx_row_ne _ _ (by omega), fw_at]
      · rw [row_at, pk_cpy_in (Nat.zero_le _) (by omega), Nat.sub_zero, nF_ap, hr i hi]
  · rw [show (1 : Int32) = nI 1 from rfl, nI_eq (by omega) (by omega)]
    omega
theorem cH_daOut {F : fx_S → Prop} (hS : shC S) (h : Nat) (hh : isH h) (h6 : h + 5 < 76) {b : Nat → Nat} (hb : I 83 = nF b) (p z : Nat) (l : List (Option Nat)) (hp : p + 5 + (rn 48 l).length ≤ 64) (hl : yok l) (hz : z < 65536) (h1 : b p = 3) (h2 : b (p + 2) = z % 256) (h3 : b (p + 3) = z / 256) (hr : ∀ i, i ≤ (rn 48 l).length → b (p + 4 + i) = gd (rn 48 l ++ [0]) i) {v2 v3 : Int32}
    (hF : ∀ I', FC [h, h + 4, h + 5] I I' → (∀ j, j ≠ 3 → j ≠ 4 → I' h j = I h j) → I' h 3 = nI 3 → I' h 4 = nI z → LyP I' (h + 4) l → F (fx_wI S I')) (e2 : v2 = nI p) (e3 : v3 = nI (p + 5 + (rn 48 l).length)) : fx_Go G (2, 32) mm_H_decodeAttribute 0 [(0, fx_r G h), (1, fx_r G 83), (2, .int v2), (3, .int v3)] [] (fx_wI S I) (fx_qv F Q) := by
  subst e2 e3
  refine bs_H_decodeAttribute_0 hS.w h 83 _ _ hh isA_image ?_
  simp only [wI_I, wI_setI, forall_eq, hb]
  rw [pk_cl p rfl (by omega), nF_ap, h1]
  refine ⟨pk_in p 64 (by omega) rfl, fun _ => ⟨pk_in p 64 (by omega) rfl, fun _ => ?_, fun q => absurd rfl q⟩, fun q => absurd q (by decide)⟩
  refine pk_lt (p + 5 + (rn 48 l).length) (p + 4) (fun q => by omega) (fun _ => ?_) rfl (by first | rfl | (simp (disch := omega) only [nI_lit, nI_ofInt1, nI_ofInt4, nI_ofInt2, nI_ofInt3, mI_neg, wI_I, wI_setI, wI_setR, forall_eq, nI_add, pk_mul, pk_sub, pk_div, pk_rem, nI_clamp, nI_leI, nI_ltI, nI_eq, vin_iff, nar0, nar1, nF_ap, bF_ap, oF_ap, bI_0, bI_1, and255, bu_w, bu_p, bu_90, bu_9, row_w, row_at, nF_up, nI_ofIntm] <;> first | done | omega | (congr 1; omega))) (by omega) (by omega)
  refine cV_wordAt hS 83 isA_image (by rw [fw_ne (by omega)]; exact hb) (p + 2) (by omega) ⟨hS, ?_⟩ (by first | rfl | (simp (disch := omega) only [nI_lit, nI_ofInt1, nI_ofInt4, nI_ofInt2, nI_ofInt3, mI_neg, wI_I, wI_setI, wI_setR, forall_eq, nI_add, pk_mul, pk_sub, pk_div, pk_rem, nI_clamp, nI_leI, nI_ltI, nI_eq, vin_iff, nar0, nar1, nF_ap, bF_ap, oF_ap, bI_0, bI_1, and255, bu_w, bu_p, bu_90, bu_9, row_w, row_at, nF_up, nI_ofIntm] <;> first | done | omega | (congr 1; omega)))
  have ew : wrd b (p + 2) = z := by
    unfold wrd
    rw [h2, show p + 2 + 1 = p + 3 by omega, h3]
    omega
  rw [ew]
  simp only [wI_setI, forall_eq]
  refine cY_decode hS (h + 4) 83 hh.y isA_image ⟨by omega, by omega⟩ (b := b) (by rw [fw_ne (by omega), fw_ne (by omega)]; exact hb) l hl.1 hl.2 (p + 4) (by omega) (fun i hi => hr i hi) (fun I' hF' hL' => ⟨hS, ?_⟩) (by first | rfl | (simp (disch := omega) only [nI_lit, nI_ofInt1, nI_ofInt4, nI_ofInt2, nI_ofInt3, mI_neg, wI_I, wI_setI, wI_setR, forall_eq, nI_add, pk_mul, pk_sub, pk_div, pk_rem, nI_clamp, nI_leI, nI_ltI, nI_eq, vin_iff, nar0, nar1, nF_ap, bF_ap, oF_ap, bI_0, bI_1, and255, bu_w, bu_p, bu_90, bu_9, row_w, row_at, nF_up, nI_ofIntm] <;> first | done | omega | (congr 1; omega))) (by congr 1; omega)
  have e0 : I' h = fx_w (fx_w I h 3 3) h 4 (nI z) h := hF' h (by simp <;> omega)
  refine hF I' (((FC.w [h, h + 4, h + 5] I h _ _ (by simp <;> omega)).tr (FC.w [h, h + 4, h + 5] _ h _ _ (by simp <;> omega))).tr (hF'.mono (fun a ha => by simp at ha ⊢ <;> omega))) (fun j j3 j4 => ?_) ?_ ?_ hL'
  · rw [e0, fw_nj j4, fw_nj j3]
  · rw [e0, fw_nj (by omega), fw_at]; rfl
  · rw [e0, fw_at]
theorem cH_dasStep {F : fx_S → Prop} (hS : shC S) (h : Nat) (hh : isH h) {b : Nat → Nat} (hb : I 83 = nF b) (p len e : Nat) (h2 : 2 ≤ len) (hp : p + len ≤ e) (he : e ≤ 64) (hl : b (p + 1) = len) {v2 v3 : Int32}
    (hA : fx_Go G (2, 32) mm_H_decodeAttribute 0 [(0, fx_r G h), (1, fx_r G 83), (2, .int (nI p)), (3, .int (nI (p + len)))] [] (fx_wI S I) (fx_qv (fun S2 => shC S2 ∧ fx_Go G (3, 49) mm_H_decodeAttributes 16 [(0, fx_r G h), (1, fx_r G 83), (2, .int (nI e)), (3, .int (nI (p + len)))] [] S2 (fx_qv F Q)) (fx_qv F Q))) (e2 : v2 = nI e) (e3 : v3 = nI p) :
    fx_Go G (3, 49) mm_H_decodeAttributes 16 [(0, fx_r G h), (1, fx_r G 83), (2, .int v2), (3, .int v3)] [] (fx_wI S I) (fx_qv F Q) := by
  subst e2 e3
  refine bs_H_decodeAttributes_16 hS.w h 83 _ _ hh isA_image ?_
  simp only [wI_I, hb]
  rw [pk_cl (p + 1) (by first | rfl | (simp (disch := omega) only [nI_lit, nI_ofInt1, nI_ofInt4, nI_ofInt2, nI_ofInt3, mI_neg, wI_I, wI_setI, wI_setR, forall_eq, nI_add, pk_mul, pk_sub, pk_div, pk_rem, nI_clamp, nI_leI, nI_ltI, nI_eq, vin_iff, nar0, nar1, nF_ap, bF_ap, oF_ap, bI_0, bI_1, and255, bu_w, bu_p, bu_90, bu_9, row_w, row_at, nF_up, nI_ofIntm] <;> first | done | omega | (congr 1; omega))) (by omega), nF_ap, hl]
  refine pk_lt e (p + 2) (fun q => by omega) (fun _ => ?_) rfl (by first | rfl | (simp (disch := omega) only [nI_lit, nI_ofInt1, nI_ofInt4, nI_ofInt2, nI_ofInt3, mI_neg, wI_I, wI_setI, wI_setR, forall_eq, nI_add, pk_mul, pk_sub, pk_div, pk_rem, nI_clamp, nI_leI, nI_ltI, nI_eq, vin_iff, nar0, nar1, nF_ap, bF_ap, oF_ap, bI_0, bI_1, and255, bu_w, bu_p, bu_90, bu_9, row_w, row_at, nF_up, nI_ofIntm] <;> first | done | omega | (congr 1; omega))) (by omega) (by omega)
  have e4 : nI p + (if nI len < 2 then 2 else nI len) = nI (p + len) := by
    rw [if_neg (show ¬ nI len < 2 from nI_nlt (b := 2) h2 (by omega)), nI_add]
  rw [e4]
  have e5 : (if nI e < nI (p + len) then nI e else nI (p + len)) = nI (p + len) := if_neg (nI_nlt hp (by omega))
  rw [e5]
  exact ⟨pk_in (p + 1) 64 (by omega) (by first | rfl | (simp (disch := omega) only [nI_lit, nI_ofInt1, nI_ofInt4, nI_ofInt2, nI_ofInt3, mI_neg, wI_I, wI_setI, wI_setR, forall_eq, nI_add, pk_mul, pk_sub, pk_div, pk_rem, nI_clamp, nI_leI, nI_ltI, nI_eq, vin_iff, nar0, nar1, nF_ap, bF_ap, oF_ap, bI_0, bI_1, and255, bu_w, bu_p, bu_90, bu_9, row_w, row_at, nF_up, nI_ofIntm] <;> first | done | omega | (congr 1; omega))), hA⟩
theorem cH_dasEnd {F : fx_S → Prop} (hS : shC S) (h : Nat) (hh : isH h) (e : Nat) (he : e ≤ 64) {v2 v3 : Int32} (hF : F (fx_wI S I)) (e2 : v2 = nI e) (e3 : v3 = nI e) : fx_Go G (3, 49) mm_H_decodeAttributes 16 [(0, fx_r G h), (1, fx_r G 83), (2, .int v2), (3, .int v3)] [] (fx_wI S I) (fx_qv F Q) := by
  subst e2 e3
  refine bs_H_decodeAttributes_16 hS.w h 83 _ _ hh isA_image ?_
  exact pk_lt e (e + 2) (fun _ => hF) (fun q => by omega) rfl (by first | rfl | (simp (disch := omega) only [nI_lit, nI_ofInt1, nI_ofInt4, nI_ofInt2, nI_ofInt3, mI_neg, wI_I, wI_setI, wI_setR, forall_eq, nI_add, pk_mul, pk_sub, pk_div, pk_rem, nI_clamp, nI_leI, nI_ltI, nI_eq, vin_iff, nar0, nar1, nF_ap, bF_ap, oF_ap, bI_0, bI_1, and255, bu_w, bu_p, bu_90, bu_9, row_w, row_at, nF_up, nI_ofIntm] <;> first | done | omega | (congr 1; omega))) (by omega) (by omega)
theorem cH_decodeAttributes {F : fx_S → Prop} (hS : shC S) (h : Nat) (hh : isH h) (h6 : h + 5 < 76) {s : AS} (hw : wf s) (hlt : ∀ x ∈ aM s, isLt x = true) {b : Nat → Nat} (hb : I 83 = nF b) (hv : ∀ k, 8 ≤ k → k < 64 → b k = rv s k) (hP : ShP I h (bec (aS s) (aP s) (aN s))) (hF : ∀ I', FC [h, h + 1, h + 2, h + 3, h + 4, h + 5] I I' → ShP I' h s → F (fx_wI S I')) :
    fx_Go G (3, 49) mm_H_decodeAttributes 0 [(0, fx_r G h), (1, fx_r G 83)] [] (fx_wI S I) (fx_qv F Q) := by
  obtain ⟨p1, p2, p3, p4, p5, p6, p7, p8⟩ := hP
  have hal := atA_len s
  have hlen := hw.al
  have hnl := hw.nl
  have hka := hw.ka
  have hdl := dtA_len s
  rw [if_neg (by omega)] at hdl
  have data : ∀ J, FC [h + 1, h + 2] I J → NmP J (h + 1) (aM s) → fx_Go G (3, 49) mm_H_decodeAttributes 16 [(0, fx_r G h), (1, fx_r G 83), (2, .int (nI (10 + (atA s).length))), (3, .int (nI (10 + (nmA (aM s)).length)))] [] (fx_wI S J) (fx_qv F Q) := by
    intro J hJ hN
    have hb1 : J 83 = nF b := by rw [hJ 83 (by simp <;> omega)]; exact hb
    have h0 : J h = I h := hJ h (by simp <;> omega)
    have hy : LyP J (h + 4) [] := p8.fc hJ (by simp <;> omega) (by simp <;> omega)
    have d0 : b (10 + (nmA (aM s)).length) = aK s := by rw [hv _ (by omega) (by split at hdl <;> omega)]; exact rv_d0 s (by omega)
    have d1 : b (10 + (nmA (aM s)).length + 1) = (dtA s).length := by rw [hv _ (by omega) (by split at hdl <;> omega)]; exact rv_d1 s (by omega)
    refine cH_dasStep hS h hh hb1 (10 + (nmA (aM s)).length) (dtA s).length (10 + (atA s).length) (by split at hdl <;> omega) (by omega) (by omega) d1 ?_ rfl rfl
    by_cases k3 : aK s = 3
    · rw [if_pos k3] at hdl
      have hz := hw.z k3
      have hll := hw.ll k3
      have h9 := hw.2.2.2.2.2.2.2.2.2 k3
      have r32 := rv_32 s k3
      refine cH_daOut hS h hh h6 hb1 (10 + (nmA (aM s)).length) (aZ s) (aL s) (by omega) hw.sok.2.2.2.1 (by omega) (by rw [d0]; exact k3) (by rw [hv _ (by omega) (by omega)]; exact r32.1) (by rw [hv _ (by omega) (by omega)]; exact r32.2) (fun i hi => by rw [hv _ (by omega) (by omega)]; exact rv_3 s k3 i) (fun I' hF' e e3 e4 hL' => ⟨hS, ?_⟩) rfl (by congr 1; omega)
      refine cH_dasEnd hS h hh (10 + (atA s).length) (by omega) (hF I' ((hJ.mono (fun a ha => by simp at ha ⊢ <;> omega)).tr (hF'.mono (fun a ha => by simp at ha ⊢ <;> omega))) ?_) rfl (by congr 1; omega)
      refine ⟨?_, ?_, ?_, by rw [e3, k3], ?_, hN.fc hF' (by simp <;> omega) (by simp <;> omega), ?_, hL'⟩
      · rw [e 0 (by omega) (by omega), h0]; exact p1
      · rw [e 1 (by omega) (by omega), h0]; exact p2
      · rw [e 2 (by omega) (by omega), h0]; exact p3
      · rw [e4]
        unfold sz
        rw [if_pos k3]
      · rw [h9.2.2.2.1]
        exact fun j hj => absurd hj (Nat.not_lt_zero _)
    · rw [if_neg k3] at hdl
      refine cH_daIn hS h hh h6 hb1 (10 + (nmA (aM s)).length) (aK s) (aH s) (by omega) (by omega) (by omega) d0 (fun i hi => by rw [hv _ (by omega) (by omega)]; exact rv_h s (by omega) k3 i) (fun I' hF' e e3 e4 hr' => ⟨hS, ?_⟩) rfl (by congr 1; omega)
      refine cH_dasEnd hS h hh (10 + (atA s).length) (by omega) (hF I' ((hJ.mono (fun a ha => by simp at ha ⊢ <;> omega)).tr (hF'.mono (fun a ha => by simp at ha ⊢ <;> omega))) ?_) rfl (by congr 1; omega)
      refine ⟨?_, ?_, ?_, e3, ?_, hN.fc hF' (by simp <;> omega) (by simp <;> omega), hr', ?_⟩
      · rw [e 0 (by omega) (by omega), h0]; exact p1
      · rw [e 1 (by omega) (by omega), h0]; exact p2
      · rw [e 2 (by omega) (by omega), h0]; exact p3
      · rw [e4]
        unfold sz
        rw [if_neg k3]
      · rw [hw.2.2.2.2.2.2.2.2.1 k3]
        exact hy.fc hF' (by simp <;> omega) (by simp <;> omega)
  refine bs_H_decodeAttributes_0 hS.w h 83 hh isA_image ?_
  simp only [wI_I, hb]
  rw [show (8 : Int32).toNatClampNeg = 8 from rfl, nF_ap, hv 8 (by omega) (by omega), rv_8, show (10 : Int32) + nI (atA s).length = nI (10 + (atA s).length) from (by first | rfl | (simp (disch := omega) only [nI_lit, nI_ofInt1, nI_ofInt4, nI_ofInt2, nI_ofInt3, mI_neg, wI_I, wI_setI, wI_setR, forall_eq, nI_add, pk_mul, pk_sub, pk_div, pk_rem, nI_clamp, nI_leI, nI_ltI, nI_eq, vin_iff, nar0, nar1, nF_ap, bF_ap, oF_ap, bI_0, bI_1, and255, bu_w, bu_p, bu_90, bu_9, row_w, row_at, nF_up, nI_ofIntm] <;> first | done | omega | (congr 1; omega)))]
  have e5 : (if (64 : Int32) < nI (10 + (atA s).length) then 64 else nI (10 + (atA s).length)) = nI (10 + (atA s).length) := if_neg (nI_nlt (a := 64) (by omega) (by omega))
  rw [e5]
  refine ⟨pk_in 8 64 (by omega) rfl, ?_⟩
  by_cases hM : (aM s).length = 0
  · have hM0 : aM s = [] := List.eq_nil_of_length_eq_zero hM
    have e0 : (nmA (aM s)).length = 0 := by rw [hM0]; rfl
    have := data I (FC.r _ _) (by rw [hM0]; exact p6)
    rw [e0] at this
    exact this
  · have e1 := nmA_len (aM s)
    rw [if_neg hM] at e1
    have r10 := rv_10 s hM
    refine cH_dasStep hS h hh hb 10 ((aM s).length + 2) (10 + (atA s).length) (by omega) (by omega) (by omega) (by rw [hv _ (by omega) (by omega)]; exact r10.2) ?_ rfl rfl
    refine cH_daName hS h hh h6 hb 10 (aM s) (by omega) p6 hnl (fun x hx => ⟨hlt x hx, by have := hw.nx x hx; omega⟩) (by rw [hv _ (by omega) (by omega)]; exact r10.1) (fun i hi => by rw [hv _ (by omega) (by omega)]; exact rv_nm s i hi) (fun I' hF' hN' => ⟨hS, ?_⟩) rfl (by congr 1; omega)
    have := data I' hF' hN'
    rw [e1] at this
    exact this
theorem cH_decode38 {F : fx_S → Prop} (hS : shC S) (h : Nat) (hh : isH h) (h6 : h + 5 < 76) {s : AS} (hw : wf s) (hlt : ∀ x ∈ aM s, isLt x = true) {b : Nat → Nat} (hb : I 83 = nF b) (hB : ∀ k, k < 64 → b k < 256) (hR : Rec b 0 s) (h2 : I h 2 = nI (aN s)) {v2 : Int32} (hF : ∀ I', FC [h, h + 1, h + 2, h + 3, h + 4, h + 5, 83] I I' → ShP I' h s → F (fx_wI S I')) (e2 : v2 = nI (aS s)) :
    fx_Go G (4, 65) mm_H_decode 38 [(0, fx_r G h), (1, fx_r G 83), (2, .int v2)] [] (fx_wI S I) (fx_qv F Q) := by
  have eh : ∀ g, fx_row I 83 g h = I h := fun g => fx_row_ne _ _ (by omega)
  refine bs_H_decode_38 hS.w h 83 _ hh isA_image ?_
  refine cV_wordAt hS 83 isA_image hb 4 (by omega) ⟨hS, ?_⟩ rfl
  refine cV_putWord hS 83 isA_image hb 30 (wrd b 4) (by omega) (wrd_lt2 hB 4 (by omega)) ⟨hS, ?_⟩ rfl rfl
  have hB4 := hB 4 (by omega)
  have hB5 := hB 5 (by omega)
  have hB6 := hB 6 (by omega)
  have hB7 := hB 7 (by omega)
  have e5 : wrd b 4 % 256 = b 4 ∧ wrd b 4 / 256 = b 5 := by
    unfold wrd
    rw [show b (4 + 1) = b 5 from rfl]
    omega
  rw [e5.1, e5.2]
  generalize hb1 : up (up b 30 (b 4)) (30 + 1) (b 5) = b1
  have e6 : b1 6 = b 6 ∧ b1 7 = b 7 := by rw [← hb1]; exact ⟨rfl, rfl⟩
  refine cV_wordAt hS 83 isA_image (row_at _ _ _) 6 (by omega) ⟨hS, ?_⟩ rfl
  have ew : wrd b1 6 = wrd b 6 := by unfold wrd; rw [e6.1, e6.2]
  rw [ew]
  refine cV_putWord hS 83 isA_image (row_at _ _ _) 62 (wrd b 6) (by omega) (wrd_lt2 hB 6 (by omega)) ⟨hS, ?_⟩ rfl rfl
  have e7 : wrd b 6 % 256 = b 6 ∧ wrd b 6 / 256 = b 7 := by
    unfold wrd
    rw [show b (6 + 1) = b 7 from rfl]
    omega
  rw [e7.1, e7.2, row_row]
  have hv : ∀ k, k < 64 → k < 4 ∨ 8 ≤ k → up (up b1 62 (b 6)) (62 + 1) (b 7) k = rv s k := by
    intro k k1 k2
    rw [← hR k k1, ← hb1]
    unfold byt up
    by_cases c63 : k = 63
    · subst c63; rfl
    · rw [if_neg c63]
      by_cases c62 : k = 62
      · subst c62; rfl
      · rw [if_neg c62]
        by_cases c31 : k = 31
        · subst c31; rfl
        · rw [if_neg c31]
          by_cases c30 : k = 30
          · subst c30; rfl
          · rw [if_neg c30, if_neg (by omega), if_neg (by omega), if_neg (by omega), show 64 * 0 + k = k by omega]
  generalize up (up b1 62 (b 6)) (62 + 1) (b 7) = b2 at hv ⊢
  simp only [wI_I, row_at]
  rw [show (1 : Int32).toNatClampNeg = 1 from rfl, nF_ap, hv 1 (by omega) (by omega)]
  refine ⟨pk_in 1 64 (by omega) rfl, ?_⟩
  have hs := hw.1
  refine cH_become hS h hh (aS s) (aP s) (aN s) (by omega) (by rw [eh]; exact h2) (fun I' hF' hP' => ⟨hS, ?_⟩) e2 rfl
  refine cH_decodeAttributes hS h hh h6 hw hlt (b := b2) (by rw [hF' 83 (by simp <;> omega)]; exact row_at _ _ _) (fun k k1 k2 => hv k k2 (by omega)) hP' (fun I'' hF'' hP'' => ⟨hS, hF I'' ?_ hP''⟩)
  exact ((FC.row [h, h + 1, h + 2, h + 3, h + 4, h + 5, 83] I 83 _ (by simp <;> omega)).tr (hF'.mono (fun a ha => by simp at ha ⊢ <;> omega))).tr (hF''.mono (fun a ha => by simp at ha ⊢ <;> omega))
theorem cH_decode {F : fx_S → Prop} (hS : shC S) (h : Nat) (hh : isH h) (h6 : h + 5 < 76) {s : AS} {b : Nat → Nat} (hb : I 83 = nF b) (hB : ∀ k, k < 64 → b k < 256) (h1 : inU b 0 = true → Rec b 0 s ∧ wf s ∧ ∀ x ∈ aM s, isLt x = true) (h2 : inU b 0 = false → s = frA (wrd b 2)) (hF : ∀ I', FC [h, h + 1, h + 2, h + 3, h + 4, h + 5, 83] I I' → ShP I' h s → F (fx_wI S I')) :
    fx_Go G (4, 65) mm_H_decode 0 [(0, fx_r G h), (1, fx_r G 83)] [] (fx_wI S I) (fx_qv F Q) := by
  have hw1 : FC [h, h + 1, h + 2, h + 3, h + 4, h + 5, 83] I (fx_w I h 2 (nI (wrd b 2))) := FC.w _ _ _ _ _ (by simp <;> omega)
  have hb' : fx_w I h 2 (nI (wrd b 2)) 83 = nF b := by rw [fw_ne (by omega)]; exact hb
  have hbe : inU b 0 = false → fx_Go G (1, 12) mm_H_become 0 [(0, fx_r G h), (1, .int 0), (2, .int 0)] [] (fx_wI S (fx_w I h 2 (nI (wrd b 2)))) (fx_qv (fun S7 => shC S7 ∧ fx_qv F Q (.inl none) S7) (fx_qv F Q)) := by
    intro hu
    refine cH_become hS h hh 0 0 (wrd b 2) (by omega) (fw_at _ _ _ _) (fun I' hF' hP' => ⟨hS, hF I' (hw1.tr (hF'.mono (fun a ha => by simp at ha ⊢ <;> omega))) ?_⟩) rfl rfl
    rw [h2 hu]
    exact hP'
  have h38 : inU b 0 = true → fx_Go G (4, 65) mm_H_decode 38 [(0, fx_r G h), (1, fx_r G 83), (2, .int (nI (b 0)))] [] (fx_wI S (fx_w I h 2 (nI (wrd b 2)))) (fx_qv F Q) := by
    intro hu
    obtain ⟨hR, hw, hlt⟩ := h1 hu
    have e0 : b 0 = aS s := hR.s
    have en : wrd b 2 = aN s := hR.w hw.2.2.1
    exact cH_decode38 hS h hh h6 hw hlt hb' hB hR (by rw [fw_at, en]) (fun I' hF' hP' => hF I' (hw1.tr hF') hP') (by rw [e0])
  have hu0 : inU b 0 = (!torn b 0 && (decide (b 0 = 1) || decide (b 0 = 2))) := rfl
  have hB0 := hB 0 (by omega)
  refine bs_H_decode_0 hS.w h 83 hh isA_image ?_
  refine ⟨pk_in 0 64 (by omega) rfl, ?_⟩
  refine cV_wordAt hS 83 isA_image hb 2 (by omega) ⟨hS, ?_⟩ rfl
  simp only [wI_I, wI_setI, forall_eq, hb]
  rw [show (0 : Int32).toNatClampNeg = 0 from rfl, nF_ap]
  refine cH_isTorn hS h hh hb' hB (fw_at _ _ _ _) ⟨hS, ?_⟩
  refine b1 (fun ht => ?_) (fun ht => ?_)
  · exact hbe (by rw [hu0, ht]; rfl)
  · refine pk_eq (b 0) 1 (fun q => ?_) (fun q => ?_) rfl rfl (by omega) (by omega)
    · exact h38 (by rw [hu0, ht, decide_eq_true q]; rfl)
    · refine pk_eq (b 0) 2 (fun q2 => ?_) (fun q2 => ?_) rfl rfl (by omega) (by omega)
      · exact h38 (by rw [hu0, ht, decide_eq_true q2, Bool.or_true]; rfl)
      · exact hbe (by rw [hu0, ht, decide_eq_false q, decide_eq_false q2]; rfl)
end CH3
