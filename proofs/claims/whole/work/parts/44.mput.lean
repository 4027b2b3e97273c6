/-! The reference's buffer. -/
def putL (b : Nat → Nat) (p : Nat) (l : List Nat) : Nat → Nat := fun k => if p ≤ k ∧ k < p + l.length ∧ k < 64 then gd l (k - p) else b k
theorem putL_nil (b : Nat → Nat) (p : Nat) : putL b p [] = b := by
  funext k
  unfold putL
  rw [if_neg]
  simp only [List.length_nil]
  omega
theorem putL_1 (b : Nat → Nat) (p x : Nat) (h : p < 64) : putL b p [x] = up b p x := by
  funext k
  unfold putL up
  by_cases hk : k = p
  · subst hk
    rw [if_pos (by simp; omega), if_pos rfl, Nat.sub_self]
    rfl
  · rw [if_neg (by simp; omega), if_neg hk]
theorem putL_far (b : Nat → Nat) (p : Nat) (l : List Nat) (h : 64 ≤ p) : putL b p l = b := by
  funext k
  unfold putL
  rw [if_neg (by omega)]
theorem putL_app (b : Nat → Nat) (p : Nat) (l m : List Nat) : putL (putL b p l) (p + l.length) m = putL b p (l ++ m) := by
  funext k
  unfold putL
  rw [List.length_append]
  by_cases h1 : p + l.length ≤ k ∧ k < p + l.length + m.length ∧ k < 64
  · rw [if_pos h1, if_pos (by omega), gd_r (by omega)]
    congr 1
    omega
  · rw [if_neg h1]
    by_cases h2 : p ≤ k ∧ k < p + l.length ∧ k < 64
    · rw [if_pos h2, if_pos (by omega), gd_l (by omega)]
    · rw [if_neg h2, if_neg (by omega)]
theorem drop_gd (l : List Nat) (k : Nat) (h : k < l.length) : l.drop k = gd l k :: l.drop (k + 1) := by
  rw [List.drop_eq_getElem_cons h]
  unfold gd
  rw [List.getD_eq_getElem?_getD, List.getElem?_eq_getElem h]
  rfl
theorem putL_step (b : Nat → Nat) (p : Nat) (l : List Nat) (k : Nat) (h : k < l.length) : putL (putL b p [gd l k]) (p + 1) (l.drop (k + 1)) = putL b p (l.drop k) := by
  have e := putL_app b p [gd l k] (l.drop (k + 1))
  rw [List.length_singleton] at e
  rw [e, drop_gd l k h]
  rfl
theorem putL_2 (b : Nat → Nat) (p x y : Nat) (l : List Nat) : putL (putL (putL b p [x]) (p + 1) [y]) (p + 1 + 1) l = putL b p (x :: y :: l) := by
  have e1 := putL_app b p [x] [y]
  have e2 := putL_app b p [x, y] l
  rw [List.length_singleton] at e1
  rw [e1, show ([x] : List Nat) ++ [y] = [x, y] from rfl, show p + 1 + 1 = p + [x, y].length from rfl, e2]
  rfl
def bg (st par k : Nat) : Nat := if k = 0 then st else if k = 1 then par else 0
section MPUT
variable {G : fx_G} {S : fx_S} {I : Nat → Nat → Int32} {Q : fx_R → fx_S → Prop} {F : fx_S → Prop} {D : Nat → Nat} {b : Nat → Nat} {p : Nat}
theorem cM_beginL (hS : shM S) {st par : Nat} : ∀ (n k : Nat) (b : Nat → Nat) (p : Nat) {v1 v2 v3 : Int32}, k + n = 64 → (∀ b', (∀ i, i < 64 → b' i = if k ≤ i ∨ i < 2 then bg st par i else b i) → F (fx_wI S (bufS I b' 10))) → v1 = nI st → v2 = nI par → v3 = nI k →
    fx_Go G (0, 0) mm_M_begin 2 [(0, fx_r G 85), (1, .int v1), (2, .int v2), (3, .int v3)] [] (fx_wI S (bufS I b p)) (fx_qv F Q) := by
  intro n
  induction n with
  | zero =>
    intro k b p v1 v2 v3 hk h e1 e2 e3
    subst e1 e2 e3
    refine bs_M_begin_2 hS.w _ _ _ ?_
    simp (disch := omega) only [nI_lit, nI_ofInt1, nI_ofInt4, nI_ofInt2, nI_ofInt3, mI_neg, wI_I, wI_setI, wI_setR, forall_eq, nI_add, pk_mul, pk_sub, pk_div, pk_rem, nI_clamp, nI_leI, nI_ltI, nI_eq, vin_iff, nar0, nar1, nF_ap, bF_ap, oF_ap, bI_0, bI_1, and255, bu_w, bu_p, bu_90, bu_9, row_w, row_at, nF_up, nI_ofIntm]
    refine ⟨fun _ => ⟨by omega, by omega, ?_⟩, fun q => absurd (by omega) q⟩
    refine h _ (fun i hi => ?_)
    unfold up bg
    by_cases h0 : i = 0
    · subst h0; simp
    · by_cases h1 : i = 1
      · subst h1; simp
      · rw [if_neg h1, if_neg h0, if_neg (by omega)]
  | succ n ih =>
    intro k b p v1 v2 v3 hk h e1 e2 e3
    subst e1 e2 e3
    refine bs_M_begin_2 hS.w _ _ _ ?_
    simp (disch := omega) only [nI_lit, nI_ofInt1, nI_ofInt4, nI_ofInt2, nI_ofInt3, mI_neg, wI_I, wI_setI, wI_setR, forall_eq, nI_add, pk_mul, pk_sub, pk_div, pk_rem, nI_clamp, nI_leI, nI_ltI, nI_eq, vin_iff, nar0, nar1, nF_ap, bF_ap, oF_ap, bI_0, bI_1, and255, bu_w, bu_p, bu_90, bu_9, row_w, row_at, nF_up, nI_ofIntm]
    refine ⟨fun q => absurd q (by omega), fun _ => ⟨by omega, ?_⟩⟩
    refine ih (k + 1) _ p (by omega) (fun b' hb' => h b' (fun i hi => ?_)) rfl rfl rfl
    rw [hb' i hi]
    by_cases hik : i = k
    · subst hik
      by_cases h2 : i < 2
      · rw [if_pos (Or.inr h2), if_pos (Or.inr h2)]
      · rw [if_neg (by omega), if_pos (by omega)]
        unfold up bg
        rw [if_pos rfl, if_neg (by omega), if_neg (by omega)]
    · unfold up
      rw [if_neg hik]
      by_cases h2 : k + 1 ≤ i ∨ i < 2
      · rw [if_pos h2, if_pos (by omega)]
      · rw [if_neg h2, if_neg (by omega)]
theorem cM_begin (hS : shM S) {v1 v2 : Int32} (st par : Nat) (h : ∀ b', (∀ i, i < 64 → b' i = bg st par i) → F (fx_wI S (bufS I b' 10))) (e1 : v1 = nI st) (e2 : v2 = nI par) :
    fx_Go G (0, 0) mm_M_begin 0 [(0, fx_r G 85), (1, .int v1), (2, .int v2)] [] (fx_wI S I) (fx_qv F Q) := by
  obtain ⟨b, hb⟩ := nF_surj (I 90)
  obtain ⟨p, hp⟩ := nI_surj (I 85 9)
  refine bs_M_begin_0 hS.w _ _ ?_
  rw [← bu_self hb hp]
  exact cM_beginL hS 64 0 b p rfl (fun b' hb' => h b' (fun i hi => by rw [hb' i hi, if_pos (by omega)])) e1 e2 rfl
theorem cM_put (hS : shM S) {v1 : Int32} (x : Nat) (hp : p < 1000) (h : F (fx_wI S (bufS I (putL b p [x]) (p + 1)))) (e1 : v1 = nI x) :
    fx_Go G (0, 0) mm_M_put 0 [(0, fx_r G 85), (1, .int v1)] [] (fx_wI S (bufS I b p)) (fx_qv F Q) := by
  subst e1
  refine bs_M_put_0 hS.w _ ?_
  simp (disch := omega) only [nI_lit, nI_ofInt1, nI_ofInt4, nI_ofInt2, nI_ofInt3, mI_neg, wI_I, wI_setI, wI_setR, forall_eq, nI_add, pk_mul, pk_sub, pk_div, pk_rem, nI_clamp, nI_leI, nI_ltI, nI_eq, vin_iff, nar0, nar1, nF_ap, bF_ap, oF_ap, bI_0, bI_1, and255, bu_w, bu_p, bu_90, bu_9, row_w, row_at, nF_up, nI_ofIntm]
  refine ⟨fun q => ?_, fun q => ⟨by omega, ?_⟩⟩
  · rw [putL_far _ _ _ q] at h
    exact h
  · rw [putL_1 _ _ _ (by omega)] at h
    exact h
theorem cM_putNameL (hS : shM S) (hD : I 86 = nF D) {s : AS} (r : Nat) (hR : Rec D r s) (hr : r < 12) (hw : wf s) : ∀ (n k : Nat) (b : Nat → Nat) (p : Nat) {v1 v2 v3 : Int32}, k + n = (aM s).length → p + n < 900 → F (fx_wI S (bufS I (putL b p ((aM s).drop k)) (p + n))) → v1 = nI r → v2 = nI (aM s).length → v3 = nI k →
    fx_Go G (3, 45) mm_M_putName 25 [(0, fx_r G 85), (1, .int v1), (2, .int v2), (3, .int v3)] [] (fx_wI S (bufS I b p)) (fx_qv F Q) := by
  have hl := hw.nl
  intro n
  induction n with
  | zero =>
    intro k b p v1 v2 v3 hk hp h e1 e2 e3
    subst e1 e2 e3
    refine bs_M_putName_25 hS.w _ _ _ ?_
    simp (disch := omega) only [nI_lit, nI_ofInt1, nI_ofInt4, nI_ofInt2, nI_ofInt3, mI_neg, wI_I, wI_setI, wI_setR, forall_eq, nI_add, pk_mul, pk_sub, pk_div, pk_rem, nI_clamp, nI_leI, nI_ltI, nI_eq, vin_iff, nar0, nar1, nF_ap, bF_ap, oF_ap, bI_0, bI_1, and255, bu_w, bu_p, bu_90, bu_9, row_w, row_at, nF_up, nI_ofIntm]
    refine ⟨fun _ => ?_, fun q => absurd (by omega) q⟩
    rw [List.drop_of_length_le (by omega), putL_nil] at h
    exact h
  | succ n ih =>
    intro k b p v1 v2 v3 hk hp h e1 e2 e3
    subst e1 e2 e3
    refine bs_M_putName_25 hS.w _ _ _ ?_
    simp (disch := omega) only [nI_lit, nI_ofInt1, nI_ofInt4, nI_ofInt2, nI_ofInt3, mI_neg, wI_I, wI_setI, wI_setR, forall_eq, nI_add, pk_mul, pk_sub, pk_div, pk_rem, nI_clamp, nI_leI, nI_ltI, nI_eq, vin_iff, nar0, nar1, nF_ap, bF_ap, oF_ap, bI_0, bI_1, and255, bu_w, bu_p, bu_90, bu_9, row_w, row_at, nF_up, nI_ofIntm]
    refine ⟨fun q => absurd q (by omega), fun _ => ?_⟩
    refine cM_byteR hS (I := bufS I b p) hD r (12 + k) hR hr (by omega) ⟨hS, ?_⟩ rfl rfl
    rw [rv_nm s k (by omega)]
    refine cM_put hS (gd (aM s) k) (by omega) ⟨hS, ?_⟩ rfl
    refine ih (k + 1) _ (p + 1) (by omega) (by omega) ?_ rfl rfl rfl
    have e := putL_app b p [gd (aM s) k] ((aM s).drop (k + 1))
    rw [List.length_singleton] at e
    rw [e, show [gd (aM s) k] ++ (aM s).drop (k + 1) = (aM s).drop k from ?_, show p + 1 + n = p + (n + 1) by omega]
    · exact h
    · rw [List.drop_eq_getElem_cons (show k < (aM s).length by omega)]
      unfold gd
      rw [List.getD_eq_getElem?_getD, List.getElem?_eq_getElem (show k < (aM s).length by omega)]
      rfl
theorem cM_putName (hS : shM S) (hD : I 86 = nF D) {s : AS} {v1 : Int32} (r : Nat) (hR : Rec D r s) (hr : r < 12) (hw : wf s) (hp : p < 100) (h : F (fx_wI S (bufS I (putL b p (nmA (aM s))) (p + (nmA (aM s)).length)))) (e1 : v1 = nI r) :
    fx_Go G (3, 45) mm_M_putName 0 [(0, fx_r G 85), (1, .int v1)] [] (fx_wI S (bufS I b p)) (fx_qv F Q) := by
  subst e1
  have hl := hw.nl
  have hN := nmA_len (aM s)
  refine bs_M_putName_0 hS.w _ ?_
  refine cM_nameLength hS (I := bufS I b p) hD r hR hr hw ⟨hS, ?_⟩ rfl
  simp (disch := omega) only [nI_lit, nI_ofInt1, nI_ofInt4, nI_ofInt2, nI_ofInt3, mI_neg, wI_I, wI_setI, wI_setR, forall_eq, nI_add, pk_mul, pk_sub, pk_div, pk_rem, nI_clamp, nI_leI, nI_ltI, nI_eq, vin_iff, nar0, nar1, nF_ap, bF_ap, oF_ap, bI_0, bI_1, and255, bu_w, bu_p, bu_90, bu_9, row_w, row_at, nF_up, nI_ofIntm]
  refine ⟨fun q => ?_, fun q => ?_⟩
  · refine cM_put hS 1 (by omega) ⟨hS, ?_⟩ rfl
    refine cM_put hS ((aM s).length + 2) (by omega) ⟨hS, ?_⟩ rfl
    refine cM_putNameL hS hD r hR hr hw (aM s).length 0 _ _ (by omega) (by omega) ?_ rfl rfl rfl
    have e1 := putL_app b p [1] [(aM s).length + 2]
    have e2 := putL_app b p [1, (aM s).length + 2] (aM s)
    rw [List.length_singleton] at e1
    rw [show [1, (aM s).length + 2].length = 2 from rfl] at e2
    rw [e1, List.drop_zero, show ([1] : List Nat) ++ [(aM s).length + 2] = [1, (aM s).length + 2] from rfl, show p + 1 + 1 = p + 2 by omega, e2]
    rw [if_neg q] at hN
    rw [hN] at h
    unfold nmA at h
    rw [if_neg q] at h
    rw [show p + 2 + (aM s).length = p + ((aM s).length + 2) by omega]
    exact h
  · unfold nmA at h
    rw [if_pos q, putL_nil] at h
    exact h
theorem cM_putDraftL (hS : shM S) {dl : List Nat} (ht : I 85 6 = nI dl.length) (hd : rowL I 89 dl) (hdl : dl.length ≤ 8) : ∀ (n k : Nat) (b : Nat → Nat) (p : Nat) {v1 : Int32}, k + n = dl.length → p + n < 900 → F (fx_wI S (bufS I (putL b p (dl.drop k)) (p + n))) → v1 = nI k →
    fx_Go G (1, 13) mm_M_putDraft 17 [(0, fx_r G 85), (1, .int v1)] [] (fx_wI S (bufS I b p)) (fx_qv F Q) := by
  intro n
  induction n with
  | zero =>
    intro k b p v1 hk hp h e1
    subst e1
    refine bs_M_putDraft_17 hS.w _ ?_
    simp only [wI_I, show bufS I b p 85 6 = I 85 6 from rfl, ht]
    simp (disch := omega) only [nI_lit, nI_ofInt1, nI_ofInt4, nI_ofInt2, nI_ofInt3, mI_neg, wI_I, wI_setI, wI_setR, forall_eq, nI_add, pk_mul, pk_sub, pk_div, pk_rem, nI_clamp, nI_leI, nI_ltI, nI_eq, vin_iff, nar0, nar1, nF_ap, bF_ap, oF_ap, bI_0, bI_1, and255, bu_w, bu_p, bu_90, bu_9, row_w, row_at, nF_up, nI_ofIntm]
    refine ⟨fun _ => ?_, fun q => absurd (by omega) q⟩
    rw [List.drop_of_length_le (by omega), putL_nil] at h
    exact h
  | succ n ih =>
    intro k b p v1 hk hp h e1
    subst e1
    refine bs_M_putDraft_17 hS.w _ ?_
    simp only [wI_I, show bufS I b p 85 6 = I 85 6 from rfl, ht]
    simp (disch := omega) only [nI_lit, nI_ofInt1, nI_ofInt4, nI_ofInt2, nI_ofInt3, mI_neg, wI_I, wI_setI, wI_setR, forall_eq, nI_add, pk_mul, pk_sub, pk_div, pk_rem, nI_clamp, nI_leI, nI_ltI, nI_eq, vin_iff, nar0, nar1, nF_ap, bF_ap, oF_ap, bI_0, bI_1, and255, bu_w, bu_p, bu_90, bu_9, row_w, row_at, nF_up, nI_ofIntm]
    refine ⟨fun q => absurd q (by omega), fun _ => ⟨by omega, ?_⟩⟩
    rw [show bufS I b p 89 k = nI (gd dl k) from hd k (by omega)]
    refine cM_put hS (gd dl k) (by omega) ⟨hS, ?_⟩ rfl
    refine ih (k + 1) _ (p + 1) (by omega) (by omega) ?_ rfl
    rw [putL_step b p dl k (by omega), show p + 1 + n = p + (n + 1) by omega]
    exact h
theorem cM_putDraft (hS : shM S) {dl : List Nat} (ht : I 85 6 = nI dl.length) (hd : rowL I 89 dl) (hdl : dl.length ≤ 8) (h0 : dl.length ≠ 0) (hp : p < 100) (h : F (fx_wI S (bufS I (putL b p (nmA dl)) (p + (nmA dl).length)))) :
    fx_Go G (1, 13) mm_M_putDraft 0 [(0, fx_r G 85)] [] (fx_wI S (bufS I b p)) (fx_qv F Q) := by
  have hN := nmA_len dl
  refine bs_M_putDraft_0 hS.w ?_
  refine cM_put hS 1 (by omega) ⟨hS, ?_⟩ rfl
  simp only [wI_I, show bufS I (putL b p [1]) (p + 1) 85 6 = I 85 6 from rfl, ht]
  refine cM_put hS (dl.length + 2) (by omega) ⟨hS, ?_⟩ (by first | rfl | (simp (disch := omega) only [nI_lit, nI_ofInt1, nI_ofInt4, nI_ofInt2, nI_ofInt3, mI_neg, wI_I, wI_setI, wI_setR, forall_eq, nI_add, pk_mul, pk_sub, pk_div, pk_rem, nI_clamp, nI_leI, nI_ltI, nI_eq, vin_iff, nar0, nar1, nF_ap, bF_ap, oF_ap, bI_0, bI_1, and255, bu_w, bu_p, bu_90, bu_9, row_w, row_at, nF_up, nI_ofIntm] <;> first | done | omega | (congr 1; omega)))
  refine cM_putDraftL hS ht hd hdl dl.length 0 _ _ (by omega) (by omega) ?_ rfl
  rw [putL_2, List.drop_zero]
  rw [if_neg h0] at hN
  rw [hN] at h
  unfold nmA at h
  rw [if_neg h0] at h
  rw [show p + 1 + 1 + dl.length = p + (dl.length + 2) by omega]
  exact h
theorem cM_putListL (hS : shM S) {ml : List Nat} (ht : I 85 14 = nI ml.length) (hd : rowL I 94 ml) (hml : ml.length ≤ 12) : ∀ (n k : Nat) (b : Nat → Nat) (p : Nat) {v1 : Int32}, k + n = ml.length → p + n < 900 → F (fx_wI S (bufS I (putL b p (ml.drop k)) (p + n))) → v1 = nI k →
    fx_Go G (1, 13) mm_M_putList 17 [(0, fx_r G 85), (1, .int v1)] [] (fx_wI S (bufS I b p)) (fx_qv F Q) := by
  intro n
  induction n with
  | zero =>
    intro k b p v1 hk hp h e1
    subst e1
    refine bs_M_putList_17 hS.w _ ?_
    simp only [wI_I, show bufS I b p 85 14 = I 85 14 from rfl, ht]
    simp (disch := omega) only [nI_lit, nI_ofInt1, nI_ofInt4, nI_ofInt2, nI_ofInt3, mI_neg, wI_I, wI_setI, wI_setR, forall_eq, nI_add, pk_mul, pk_sub, pk_div, pk_rem, nI_clamp, nI_leI, nI_ltI, nI_eq, vin_iff, nar0, nar1, nF_ap, bF_ap, oF_ap, bI_0, bI_1, and255, bu_w, bu_p, bu_90, bu_9, row_w, row_at, nF_up, nI_ofIntm]
    refine ⟨fun _ => ?_, fun q => absurd (by omega) q⟩
    rw [List.drop_of_length_le (by omega), putL_nil] at h
    exact h
  | succ n ih =>
    intro k b p v1 hk hp h e1
    subst e1
    refine bs_M_putList_17 hS.w _ ?_
    simp only [wI_I, show bufS I b p 85 14 = I 85 14 from rfl, ht]
    simp (disch := omega) only [nI_lit, nI_ofInt1, nI_ofInt4, nI_ofInt2, nI_ofInt3, mI_neg, wI_I, wI_setI, wI_setR, forall_eq, nI_add, pk_mul, pk_sub, pk_div, pk_rem, nI_clamp, nI_leI, nI_ltI, nI_eq, vin_iff, nar0, nar1, nF_ap, bF_ap, oF_ap, bI_0, bI_1, and255, bu_w, bu_p, bu_90, bu_9, row_w, row_at, nF_up, nI_ofIntm]
    refine ⟨fun q => absurd q (by omega), fun _ => ⟨by omega, ?_⟩⟩
    rw [show bufS I b p 94 k = nI (gd ml k) from hd k (by omega)]
    refine cM_put hS (gd ml k) (by omega) ⟨hS, ?_⟩ rfl
    refine ih (k + 1) _ (p + 1) (by omega) (by omega) ?_ rfl
    rw [putL_step b p ml k (by omega), show p + 1 + n = p + (n + 1) by omega]
    exact h
theorem cM_putList (hS : shM S) {ml : List Nat} (ht : I 85 14 = nI ml.length) (hd : rowL I 94 ml) (hml : ml.length ≤ 12) (hp : p < 100) (h : F (fx_wI S (bufS I (putL b p (4 :: (ml.length + 2) :: ml)) (p + (ml.length + 2))))) :
    fx_Go G (1, 13) mm_M_putList 0 [(0, fx_r G 85)] [] (fx_wI S (bufS I b p)) (fx_qv F Q) := by
  refine bs_M_putList_0 hS.w ?_
  refine cM_put hS 4 (by omega) ⟨hS, ?_⟩ rfl
  simp only [wI_I, show bufS I (putL b p [4]) (p + 1) 85 14 = I 85 14 from rfl, ht]
  refine cM_put hS (ml.length + 2) (by omega) ⟨hS, ?_⟩ (by first | rfl | (simp (disch := omega) only [nI_lit, nI_ofInt1, nI_ofInt4, nI_ofInt2, nI_ofInt3, mI_neg, wI_I, wI_setI, wI_setR, forall_eq, nI_add, pk_mul, pk_sub, pk_div, pk_rem, nI_clamp, nI_leI, nI_ltI, nI_eq, vin_iff, nar0, nar1, nF_ap, bF_ap, oF_ap, bI_0, bI_1, and255, bu_w, bu_p, bu_90, bu_9, row_w, row_at, nF_up, nI_ofIntm] <;> first | done | omega | (congr 1; omega)))
  refine cM_putListL hS ht hd hml ml.length 0 _ _ (by omega) (by omega) ?_ rfl
  rw [putL_2, List.drop_zero, show p + 1 + 1 + ml.length = p + (ml.length + 2) by omega]
  exact h
theorem cM_putInsideL (hS : shM S) {bl : List Nat} (hd : rowL I 93 bl) (hbl : bl.length ≤ 64) : ∀ (n k : Nat) (b : Nat → Nat) (p : Nat) {v1 v2 : Int32}, k + n = bl.length → p + n < 900 → F (fx_wI S (bufS I (putL b p (bl.drop k)) (p + n))) → v1 = nI bl.length → v2 = nI k →
    fx_Go G (1, 13) mm_M_putInside 14 [(0, fx_r G 85), (1, .int v1), (2, .int v2)] [] (fx_wI S (bufS I b p)) (fx_qv F Q) := by
  intro n
  induction n with
  | zero =>
    intro k b p v1 v2 hk hp h e1 e2
    subst e1 e2
    refine bs_M_putInside_14 hS.w _ _ ?_
    simp (disch := omega) only [nI_lit, nI_ofInt1, nI_ofInt4, nI_ofInt2, nI_ofInt3, mI_neg, wI_I, wI_setI, wI_setR, forall_eq, nI_add, pk_mul, pk_sub, pk_div, pk_rem, nI_clamp, nI_leI, nI_ltI, nI_eq, vin_iff, nar0, nar1, nF_ap, bF_ap, oF_ap, bI_0, bI_1, and255, bu_w, bu_p, bu_90, bu_9, row_w, row_at, nF_up, nI_ofIntm]
    refine ⟨fun _ => ?_, fun q => absurd (by omega) q⟩
    rw [List.drop_of_length_le (by omega), putL_nil] at h
    exact h
  | succ n ih =>
    intro k b p v1 v2 hk hp h e1 e2
    subst e1 e2
    refine bs_M_putInside_14 hS.w _ _ ?_
    simp (disch := omega) only [nI_lit, nI_ofInt1, nI_ofInt4, nI_ofInt2, nI_ofInt3, mI_neg, wI_I, wI_setI, wI_setR, forall_eq, nI_add, pk_mul, pk_sub, pk_div, pk_rem, nI_clamp, nI_leI, nI_ltI, nI_eq, vin_iff, nar0, nar1, nF_ap, bF_ap, oF_ap, bI_0, bI_1, and255, bu_w, bu_p, bu_90, bu_9, row_w, row_at, nF_up, nI_ofIntm]
    refine ⟨fun q => absurd q (by omega), fun _ => ⟨by omega, ?_⟩⟩
    rw [show bufS I b p 93 k = nI (gd bl k) from hd k (by omega)]
    refine cM_put hS (gd bl k) (by omega) ⟨hS, ?_⟩ rfl
    refine ih (k + 1) _ (p + 1) (by omega) (by omega) ?_ rfl rfl
    rw [putL_step b p bl k (by omega), show p + 1 + n = p + (n + 1) by omega]
    exact h
theorem cM_putInside (hS : shM S) {bl : List Nat} {v1 : Int32} (hd : rowL I 93 bl) (hbl : bl.length ≤ 64) (hp : p < 100) (h : F (fx_wI S (bufS I (putL b p (2 :: (bl.length + 2) :: bl)) (p + (bl.length + 2))))) (e1 : v1 = nI bl.length) :
    fx_Go G (1, 13) mm_M_putInside 0 [(0, fx_r G 85), (1, .int v1)] [] (fx_wI S (bufS I b p)) (fx_qv F Q) := by
  subst e1
  refine bs_M_putInside_0 hS.w _ ?_
  refine cM_put hS 2 (by omega) ⟨hS, ?_⟩ rfl
  refine cM_put hS (bl.length + 2) (by omega) ⟨hS, ?_⟩ (by first | rfl | (simp (disch := omega) only [nI_lit, nI_ofInt1, nI_ofInt4, nI_ofInt2, nI_ofInt3, mI_neg, wI_I, wI_setI, wI_setR, forall_eq, nI_add, pk_mul, pk_sub, pk_div, pk_rem, nI_clamp, nI_leI, nI_ltI, nI_eq, vin_iff, nar0, nar1, nF_ap, bF_ap, oF_ap, bI_0, bI_1, and255, bu_w, bu_p, bu_90, bu_9, row_w, row_at, nF_up, nI_ofIntm] <;> first | done | omega | (congr 1; omega)))
  refine cM_putInsideL hS hd hbl bl.length 0 _ _ (by omega) (by omega) ?_ rfl rfl
  rw [putL_2, List.drop_zero, show p + 1 + 1 + bl.length = p + (bl.length + 2) by omega]
  exact h
end MPUT
