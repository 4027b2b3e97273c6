/-! The reference's lists. -/
theorem gd_snoc (l : List Nat) (x k : Nat) : gd (l ++ [x]) k = if k = l.length then x else gd l k := by
  by_cases h : k < l.length
  · rw [gd_l h, if_neg (by omega)]
  · rw [gd_r (by omega)]
    by_cases h2 : k = l.length
    · rw [if_pos h2, h2, Nat.sub_self]; rfl
    · rw [if_neg h2, gd_out (l := l) (by omega), gd_out (by simp; omega)]
theorem rowL_snoc {I : Nat → Nat → Int32} {a : Nat} {l : List Nat} (h : rowL I a l) (x : Nat) : rowL (fx_w I a l.length (nI x)) a (l ++ [x]) := by
  intro k hk
  rw [List.length_append, List.length_singleton] at hk
  rw [gd_snoc]
  by_cases h2 : k = l.length
  · subst h2; rw [if_pos rfl, fw_at]
  · rw [if_neg h2, fw_nj h2]
    exact h k (by omega)
theorem rowL.cg {I I' : Nat → Nat → Int32} {a : Nat} {l : List Nat} (h : rowL I a l) (e : I' a = I a) : rowL I' a l := by
  intro k hk
  rw [e]
  exact h k hk
def kp (v : Int32) (e : Nat) : Bool := !decide (nI e = v)
/-- the sheets of all records in use -/
def Recs (D : Nat → Nat) (U : Nat → Bool) (f : Nat → AS) : Prop := ∀ e, e < 12 → U e = true → Rec D e (f e) ∧ wf (f e)
def gtN (f : Nat → AS) (r e : Nat) : Bool := !decide (ncmp 8 (aM (f e)) (aM (f r)) 0 ≤ nI 0)
/-- where a record comes among the first n of a list -/
def ipos (g : Nat → Bool) (l : List Nat) : Nat → Nat
  | 0 => 0
  | n + 1 => if g (gd l n) = true then ipos g l n else n + 1
theorem ipos_le (g : Nat → Bool) (l : List Nat) : ∀ n, ipos g l n ≤ n
  | 0 => Nat.le_refl _
  | n + 1 => by
    unfold ipos
    have := ipos_le g l n
    split <;> omega
def insA (l : List Nat) (k r : Nat) : List Nat := l.take k ++ r :: l.drop k
theorem insA_len (l : List Nat) (k r : Nat) (h : k ≤ l.length) : (insA l k r).length = l.length + 1 := by
  unfold insA
  simp
  omega
theorem gd_take (l : List Nat) (k i : Nat) (h : i < k) : gd (l.take k) i = gd l i := by
  unfold gd
  rw [List.getD_eq_getElem?_getD, List.getD_eq_getElem?_getD, List.getElem?_take, if_pos h]
theorem gd_drop (l : List Nat) (k i : Nat) : gd (l.drop k) i = gd l (k + i) := by
  unfold gd
  rw [List.getD_eq_getElem?_getD, List.getD_eq_getElem?_getD, List.getElem?_drop]
theorem gd_insA (l : List Nat) (k r i : Nat) (h : k ≤ l.length) : gd (insA l k r) i = if i < k then gd l i else if i = k then r else gd l (i - 1) := by
  unfold insA
  have hl : (l.take k).length = k := by rw [List.length_take]; omega
  by_cases h1 : i < k
  · rw [if_pos h1, gd_l (by omega), gd_take _ _ _ h1]
  · rw [if_neg h1, gd_r (by omega), hl]
    by_cases h2 : i = k
    · rw [if_pos h2, h2, Nat.sub_self]; rfl
    · rw [if_neg h2, show i - k = (i - 1 - k) + 1 by omega, gd_s, gd_drop]
      congr 1
      omega
section MLIST
variable {G : fx_G} {S : fx_S} {I : Nat → Nat → Int32} {Q : fx_R → fx_S → Prop} {D : Nat → Nat}
theorem cM_takeListL {F : fx_S → Prop} (hS : shM S) {s : AS} (d : Nat) (hR : Rec D d s) (hd : d < 12) (hw : wf s) (hk : aK s = 4) (v2 : Int32) : ∀ (n k : Nat) (I : Nat → Nat → Int32) (acc : List Nat) {v1 v3 : Int32}, I 86 = nF D → k + n = (aH s).length → I 85 14 = nI acc.length → rowL I 94 acc → acc.length + n ≤ 12 →
    (∀ I', Fr [94] [14] I I' → I' 85 14 = nI (acc ++ ((aH s).drop k).filter (kp v2)).length → rowL I' 94 (acc ++ ((aH s).drop k).filter (kp v2)) → F (fx_wI S I')) → v1 = nI d → v3 = nI k →
    fx_Go G (3, 50) mm_M_takeList 7 [(0, fx_r G 85), (1, .int v1), (2, .int v2), (3, .int v3)] [] (fx_wI S I) (fx_qv F Q) := by
  have hl := hw.hl (by omega)
  intro n
  induction n with
  | zero =>
    intro k I acc v1 v3 hD hkn hm hrow hle h e1 e3
    subst e1 e3
    refine bs_M_takeList_7 hS.w _ _ _ ?_
    refine cM_listLength hS hD d hR hd hw hk ⟨hS, ?_⟩ rfl
    simp (disch := omega) only [nI_lit, nI_ofInt1, nI_ofInt4, nI_ofInt2, nI_ofInt3, mI_neg, wI_I, wI_setI, wI_setR, forall_eq, nI_add, pk_mul, pk_sub, pk_div, pk_rem, nI_clamp, nI_leI, nI_ltI, nI_eq, vin_iff, nar0, nar1, nF_ap, bF_ap, oF_ap, bI_0, bI_1, and255, bu_w, bu_p, bu_90, bu_9, row_w, row_at, nF_up, nI_ofIntm]
    refine ⟨fun _ => ?_, fun q => absurd (by omega) q⟩
    rw [List.drop_of_length_le (by omega), List.filter_nil, List.append_nil] at h
    exact h I (Fr.rfl' _ _ _) hm hrow
  | succ n ih =>
    intro k I acc v1 v3 hD hkn hm hrow hle h e1 e3
    subst e1 e3
    refine bs_M_takeList_7 hS.w _ _ _ ?_
    refine cM_listLength hS hD d hR hd hw hk ⟨hS, ?_⟩ rfl
    simp (disch := omega) only [nI_lit, nI_ofInt1, nI_ofInt4, nI_ofInt2, nI_ofInt3, mI_neg, wI_I, wI_setI, wI_setR, forall_eq, nI_add, pk_mul, pk_sub, pk_div, pk_rem, nI_clamp, nI_leI, nI_ltI, nI_eq, vin_iff, nar0, nar1, nF_ap, bF_ap, oF_ap, bI_0, bI_1, and255, bu_w, bu_p, bu_90, bu_9, row_w, row_at, nF_up, nI_ofIntm]
    refine ⟨fun q => absurd q (by omega), fun _ => ?_⟩
    refine cM_entry hS hD d k hR hd hw hk (by omega) ⟨hS, ?_⟩ rfl rfl
    rw [drop_gd _ _ (show k < (aH s).length by omega)] at h
    refine ⟨fun q => ?_, fun q => ?_⟩
    · refine cM_entry hS hD d k hR hd hw hk (by omega) ⟨hS, ?_⟩ rfl rfl
      simp only [wI_I, hm]
      simp (disch := omega) only [nI_lit, nI_ofInt1, nI_ofInt4, nI_ofInt2, nI_ofInt3, mI_neg, wI_I, wI_setI, wI_setR, forall_eq, nI_add, pk_mul, pk_sub, pk_div, pk_rem, nI_clamp, nI_leI, nI_ltI, nI_eq, vin_iff, nar0, nar1, nF_ap, bF_ap, oF_ap, bI_0, bI_1, and255, bu_w, bu_p, bu_90, bu_9, row_w, row_at, nF_up, nI_ofIntm]
      refine ⟨by omega, ?_⟩
      rw [show fx_w I 94 acc.length (nI (gd (aH s) k)) 85 14 = I 85 14 from rfl, hm]
      simp (disch := omega) only [nI_lit, nI_ofInt1, nI_ofInt4, nI_ofInt2, nI_ofInt3, mI_neg, wI_I, wI_setI, wI_setR, forall_eq, nI_add, pk_mul, pk_sub, pk_div, pk_rem, nI_clamp, nI_leI, nI_ltI, nI_eq, vin_iff, nar0, nar1, nF_ap, bF_ap, oF_ap, bI_0, bI_1, and255, bu_w, bu_p, bu_90, bu_9, row_w, row_at, nF_up, nI_ofIntm]
      have hkp : kp v2 (gd (aH s) k) = true := by unfold kp; simp [q]
      rw [List.filter_cons_of_pos hkp] at h
      refine ih (k + 1) _ (acc ++ [gd (aH s) k]) ?_ (by omega) ?_ ?_ ?_ (fun I' hF hm' hr' => ?_) rfl rfl
      · exact hD
      · rw [List.length_append]; rfl
      · exact (rowL_snoc hrow _).cg rfl
      · rw [List.length_append, List.length_singleton]; omega
      · rw [List.append_assoc] at hm' hr'
        exact h I' (((Fr.w [94] [14] I 94 _ _ (by decide) (by decide)).tr (Fr.w5 [94] [14] _ 14 _ (by decide)) (fun _ h => ⟨h, h⟩) (fun _ h => ⟨h, h⟩)).tr hF (fun _ h => ⟨h, h⟩) (fun _ h => ⟨h, h⟩)) hm' hr'
    · have hkp : ¬ kp v2 (gd (aH s) k) = true := by unfold kp; simp [q]
      rw [List.filter_cons_of_neg hkp] at h
      exact ih (k + 1) I acc hD (by omega) hm hrow (by omega) h rfl rfl
theorem cM_takeList {F : fx_S → Prop} (hS : shM S) (hD : I 86 = nF D) {s : AS} {v1 : Int32} (d : Nat) (hR : Rec D d s) (hd : d < 12) (hw : wf s) (hk : aK s = 4) (h12 : (aH s).length ≤ 12) (v2 : Int32)
    (h : ∀ I', Fr [94] [14] I I' → I' 85 14 = nI ((aH s).filter (kp v2)).length → rowL I' 94 ((aH s).filter (kp v2)) → F (fx_wI S I')) (e1 : v1 = nI d) :
    fx_Go G (3, 50) mm_M_takeList 0 [(0, fx_r G 85), (1, .int v1), (2, .int v2)] [] (fx_wI S I) (fx_qv F Q) := by
  refine bs_M_takeList_0 hS.w _ _ ?_
  simp (disch := omega) only [nI_lit, nI_ofInt1, nI_ofInt4, nI_ofInt2, nI_ofInt3, mI_neg, wI_I, wI_setI, wI_setR, forall_eq, nI_add, pk_mul, pk_sub, pk_div, pk_rem, nI_clamp, nI_leI, nI_ltI, nI_eq, vin_iff, nar0, nar1, nF_ap, bF_ap, oF_ap, bI_0, bI_1, and255, bu_w, bu_p, bu_90, bu_9, row_w, row_at, nF_up, nI_ofIntm]
  refine cM_takeListL hS d hR hd hw hk v2 (aH s).length 0 _ [] ?_ (by omega) rfl (fun k hk => absurd hk (Nat.not_lt_zero _)) (by simp; omega) (fun I' hF hm hr => ?_) e1 rfl
  · exact hD
  · rw [List.drop_zero, List.nil_append] at hm hr
    exact h I' ((Fr.w5 [94] [14] I 14 _ (by decide)).tr hF (fun _ h => ⟨h, h⟩) (fun _ h => ⟨h, h⟩)) hm hr
theorem cM_joinL {F : fx_S → Prop} (hS : shM S) {U : Nat → Bool} {f : Nat → AS} (hA : Recs D U f) (r : Nat) (hr : r < 12) (hu : U r = true) (ml : List Nat) (hml : ml.length < 12) (hx : ∀ e ∈ ml, e < 12 ∧ U e = true) :
    ∀ (k : Nat) (I : Nat → Nat → Int32) {v1 v2 : Int32}, I 86 = nF D → k ≤ ml.length → I 85 14 = nI ml.length → (∀ j, j < k → I 94 j = nI (gd ml j)) → (∀ j, k < j → j ≤ ml.length → I 94 j = nI (gd ml (j - 1))) →
    (∀ I', Fr [94] [14] I I' → I' 85 14 = nI (ml.length + 1) → rowL I' 94 (insA ml (ipos (gtN f r) ml k) r) → F (fx_wI S I')) → v1 = nI r → v2 = nI k →
    fx_Go G (5, 76) mm_M_join 5 [(0, fx_r G 85), (1, .int v1), (2, .int v2)] [] (fx_wI S I) (fx_qv F Q) := by
  intro k
  have fin : ∀ (k : Nat) (I : Nat → Nat → Int32), k ≤ ml.length → I 85 14 = nI ml.length → (∀ j, j < k → I 94 j = nI (gd ml j)) → (∀ j, k < j → j ≤ ml.length → I 94 j = nI (gd ml (j - 1))) →
      (∀ I', Fr [94] [14] I I' → I' 85 14 = nI (ml.length + 1) → rowL I' 94 (insA ml k r) → F (fx_wI S I')) → F (fx_wI S (fx_w (fx_w I 94 k (nI r)) 85 14 (nI (ml.length + 1)))) := by
    intro k I hk hm h1 h2 h
    refine h _ ((Fr.w [94] [14] I 94 _ _ (by decide) (by decide)).tr (Fr.w5 [94] [14] _ 14 _ (by decide)) (fun _ h => ⟨h, h⟩) (fun _ h => ⟨h, h⟩)) rfl ?_
    intro j hj
    rw [insA_len _ _ _ hk] at hj
    rw [gd_insA _ _ _ _ hk]
    show fx_w I 94 k (nI r) 94 j = _
    by_cases c1 : j < k
    · rw [if_pos c1, fw_nj (by omega)]; exact h1 j c1
    · by_cases c2 : j = k
      · subst c2; rw [if_neg c1, if_pos rfl, fw_at]
      · rw [if_neg c1, if_neg c2, fw_nj c2]; exact h2 j (by omega) (by omega)
  induction k with
  | zero =>
    intro I v1 v2 hD hk hm h1 h2 h e1 e2
    subst e1 e2
    have := fin 0 I hk hm h1 h2 h
    refine bs_M_join_5 hS.w _ _ ?_
    simp (disch := omega) only [nI_lit, nI_ofInt1, nI_ofInt4, nI_ofInt2, nI_ofInt3, mI_neg, wI_I, wI_setI, wI_setR, forall_eq, nI_add, pk_mul, pk_sub, pk_div, pk_rem, nI_clamp, nI_leI, nI_ltI, nI_eq, vin_iff, nar0, nar1, nF_ap, bF_ap, oF_ap, bI_0, bI_1, and255, bu_w, bu_p, bu_90, bu_9, row_w, row_at, nF_up, nI_ofIntm]
    refine ⟨fun _ => ⟨by omega, ?_⟩, fun q => absurd (by omega) q⟩
    rw [show fx_w I 94 0 (nI r) 85 14 = I 85 14 from rfl, hm]
    simp (disch := omega) only [nI_lit, nI_ofInt1, nI_ofInt4, nI_ofInt2, nI_ofInt3, mI_neg, wI_I, wI_setI, wI_setR, forall_eq, nI_add, pk_mul, pk_sub, pk_div, pk_rem, nI_clamp, nI_leI, nI_ltI, nI_eq, vin_iff, nar0, nar1, nF_ap, bF_ap, oF_ap, bI_0, bI_1, and255, bu_w, bu_p, bu_90, bu_9, row_w, row_at, nF_up, nI_ofIntm]
    exact this
  | succ k ih =>
    intro I v1 v2 hD hk hm h1 h2 h e1 e2
    subst e1 e2
    obtain ⟨he, hue⟩ := hx (gd ml k) (gd_mem (by omega))
    refine bs_M_join_5 hS.w _ _ ?_
    simp (disch := omega) only [nI_lit, nI_ofInt1, nI_ofInt4, nI_ofInt2, nI_ofInt3, mI_neg, wI_I, wI_setI, wI_setR, forall_eq, nI_add, pk_mul, pk_sub, pk_div, pk_rem, nI_clamp, nI_leI, nI_ltI, nI_eq, vin_iff, nar0, nar1, nF_ap, bF_ap, oF_ap, bI_0, bI_1, and255, bu_w, bu_p, bu_90, bu_9, row_w, row_at, nF_up, nI_ofIntm]
    refine ⟨fun q => absurd q (by omega), fun _ => ⟨by omega, ?_⟩⟩
    rw [show k + 1 - 1 = k by omega, h1 k (by omega)]
    refine cM_compareNames hS hD (gd ml k) r (hA _ he hue).1 he (hA _ he hue).2 (hA _ hr hu).1 hr (hA _ hr hu).2 ⟨hS, ?_⟩ rfl rfl
    unfold ipos at h
    refine ⟨fun q => ?_, fun q => ?_⟩
    · have hg : ¬ gtN f r (gd ml k) = true := by unfold gtN; simp; exact q
      rw [if_neg hg] at h
      have := fin (k + 1) I hk hm h1 h2 h
      simp (disch := omega) only [nI_lit, nI_ofInt1, nI_ofInt4, nI_ofInt2, nI_ofInt3, mI_neg, wI_I, wI_setI, wI_setR, forall_eq, nI_add, pk_mul, pk_sub, pk_div, pk_rem, nI_clamp, nI_leI, nI_ltI, nI_eq, vin_iff, nar0, nar1, nF_ap, bF_ap, oF_ap, bI_0, bI_1, and255, bu_w, bu_p, bu_90, bu_9, row_w, row_at, nF_up, nI_ofIntm]
      refine ⟨by omega, ?_⟩
      rw [show fx_w I 94 (k + 1) (nI r) 85 14 = I 85 14 from rfl, hm]
      simp (disch := omega) only [nI_lit, nI_ofInt1, nI_ofInt4, nI_ofInt2, nI_ofInt3, mI_neg, wI_I, wI_setI, wI_setR, forall_eq, nI_add, pk_mul, pk_sub, pk_div, pk_rem, nI_clamp, nI_leI, nI_ltI, nI_eq, vin_iff, nar0, nar1, nF_ap, bF_ap, oF_ap, bI_0, bI_1, and255, bu_w, bu_p, bu_90, bu_9, row_w, row_at, nF_up, nI_ofIntm]
      exact this
    · have hg : gtN f r (gd ml k) = true := by
        unfold gtN
        simp only [Bool.not_eq_true', decide_eq_false_iff_not]
        exact q
      rw [if_pos hg] at h
      simp (disch := omega) only [nI_lit, nI_ofInt1, nI_ofInt4, nI_ofInt2, nI_ofInt3, mI_neg, wI_I, wI_setI, wI_setR, forall_eq, nI_add, pk_mul, pk_sub, pk_div, pk_rem, nI_clamp, nI_leI, nI_ltI, nI_eq, vin_iff, nar0, nar1, nF_ap, bF_ap, oF_ap, bI_0, bI_1, and255, bu_w, bu_p, bu_90, bu_9, row_w, row_at, nF_up, nI_ofIntm]
      refine ⟨by omega, by omega, ?_⟩
      rw [h1 k (by omega)]
      refine ih _ ?_ (by omega) ?_ (fun j hj => ?_) (fun j hj hj2 => ?_) (fun I' hF => h I' ?_) rfl (pk_m1 k)
      · exact hD
      · exact hm
      · rw [fw_nj (by omega)]; exact h1 j (by omega)
      · by_cases c : j = k + 1
        · subst c; rw [fw_at]; rfl
        · rw [fw_nj c]; exact h2 j (by omega) hj2
      · exact (Fr.w [94] [14] I 94 _ _ (by decide) (by decide)).tr hF (fun _ h => ⟨h, h⟩) (fun _ h => ⟨h, h⟩)
theorem cM_join {F : fx_S → Prop} (hS : shM S) (hD : I 86 = nF D) {U : Nat → Bool} {f : Nat → AS} (hA : Recs D U f) {v1 : Int32} (r : Nat) (hr : r < 12) (hu : U r = true) (ml : List Nat) (hml : ml.length < 12) (hx : ∀ e ∈ ml, e < 12 ∧ U e = true) (hm : I 85 14 = nI ml.length) (hrow : rowL I 94 ml)
    (h : ∀ I', Fr [94] [14] I I' → I' 85 14 = nI (ml.length + 1) → rowL I' 94 (insA ml (ipos (gtN f r) ml ml.length) r) → F (fx_wI S I')) (e1 : v1 = nI r) :
    fx_Go G (5, 76) mm_M_join 0 [(0, fx_r G 85), (1, .int v1)] [] (fx_wI S I) (fx_qv F Q) := by
  refine bs_M_join_0 hS.w _ ?_
  simp only [wI_I, hm]
  exact cM_joinL hS hA r hr hu ml hml hx ml.length I hD (Nat.le_refl _) hm hrow (fun j h1 h2 => absurd h1 (by omega)) h e1 rfl
/-- the first of a list with a name -/
def fdN (f : Nat → AS) (dl : List Nat) : List Nat → Int32
  | [] => mI
  | e :: t => if aM (f e) = dl then nI e else fdN f dl t
theorem cM_findDraftL {F : Int32 → fx_S → Prop} (hS : shM S) (hD : I 86 = nF D) {U : Nat → Bool} {f : Nat → AS} (hA : Recs D U f) {dl : List Nat} (ht : I 85 6 = nI dl.length) (hd : rowL I 89 dl) (hdl : dl.length ≤ 8) (hdx : ∀ x ∈ dl, x < 65536) {s : AS} (d : Nat) (hR : Rec D d s) (hd2 : d < 12) (hw : wf s) (hk : aK s = 4) (hx : ∀ e ∈ aH s, e < 12 ∧ U e = true) :
    ∀ (n k : Nat) {v1 v2 : Int32}, k + n = (aH s).length → F (fdN f dl ((aH s).drop k)) (fx_wI S I) → v1 = nI d → v2 = nI k →
    fx_Go G (5, 75) mm_M_findDraft 2 [(0, fx_r G 85), (1, .int v1), (2, .int v2)] [] (fx_wI S I) (fx_qi F Q) := by
  have hl := hw.hl (by omega)
  intro n
  induction n with
  | zero =>
    intro k v1 v2 hkn h e1 e2
    subst e1 e2
    refine bs_M_findDraft_2 hS.w _ _ ?_
    refine cM_listLength hS hD d hR hd2 hw hk ⟨hS, ?_⟩ rfl
    simp (disch := omega) only [nI_lit, nI_ofInt1, nI_ofInt4, nI_ofInt2, nI_ofInt3, mI_neg, wI_I, wI_setI, wI_setR, forall_eq, nI_add, pk_mul, pk_sub, pk_div, pk_rem, nI_clamp, nI_leI, nI_ltI, nI_eq, vin_iff, nar0, nar1, nF_ap, bF_ap, oF_ap, bI_0, bI_1, and255, bu_w, bu_p, bu_90, bu_9, row_w, row_at, nF_up, nI_ofIntm]
    refine ⟨fun _ => ?_, fun q => absurd (by omega) q⟩
    rw [List.drop_of_length_le (by omega)] at h
    exact h
  | succ n ih =>
    intro k v1 v2 hkn h e1 e2
    subst e1 e2
    obtain ⟨he, hue⟩ := hx (gd (aH s) k) (gd_mem (by omega))
    refine bs_M_findDraft_2 hS.w _ _ ?_
    refine cM_listLength hS hD d hR hd2 hw hk ⟨hS, ?_⟩ rfl
    simp (disch := omega) only [nI_lit, nI_ofInt1, nI_ofInt4, nI_ofInt2, nI_ofInt3, mI_neg, wI_I, wI_setI, wI_setR, forall_eq, nI_add, pk_mul, pk_sub, pk_div, pk_rem, nI_clamp, nI_leI, nI_ltI, nI_eq, vin_iff, nar0, nar1, nF_ap, bF_ap, oF_ap, bI_0, bI_1, and255, bu_w, bu_p, bu_90, bu_9, row_w, row_at, nF_up, nI_ofIntm]
    refine ⟨fun q => absurd q (by omega), fun _ => ?_⟩
    refine cM_entry hS hD d k hR hd2 hw hk (by omega) ⟨hS, ?_⟩ rfl rfl
    refine cM_isDraft hS hD (gd (aH s) k) (hA _ he hue).1 he (hA _ he hue).2 ht hd hdl hdx ⟨hS, ?_⟩ rfl
    rw [drop_gd _ _ (show k < (aH s).length by omega)] at h
    unfold fdN at h
    simp (disch := omega) only [nI_lit, nI_ofInt1, nI_ofInt4, nI_ofInt2, nI_ofInt3, mI_neg, wI_I, wI_setI, wI_setR, forall_eq, nI_add, pk_mul, pk_sub, pk_div, pk_rem, nI_clamp, nI_leI, nI_ltI, nI_eq, vin_iff, nar0, nar1, nF_ap, bF_ap, oF_ap, bI_0, bI_1, and255, bu_w, bu_p, bu_90, bu_9, row_w, row_at, nF_up, nI_ofIntm]
    refine ⟨fun q => ?_, fun q => ?_⟩
    · rw [if_neg (of_decide_eq_false q)] at h
      exact ih (k + 1) (by omega) h rfl rfl
    · have q' : aM (f (gd (aH s) k)) = dl := by simpa using q
      rw [if_pos q'] at h
      exact cM_entry hS hD d k hR hd2 hw hk (by omega) ⟨hS, h⟩ rfl rfl
theorem cM_findDraft {F : Int32 → fx_S → Prop} (hS : shM S) (hD : I 86 = nF D) {U : Nat → Bool} {f : Nat → AS} (hA : Recs D U f) {dl : List Nat} (ht : I 85 6 = nI dl.length) (hd : rowL I 89 dl) (hdl : dl.length ≤ 8) (hdx : ∀ x ∈ dl, x < 65536) {s : AS} {v1 : Int32} (d : Nat) (hR : Rec D d s) (hd2 : d < 12) (hw : wf s) (hk : aK s = 4) (hx : ∀ e ∈ aH s, e < 12 ∧ U e = true)
    (h : F (fdN f dl (aH s)) (fx_wI S I)) (e1 : v1 = nI d) : fx_Go G (5, 75) mm_M_findDraft 0 [(0, fx_r G 85), (1, .int v1)] [] (fx_wI S I) (fx_qi F Q) := by
  refine bs_M_findDraft_0 hS.w _ ?_
  exact cM_findDraftL hS hD hA ht hd hdl hdx d hR hd2 hw hk hx (aH s).length 0 (by omega) h e1 rfl
def hnN (f : Nat → AS) (r : Nat) : List Nat → Bool
  | [] => false
  | e :: t => decide (ncmp 8 (aM (f e)) (aM (f r)) 0 = nI 0) || hnN f r t
theorem cM_hasNameL {F : Int32 → fx_S → Prop} (hS : shM S) (hD : I 86 = nF D) {U : Nat → Bool} {f : Nat → AS} (hA : Recs D U f) {s : AS} (d r : Nat) (hr : r < 12) (hu : U r = true) (hR : Rec D d s) (hd2 : d < 12) (hw : wf s) (hk : aK s = 4) (hx : ∀ e ∈ aH s, e < 12 ∧ U e = true) :
    ∀ (n k : Nat) (b : Bool) {v1 v2 v3 v4 : Int32}, k + n = (aH s).length → F (bI (b || hnN f r ((aH s).drop k))) (fx_wI S I) → v1 = nI d → v2 = nI r → v3 = bI b → v4 = nI k →
    fx_Go G (5, 76) mm_M_hasName 5 [(0, fx_r G 85), (1, .int v1), (2, .int v2), (3, .int v3), (4, .int v4)] [] (fx_wI S I) (fx_qi F Q) := by
  have narb : ∀ b : Bool, narrow .boolean (.int (bI b)) = .int (bI b) := by intro b; cases b <;> rfl
  have hl := hw.hl (by omega)
  intro n
  induction n with
  | zero =>
    intro k b v1 v2 v3 v4 hkn h e1 e2 e3 e4
    subst e1 e2 e3 e4
    refine bs_M_hasName_5 hS.w _ _ _ _ ?_
    refine cM_listLength hS hD d hR hd2 hw hk ⟨hS, ?_⟩ rfl
    simp (disch := omega) only [nI_lit, nI_ofInt1, nI_ofInt4, nI_ofInt2, nI_ofInt3, mI_neg, wI_I, wI_setI, wI_setR, forall_eq, nI_add, pk_mul, pk_sub, pk_div, pk_rem, nI_clamp, nI_leI, nI_ltI, nI_eq, vin_iff, nar0, nar1, nF_ap, bF_ap, oF_ap, bI_0, bI_1, and255, bu_w, bu_p, bu_90, bu_9, row_w, row_at, nF_up, nI_ofIntm]
    refine ⟨fun _ => ⟨narb b, ?_⟩, fun q => absurd (by omega) q⟩
    rw [List.drop_of_length_le (by omega)] at h
    unfold hnN at h
    rw [Bool.or_false] at h
    exact h
  | succ n ih =>
    intro k b v1 v2 v3 v4 hkn h e1 e2 e3 e4
    subst e1 e2 e3 e4
    obtain ⟨he, hue⟩ := hx (gd (aH s) k) (gd_mem (by omega))
    rw [drop_gd _ _ (show k < (aH s).length by omega)] at h
    unfold hnN at h
    refine bs_M_hasName_5 hS.w _ _ _ _ ?_
    refine cM_listLength hS hD d hR hd2 hw hk ⟨hS, ?_⟩ rfl
    simp (disch := omega) only [nI_lit, nI_ofInt1, nI_ofInt4, nI_ofInt2, nI_ofInt3, mI_neg, wI_I, wI_setI, wI_setR, forall_eq, nI_add, pk_mul, pk_sub, pk_div, pk_rem, nI_clamp, nI_leI, nI_ltI, nI_eq, vin_iff, nar0, nar1, nF_ap, bF_ap, oF_ap, bI_0, bI_1, and255, bu_w, bu_p, bu_90, bu_9, row_w, row_at, nF_up, nI_ofIntm]
    refine ⟨fun q => absurd q (by omega), fun _ => ⟨fun q => ?_, fun q => ?_⟩⟩
    · have hb : b = true := by simpa using q
      subst hb
      exact ih (k + 1) true (by omega) (by rw [Bool.true_or] at h ⊢; exact h) rfl rfl rfl rfl
    · subst q
      rw [Bool.false_or] at h
      refine cM_entry hS hD d k hR hd2 hw hk (by omega) ⟨hS, ?_⟩ rfl rfl
      refine cM_compareNames hS hD (gd (aH s) k) r (hA _ he hue).1 he (hA _ he hue).2 (hA _ hr hu).1 hr (hA _ hr hu).2 ⟨hS, ?_⟩ rfl rfl
      refine ⟨fun q => ?_, fun q => ?_⟩
      · refine ih (k + 1) false (by omega) ?_ rfl rfl rfl rfl
        rw [decide_eq_false q] at h
        exact h
      · refine ih (k + 1) true (by omega) ?_ rfl rfl rfl rfl
        rw [decide_eq_true q, Bool.true_or] at h
        rw [Bool.true_or]
        exact h
theorem cM_hasName {F : Int32 → fx_S → Prop} (hS : shM S) (hD : I 86 = nF D) {U : Nat → Bool} {f : Nat → AS} (hA : Recs D U f) {s : AS} {v1 v2 : Int32} (d r : Nat) (hr : r < 12) (hu : U r = true) (hR : Rec D d s) (hd2 : d < 12) (hw : wf s) (hk : aK s = 4) (hx : ∀ e ∈ aH s, e < 12 ∧ U e = true)
    (h : F (bI (hnN f r (aH s))) (fx_wI S I)) (e1 : v1 = nI d) (e2 : v2 = nI r) : fx_Go G (5, 76) mm_M_hasName 0 [(0, fx_r G 85), (1, .int v1), (2, .int v2)] [] (fx_wI S I) (fx_qi F Q) := by
  refine bs_M_hasName_0 hS.w _ _ ?_
  exact cM_hasNameL hS hD hA d r hr hu hR hd2 hw hk hx (aH s).length 0 false (by omega) h e1 e2 rfl rfl
/-- going up by parents: record 0 within n steps -/
def ldN (U : Nat → Bool) (f : Nat → AS) : Nat → Nat → Prop
  | 0, k => k = 0
  | n + 1, k => k = 0 ∨ (k < 12 ∧ U k = true ∧ ldN U f n (aP (f k)))
def isB (f : Nat → AS) (r : Nat) : Nat → Nat → Bool
  | 0, k => decide (k = r)
  | n + 1, k => if k = r then true else if k = 0 then false else isB f r n (aP (f k))
theorem rv_1 (s : AS) : rv s 1 = aP s := rfl
theorem cM_isBelowL {F : Int32 → fx_S → Prop} (hS : shM S) (hD : I 86 = nF D) {U : Nat → Bool} {f : Nat → AS} (hA : Recs D U f) (r : Nat) (hr : r < 12) : ∀ (n k : Nat) {v2 v3 : Int32}, ldN U f n k → F (bI (isB f r n k)) (fx_wI S I) → v2 = nI r → v3 = nI k →
    fx_Go G (1, 15) mm_M_isBelow 2 [(0, fx_r G 85), (2, .int v2), (3, .int v3)] [] (fx_wI S I) (fx_qi F Q) := by
  intro n
  induction n with
  | zero =>
    intro k v2 v3 hl h e2 e3
    subst e2 e3
    unfold ldN at hl
    subst hl
    unfold isB at h
    refine bs_M_isBelow_2 hS.w _ _ ?_
    simp (disch := omega) only [nI_lit, nI_ofInt1, nI_ofInt4, nI_ofInt2, nI_ofInt3, mI_neg, wI_I, wI_setI, wI_setR, forall_eq, nI_add, pk_mul, pk_sub, pk_div, pk_rem, nI_clamp, nI_leI, nI_ltI, nI_eq, vin_iff, nar0, nar1, nF_ap, bF_ap, oF_ap, bI_0, bI_1, and255, bu_w, bu_p, bu_90, bu_9, row_w, row_at, nF_up, nI_ofIntm]
    refine ⟨fun q => ⟨fun q2 => absurd q q2, fun _ => ?_⟩, fun q => ⟨fun _ => ⟨fun _ => ?_, fun q2 => absurd q2 q⟩, fun q2 => absurd trivial q2⟩⟩
    · rw [decide_eq_true q] at h; exact h
    · rw [decide_eq_false q] at h; exact h
  | succ n ih =>
    intro k v2 v3 hl h e2 e3
    subst e2 e3
    unfold ldN at hl
    unfold isB at h
    have hk : k < 12 := by rcases hl with e | e <;> omega
    refine bs_M_isBelow_2 hS.w _ _ ?_
    simp (disch := omega) only [nI_lit, nI_ofInt1, nI_ofInt4, nI_ofInt2, nI_ofInt3, mI_neg, wI_I, wI_setI, wI_setR, forall_eq, nI_add, pk_mul, pk_sub, pk_div, pk_rem, nI_clamp, nI_leI, nI_ltI, nI_eq, vin_iff, nar0, nar1, nF_ap, bF_ap, oF_ap, bI_0, bI_1, and255, bu_w, bu_p, bu_90, bu_9, row_w, row_at, nF_up, nI_ofIntm]
    refine ⟨fun q => ⟨fun q2 => absurd q q2, fun _ => ?_⟩, fun q => ⟨fun q0 => ⟨fun _ => ?_, fun q2 => absurd q2 q⟩, fun q0 => ?_⟩⟩
    · rw [if_pos q] at h; exact h
    · rw [if_neg q, if_pos q0] at h; exact h
    · rw [if_neg q, if_neg q0] at h
      rcases hl with e | ⟨_, hu, hl⟩
      · exact absurd e q0
      · refine cM_byteR hS hD k 1 (hA k hk hu).1 hk (by omega) ⟨hS, ?_⟩ rfl rfl
        rw [rv_1]
        exact ih _ hl h rfl rfl
theorem cM_isBelow {F : Int32 → fx_S → Prop} (hS : shM S) (hD : I 86 = nF D) {U : Nat → Bool} {f : Nat → AS} (hA : Recs D U f) {v1 v2 : Int32} (r : Nat) (hr : r < 12) (n k : Nat) (hl : ldN U f n k) (h : F (bI (isB f r n k)) (fx_wI S I)) (e1 : v1 = nI k) (e2 : v2 = nI r) :
    fx_Go G (1, 15) mm_M_isBelow 0 [(0, fx_r G 85), (1, .int v1), (2, .int v2)] [] (fx_wI S I) (fx_qi F Q) := by
  refine bs_M_isBelow_0 hS.w _ _ ?_
  exact cM_isBelowL hS hD hA r hr n k hl h e2 e1
end MLIST
