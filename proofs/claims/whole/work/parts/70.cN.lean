/-! The class's names. -/
def FC (cs : List Nat) (I I' : Nat → Nat → Int32) : Prop := ∀ a, a ∉ cs → I' a = I a
theorem FC.r (cs : List Nat) (I : Nat → Nat → Int32) : FC cs I I := fun _ _ => rfl
theorem FC.tr {cs : List Nat} {I I' I'' : Nat → Nat → Int32} (h : FC cs I I') (h' : FC cs I' I'') : FC cs I I'' := fun a ha => (h' a ha).trans (h a ha)
theorem FC.mono {cs cs' : List Nat} {I I' : Nat → Nat → Int32} (h : FC cs I I') (hc : ∀ a, a ∈ cs → a ∈ cs') : FC cs' I I' := fun a ha => h a (fun z => ha (hc a z))
theorem FC.w (cs : List Nat) (I : Nat → Nat → Int32) (a j : Nat) (x : Int32) (h : a ∈ cs) : FC cs I (fx_w I a j x) := fun b hb => fw_ne (fun e => hb (by rw [e]; exact h))
theorem FC.row (cs : List Nat) (I : Nat → Nat → Int32) (a : Nat) (g : Nat → Int32) (h : a ∈ cs) : FC cs I (fx_row I a g) := fun b hb => fx_row_ne _ _ (fun e => hb (by rw [e]; exact h))
/-- a name at a cell -/
def NmP (I : Nat → Nat → Int32) (a : Nat) (l : List Nat) : Prop := I a 1 = nI l.length ∧ rowL I (a + 1) l
theorem NmP.cg {I I' : Nat → Nat → Int32} {a : Nat} {l : List Nat} (h : NmP I a l) (e : I' a = I a) (e' : I' (a + 1) = I (a + 1)) : NmP I' a l := ⟨by rw [e]; exact h.1, h.2.cg e'⟩
theorem NmP.fc {cs : List Nat} {I I' : Nat → Nat → Int32} {a : Nat} {l : List Nat} (h : NmP I a l) (hF : FC cs I I') (h1 : a ∉ cs) (h2 : a + 1 ∉ cs) : NmP I' a l := h.cg (hF a h1) (hF (a + 1) h2)
/-- names as they can be -/
def lok (l : List Nat) : Prop := l.length ≤ 8 ∧ ∀ x ∈ l, 48 ≤ x ∧ x ≤ 122
def apN (l : List Nat) (c : Nat) : Bool := isLt c && decide (l.length < 8)
theorem ncmp_pre (l m : List Nat) : ∀ (k n : Nat), k + n = 8 → (∀ i, i < k → gd l i = gd m i) → ncmp 8 l m 0 = ncmp n l m k := by
  intro k
  induction k with
  | zero =>
    intro n hn _
    have : n = 8 := by omega
    rw [this]
  | succ k ih =>
    intro n hn h
    rw [ih (n + 1) (by omega) (fun i hi => h i (by omega))]
    rw [show ncmp (n + 1) l m k = if gd l k = gd m k then ncmp n l m (k + 1) else if gd l k < gd m k then mI else nI 1 from rfl, if_pos (h k (by omega))]
theorem ncmp_end (l m : List Nat) : ∀ (n k : Nat), l.length ≤ k → m.length ≤ k → ncmp n l m k = nI 0
  | 0, _, _, _ => rfl
  | n + 1, k, h1, h2 => by
    unfold ncmp
    rw [gd_out h1, gd_out h2, if_pos rfl]
    exact ncmp_end l m n (k + 1) (by omega) (by omega)
theorem i_sub_le {a b : Nat} (ha : a < 2 ^ 30) (hb : b < 2 ^ 30) : (nI a - nI b ≤ nI 0) ↔ a ≤ b := by
  rw [Int32.le_iff_toInt_le, pk_sub_toInt ha hb]
  have : (nI 0).toInt = 0 := rfl
  omega
theorem i_sub_eq {a b : Nat} (ha : a < 2 ^ 30) (hb : b < 2 ^ 30) : (nI a - nI b = nI 0) ↔ a = b := by
  constructor
  · intro h
    have h1 := (i_sub_le ha hb).mp (by rw [h]; decide)
    have h2 : (nI a - nI b).toInt = 0 := by rw [h]; rfl
    rw [pk_sub_toInt ha hb] at h2
    omega
  · intro h
    subst h
    rw [pk_sub (Nat.le_refl _), Nat.sub_self]
section CN
variable {G : fx_G} {S : fx_S} {I : Nat → Nat → Int32} {Q : fx_R → fx_S → Prop} {F : Int32 → fx_S → Prop}
theorem cN_append29 (hS : shC S) (a : Nat) (ha : isN a) {l : List Nat} (hN : NmP I a l) (hl : l.length ≤ 8) (c : Nat) (b : Bool) (hb : b = isLt c)
    (h : ∀ I', FC [a, a + 1] I I' → NmP I' a (if apN l c = true then l ++ [c] else l) → F (bI (apN l c)) (fx_wI S I')) :
    fx_Go G (0, 0) mm_N_append 29 [(0, fx_r G a), (1, .int (nI c))] [.int (bI b)] (fx_wI S I) (fx_qi F Q) := by
  unfold apN at h
  refine bs_N_append_29 hS.w a _ _ ha ?_
  simp only [wI_I, hN.1, wI_setI, forall_eq]
  refine b0 (fun q => ?_) (fun q => ?_)
  · rw [← hb, q] at h
    exact h I (FC.r _ _) hN
  · rw [← hb, q] at h
    refine pk_lt l.length 8 (fun q2 => ⟨pk_in l.length 8 q2 rfl, ?_⟩) (fun q2 => ?_) rfl rfl (by omega) (by omega)
    · rw [decide_eq_true q2] at h
      rw [pk_cl l.length rfl (by omega)]
      have e : fx_w I (a + 1) l.length (nI c) a 1 = nI l.length := by rw [fw_ne (by omega)]; exact hN.1
      rw [e, show nI l.length + 1 = nI (l.length + 1) from nI_1 _]
      refine h _ ((FC.w [a, a + 1] I (a + 1) _ _ (by simp)).tr (FC.w [a, a + 1] _ a _ _ (by simp))) ⟨?_, ?_⟩
      · rw [fw_at]
        show nI _ = nI (l ++ [c]).length
        rw [List.length_append]; rfl
      · exact (rowL_snoc hN.2 c).cg (fw_ne (by omega))
    · rw [decide_eq_false (show ¬ l.length < 8 by omega)] at h
      exact h I (FC.r _ _) hN
theorem cN_append (hS : shC S) (a : Nat) (ha : isN a) {l : List Nat} (hN : NmP I a l) (hl : l.length ≤ 8) {v1 : Int32} (c : Nat) (hc : c < 65536)
    (h : ∀ I', FC [a, a + 1] I I' → NmP I' a (if apN l c = true then l ++ [c] else l) → F (bI (apN l c)) (fx_wI S I')) (e1 : v1 = nI c) :
    fx_Go G (0, 0) mm_N_append 0 [(0, fx_r G a), (1, .int v1)] [] (fx_wI S I) (fx_qi F Q) := by
  subst e1
  have main : ∀ b : Bool, b = isLt c → fx_Go G (0, 0) mm_N_append 29 [(0, fx_r G a), (1, .int (nI c))] [.int (bI b)] (fx_wI S I) (fx_qi F Q) := fun b hb => cN_append29 hS a ha hN hl c b hb h
  unfold isLt at main
  refine bs_N_append_0 hS.w a _ ha ?_
  simp (disch := omega) only [nI_lit, nI_ofInt1, nI_ofInt4, nI_ofInt2, nI_ofInt3, mI_neg, wI_I, wI_setI, wI_setR, forall_eq, nI_add, pk_mul, pk_sub, pk_div, pk_rem, nI_clamp, nI_leI, nI_ltI, nI_eq, vin_iff, nar0, nar1, nF_ap, bF_ap, oF_ap, bI_0, bI_1, and255, bu_w, bu_p, bu_90, bu_9, row_w, row_at, nF_up, nI_ofIntm]
  refine ⟨fun q => ⟨fun q2 => main false ?_, fun q2 => ⟨fun q3 => main false ?_, fun q3 => main true ?_⟩⟩, fun q => ⟨fun q2 => main true ?_, fun q2 => ⟨fun q3 => absurd q3 (by omega), fun q3 => ⟨fun q4 => main false ?_, fun q4 => absurd q4 (by omega)⟩⟩⟩⟩
  · rw [decide_eq_false (show ¬ 97 ≤ c by omega), decide_eq_false (show ¬ 48 ≤ c by omega)]; rfl
  · rw [decide_eq_false (show ¬ 97 ≤ c by omega), decide_eq_false (show ¬ c ≤ 57 by omega)]; simp
  · rw [decide_eq_true (show 48 ≤ c by omega), decide_eq_true (show c ≤ 57 by omega)]; simp
  · rw [decide_eq_true (show 97 ≤ c by omega), decide_eq_true (show c ≤ 122 by omega)]; rfl
  · rw [decide_eq_false (show ¬ c ≤ 122 by omega), decide_eq_false (show ¬ c ≤ 57 by omega)]; simp
theorem cN_clear {F : fx_S → Prop} (hS : shC S) (a : Nat) (ha : isN a) (h : ∀ I', FC [a] I I' → NmP I' a [] → F (fx_wI S I')) :
    fx_Go G (0, 0) mm_N_clear 0 [(0, fx_r G a)] [] (fx_wI S I) (fx_qv F Q) := by
  refine bs_N_clear_0 hS.w a ha ?_
  simp only [wI_setI, forall_eq]
  exact h _ (FC.w _ _ _ _ _ (by simp)) ⟨fw_at _ _ _ _, fun k hk => absurd hk (Nat.not_lt_zero _)⟩
theorem cN_copyFrom {F : fx_S → Prop} (hS : shC S) (a b : Nat) (ha : isN a) (hb : isN b) (hab : b + 1 < a ∨ a + 1 < b) {l : List Nat} (hN : NmP I b l) (hl : l.length ≤ 8) (h : ∀ I', FC [a, a + 1] I I' → NmP I' a l → F (fx_wI S I')) :
    fx_Go G (1, 18) mm_N_copyFrom 0 [(0, fx_r G a), (1, fx_r G b)] [] (fx_wI S I) (fx_qv F Q) := by
  refine bs_N_copyFrom_0 hS.w a b ha hb ?_
  refine ⟨by unfold fx_cp2; decide, ?_⟩
  simp only [wI_setR, wI_setI, forall_eq, wI_I]
  rw [show (0 : Int32).toNatClampNeg = 0 from rfl, show (8 : Int32).toNatClampNeg = 8 from rfl]
  have e1 : fx_row I (a + 1) (va_cpy (I (b + 1)) (I (a + 1)) 0 0 8) b 1 = nI l.length := by rw [fx_row_ne _ _ (by omega)]; exact hN.1
  rw [e1]
  refine h _ ((FC.row [a, a + 1] I (a + 1) _ (by simp)).tr (FC.w [a, a + 1] _ a _ _ (by simp))) ⟨fw_at _ _ _ _, fun k hk => ?_⟩
  rw [fw_ne (by omega), row_at, pk_cpy_in (Nat.zero_le _) (by omega), Nat.sub_zero, Nat.zero_add]
  exact hN.2 k hk
theorem cN_compare14 (hS : shC S) (a b : Nat) (ha : isN a) (hb : isN b) {l m : List Nat} (hl : lok l) (hm : lok m) (hN : NmP I a l) (hM : NmP I b m) (h : ∀ x : Int32, (x ≤ nI 0 ↔ ncmp 8 l m 0 ≤ nI 0) → (x = nI 0 ↔ ncmp 8 l m 0 = nI 0) → F x (fx_wI S I)) : ∀ (n k : Nat) {v2 v3 : Int32}, k + n = min l.length m.length → (∀ i, i < k → gd l i = gd m i) → v2 = nI (min l.length m.length) → v3 = nI k →
    fx_Go G (1, 13) mm_N_compare 14 [(0, fx_r G a), (1, fx_r G b), (2, .int v2), (3, .int v3)] [] (fx_wI S I) (fx_qi F Q) := by
  have hl1 := hl.1
  have hm1 := hm.1
  have hlx : ∀ i, i < l.length → 48 ≤ gd l i ∧ gd l i ≤ 122 := fun i hi => hl.2 _ (gd_mem hi)
  have hmx : ∀ i, i < m.length → 48 ≤ gd m i ∧ gd m i ≤ 122 := fun i hi => hm.2 _ (gd_mem hi)
  have m0 : mI ≤ nI 0 := by decide
  have m1 : mI ≠ nI 0 := by decide
  have p0 : ¬ nI 1 ≤ nI 0 := by decide
  have p1 : nI 1 ≠ nI 0 := by decide
  intro n
  induction n with
  | zero =>
    intro k v2 v3 hk hp e2 e3
    subst e2 e3
    refine bs_N_compare_14 hS.w a b _ _ ha hb ?_
    simp only [wI_I, hN.1, hM.1]
    refine pk_le (min l.length m.length) k (fun _ => ?_) (fun q => absurd q (by omega)) rfl rfl (by omega) (by omega)
    have hpre := ncmp_pre l m k (8 - k) (by omega) hp
    refine h _ ?_ ?_
    · rw [i_sub_le (by omega) (by omega), hpre]
      rcases Nat.lt_trichotomy l.length m.length with c | c | c
      · have := hmx k (by omega)
        rw [show 8 - k = (7 - k) + 1 by omega]
        unfold ncmp
        rw [gd_out (l := l) (by omega), if_neg (by omega), if_pos (by omega)]
        exact ⟨fun _ => m0, fun _ => by omega⟩
      · rw [ncmp_end l m _ k (by omega) (by omega)]
        exact ⟨fun _ => by decide, fun _ => by omega⟩
      · have := hlx k (by omega)
        rw [show 8 - k = (7 - k) + 1 by omega]
        unfold ncmp
        rw [gd_out (l := m) (by omega), if_neg (by omega), if_neg (by omega)]
        exact ⟨fun q => absurd q (by omega), fun q => absurd q p0⟩
    · rw [i_sub_eq (by omega) (by omega), hpre]
      rcases Nat.lt_trichotomy l.length m.length with c | c | c
      · have := hmx k (by omega)
        rw [show 8 - k = (7 - k) + 1 by omega]
        unfold ncmp
        rw [gd_out (l := l) (by omega), if_neg (by omega), if_pos (by omega)]
        exact ⟨fun q => absurd q (by omega), fun q => absurd q m1⟩
      · rw [ncmp_end l m _ k (by omega) (by omega)]
        exact ⟨fun _ => rfl, fun _ => by omega⟩
      · have := hlx k (by omega)
        rw [show 8 - k = (7 - k) + 1 by omega]
        unfold ncmp
        rw [gd_out (l := m) (by omega), if_neg (by omega), if_neg (by omega)]
        exact ⟨fun q => absurd q (by omega), fun q => absurd q p1⟩
  | succ n ih =>
    intro k v2 v3 hk hp e2 e3
    subst e2 e3
    have gl := hlx k (by omega)
    have gm := hmx k (by omega)
    refine bs_N_compare_14 hS.w a b _ _ ha hb ?_
    simp only [wI_I, hN.1, hM.1]
    refine pk_le (min l.length m.length) k (fun q => absurd q (by omega)) (fun _ => ⟨pk_in k 8 (by omega) rfl, pk_in k 8 (by omega) rfl, ?_⟩) rfl rfl (by omega) (by omega)
    rw [pk_cl k rfl (by omega), hN.2 k (by omega), hM.2 k (by omega)]
    refine pk_eq (gd l k) (gd m k) (fun q => ?_) (fun q => ⟨pk_in k 8 (by omega) rfl, pk_in k 8 (by omega) rfl, ?_⟩) rfl rfl (by omega) (by omega)
    · refine ih (k + 1) (by omega) (fun i hi => ?_) rfl (by first | rfl | (simp (disch := omega) only [nI_lit, nI_ofInt1, nI_ofInt4, nI_ofInt2, nI_ofInt3, mI_neg, wI_I, wI_setI, wI_setR, forall_eq, nI_add, pk_mul, pk_sub, pk_div, pk_rem, nI_clamp, nI_leI, nI_ltI, nI_eq, vin_iff, nar0, nar1, nF_ap, bF_ap, oF_ap, bI_0, bI_1, and255, bu_w, bu_p, bu_90, bu_9, row_w, row_at, nF_up, nI_ofIntm] <;> first | done | omega | (congr 1; omega)))
      by_cases c : i = k
      · rw [c]; exact q
      · exact hp i (by omega)
    · have hpre := ncmp_pre l m k (8 - k) (by omega) hp
      rw [show 8 - k = (7 - k) + 1 by omega] at hpre
      unfold ncmp at hpre
      rw [if_neg q] at hpre
      refine h _ ?_ ?_
      · rw [i_sub_le (by omega) (by omega)]
        rw [show ncmp 8 l m 0 = ncmp (7 - k + 1) l m k from ncmp_pre l m k (7 - k + 1) (by omega) hp]
        unfold ncmp
        rw [if_neg q]
        split
        · exact ⟨fun _ => m0, fun _ => by omega⟩
        · exact ⟨fun z => absurd z (by omega), fun z => absurd z p0⟩
      · rw [i_sub_eq (by omega) (by omega)]
        rw [show ncmp 8 l m 0 = ncmp (7 - k + 1) l m k from ncmp_pre l m k (7 - k + 1) (by omega) hp]
        unfold ncmp
        rw [if_neg q]
        split
        · exact ⟨fun z => absurd z q, fun z => absurd z m1⟩
        · exact ⟨fun z => absurd z q, fun z => absurd z p1⟩
theorem cN_compare (hS : shC S) (a b : Nat) (ha : isN a) (hb : isN b) {l m : List Nat} (hl : lok l) (hm : lok m) (hN : NmP I a l) (hM : NmP I b m) (h : ∀ x : Int32, (x ≤ nI 0 ↔ ncmp 8 l m 0 ≤ nI 0) → (x = nI 0 ↔ ncmp 8 l m 0 = nI 0) → F x (fx_wI S I)) :
    fx_Go G (1, 13) mm_N_compare 0 [(0, fx_r G a), (1, fx_r G b)] [] (fx_wI S I) (fx_qi F Q) := by
  have hl1 := hl.1
  have hm1 := hm.1
  refine bs_N_compare_0 hS.w a b ha hb ?_
  simp only [wI_I, hN.1, hM.1]
  refine cN_compare14 hS a b ha hb hl hm hN hM h (min l.length m.length) 0 (by omega) (fun i hi => absurd hi (by omega)) ?_ rfl
  by_cases c : m.length < l.length
  · rw [if_pos (nI_lt c (by omega))]
    congr 1
    omega
  · rw [if_neg (nI_nlt (by omega) (by omega))]
    congr 1
    omega
end CN
