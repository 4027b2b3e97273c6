/-! The class: who is used, names, lists. -/
def GK (U : Nat → Bool) (g : Nat → AS) : Prop := ∀ r, r < 12 → (U r = true → wf (g r)) ∧ (U r = false → ∃ n, n < 65536 ∧ g r = frA n)
theorem GK.u {U : Nat → Bool} {g : Nat → AS} (h : GK U g) {r : Nat} (hr : r < 12) : U r = decide (aS (g r) ≠ 0) := by
  cases hu : U r with
  | true =>
    have := ((h r hr).1 hu).1
    rw [decide_eq_true (by omega)]
  | false =>
    obtain ⟨n, _, e⟩ := (h r hr).2 hu
    rw [e]
    rfl
theorem GK.s {U : Nat → Bool} {g : Nat → AS} (h : GK U g) {r : Nat} (hr : r < 12) : aS (g r) < 3 := by
  cases hu : U r with
  | true =>
    have := ((h r hr).1 hu).1
    omega
  | false =>
    obtain ⟨n, _, e⟩ := (h r hr).2 hu
    rw [e]
    show 0 < 3
    omega
theorem GK.ok {U : Nat → Bool} {g : Nat → AS} (h : GK U g) {r : Nat} (hr : r < 12) : sok (g r) := by
  cases hu : U r with
  | true => exact ((h r hr).1 hu).sok
  | false =>
    obtain ⟨n, hn, e⟩ := (h r hr).2 hu
    rw [e]
    exact frA_sok hn
theorem GK.p {U : Nat → Bool} {g : Nat → AS} (h : GK U g) {r : Nat} (hr : r < 12) : aP (g r) < 12 := by
  cases hu : U r with
  | true => exact ((h r hr).1 hu).2.1
  | false =>
    obtain ⟨n, hn, e⟩ := (h r hr).2 hu
    rw [e]
    show 0 < 12
    omega
theorem GK.nm {U : Nat → Bool} {g : Nat → AS} (h : GK U g) {r : Nat} (hr : r < 12) : lok (aM (g r)) := by
  cases hu : U r with
  | true => exact ⟨((h r hr).1 hu).nl, ((h r hr).1 hu).nx⟩
  | false =>
    obtain ⟨n, hn, e⟩ := (h r hr).2 hu
    rw [e]
    exact ⟨by show 0 ≤ 8; omega, fun x hx => by cases hx⟩
theorem ncmp_0 : ∀ (n : Nat) (l m : List Nat) (k : Nat), ncmp n l m k = nI 0 → ∀ i, k ≤ i → i < k + n → gd l i = gd m i
  | 0, l, m, k, h, i, h1, h2 => by omega
  | n + 1, l, m, k, h, i, h1, h2 => by
    unfold ncmp at h
    by_cases c : gd l k = gd m k
    · rw [if_pos c] at h
      by_cases e : i = k
      · rw [e]; exact c
      · exact ncmp_0 n l m (k + 1) h i (by omega) (by omega)
    · rw [if_neg c] at h
      split at h
      · exact absurd h (mI_ne 0 (by omega))
      · rw [nI_eq (by omega) (by omega)] at h
        omega
theorem ncmp_self (l : List Nat) : ∀ (n k : Nat), ncmp n l l k = nI 0
  | 0, _ => rfl
  | n + 1, k => by
    unfold ncmp
    rw [if_pos rfl]
    exact ncmp_self l n (k + 1)
theorem lok.len {l m : List Nat} (hl : lok l) (hm : lok m) (h : ∀ i, i < 8 → gd l i = gd m i) : m.length ≤ l.length := by
  refine Nat.not_lt.mp (fun q => ?_)
  have h8 := hm.1
  have e := h l.length (by omega)
  rw [gd_out (Nat.le_refl _)] at e
  have := hm.2 _ (gd_mem q)
  omega
theorem ncmp_eq {l m : List Nat} (hl : lok l) (hm : lok m) : (ncmp 8 l m 0 = nI 0) ↔ l = m := by
  refine ⟨fun h => ?_, fun h => by rw [h]; exact ncmp_self m 8 0⟩
  have h8 : ∀ i, i < 8 → gd l i = gd m i := fun i hi => ncmp_0 8 l m 0 h i (Nat.zero_le _) (by omega)
  have g1 := hl.len hm h8
  have g2 := hm.len hl (fun i hi => (h8 i hi).symm)
  have := hl.1
  exact gd_ext (by omega) (fun k hk => h8 k (by omega))
theorem hnN_fd {U : Nat → Bool} {g : Nat → AS} (h : GK U g) {r : Nat} (hr : r < 12) : ∀ (l : List Nat), (∀ e ∈ l, e < 12) → (hnN g r l = false ↔ fdN g (aM (g r)) l = mI)
  | [], _ => ⟨fun _ => rfl, fun _ => rfl⟩
  | e :: t, hx => by
    have he := hx e (List.mem_cons_self ..)
    have ih := hnN_fd h hr t (fun x hx' => hx x (List.mem_cons_of_mem _ hx'))
    unfold hnN fdN
    by_cases c : aM (g e) = aM (g r)
    · rw [if_pos c, decide_eq_true ((ncmp_eq (h.nm he) (h.nm hr)).mpr c)]
      refine ⟨fun q => (by cases q), fun q => absurd q.symm (mI_ne e (by omega))⟩
    · rw [if_neg c, decide_eq_false (fun q => c ((ncmp_eq (h.nm he) (h.nm hr)).mp q)), Bool.false_or]
      exact ih
section CV
variable {G : fx_G} {S : fx_S} {I : Nat → Nat → Int32} {Q : fx_R → fx_S → Prop}
theorem cV_requireRunning {F : fx_S → Prop} (hS : shC S) (hR : fx_roomx S) {o : Bool} (h4 : I 0 4 = bI o) (h1 : o = false → Q (.inr 1) (fx_exc (fx_wI S I))) (h2 : o = true → F (fx_wI S I)) : fx_Go G (6, 82) mm_V_requireRunning 0 [(0, fx_r G 0)] [] (fx_wI S I) (fx_qv F Q) := by
  refine bs_V_requireRunning_0 hS.w ?_
  simp only [wI_I, h4]
  exact b1 (fun q => h2 q) (fun q => ⟨hR, h1 q⟩)
theorem cV_require {F : fx_S → Prop} (hS : shC S) (hR : fx_roomx S) {o : Bool} {v0 : Int32} (h1 : o = false → Q (.inr 2) (fx_exc (fx_wI S I))) (h2 : o = true → F (fx_wI S I)) (e : v0 = bI o) : fx_Go G (6, 82) mm_V_require 0 [(0, .int v0)] [] (fx_wI S I) (fx_qv F Q) := by
  subst e
  refine bs_V_require_0 hS.w _ ?_
  exact b1 (fun q => h2 q) (fun q => ⟨hR, h1 q⟩)
theorem cV_isUsed {F : Int32 → fx_S → Prop} (hS : shC S) {U : Nat → Bool} {g : Nat → AS} (hK : GK U g) (hH : CH I g) (v1 : Int32) (hF : F (bI (isr true U v1)) (fx_wI S I)) : fx_Go G (0, 0) mm_V_isUsed 0 [(0, fx_r G 0), (1, .int v1)] [] (fx_wI S I) (fx_qi F Q) := by
  refine bs_V_isUsed_0 hS.w _ ?_
  unfold isr at hF
  simp only [wI_I]
  refine ⟨fun q => ?_, fun q => ⟨fun q2 => ?_, fun q2 => ?_⟩⟩
  · rw [decide_eq_true q] at hF
    exact hF
  · have q2' : nI 12 ≤ v1 := q2
    rw [decide_eq_false q, decide_eq_true q2'] at hF
    exact hF
  · have q2' : ¬ nI 12 ≤ v1 := q2
    rcases pk_ix v1 (n := 12) (by omega) with h | h | ⟨j, hj, e⟩
    · exact absurd h q
    · exact absurd h q2'
    · subst e
      have hs := hK.s hj
      rw [decide_eq_false q, decide_eq_false q2', nI_clamp (by omega), hK.u hj] at hF
      rw [nI_clamp (by omega), (hH j hj).1]
      refine ⟨pk_in j 12 hj rfl, ?_⟩
      refine pk_eq (aS (g j)) 0 (fun q3 => ?_) (fun q3 => ?_) rfl rfl (by omega) (by omega)
      · rw [decide_eq_false (by omega)] at hF
        exact hF
      · rw [decide_eq_true q3] at hF
        exact hF
theorem isr_t {U : Nat → Bool} {v : Int32} (h : isr true U v = true) : ∃ j, j < 12 ∧ v = nI j ∧ U j = true ∧ v.toNatClampNeg = j := by
  obtain ⟨j, hj, e, hu, _⟩ := isr_j h
  exact ⟨j, hj, e, hu, by rw [e]; exact nI_clamp (by omega)⟩
theorem cV_isFile {F : Int32 → fx_S → Prop} (hS : shC S) {U : Nat → Bool} {g : Nat → AS} (hK : GK U g) (hH : CH I g) (v1 : Int32) (hF : F (bI (isr true U v1 && decide (aS (g v1.toNatClampNeg) = 1))) (fx_wI S I)) : fx_Go G (1, 13) mm_V_isFile 0 [(0, fx_r G 0), (1, .int v1)] [] (fx_wI S I) (fx_qi F Q) := by
  refine bs_V_isFile_0 hS.w _ ?_
  refine cV_isUsed hS hK hH v1 ⟨hS, ?_⟩
  refine b0 (fun q => ?_) (fun q => ?_)
  · rw [q] at hF
    exact hF
  · obtain ⟨j, hj, e, hu, ec⟩ := isr_t q
    have hs := hK.s hj
    rw [q, ec] at hF
    simp only [wI_I]
    rw [ec, (hH j hj).1]
    refine ⟨pk_in j 12 hj e, ?_⟩
    refine ne_pair (pk_eq (aS (g j)) 1 (fun q3 => ?_) (fun q3 => ?_) rfl rfl (by omega) (by omega))
    · rw [decide_eq_true q3] at hF
      exact hF
    · rw [decide_eq_false q3] at hF
      exact hF
theorem cV_isDirectory {F : Int32 → fx_S → Prop} (hS : shC S) {U : Nat → Bool} {g : Nat → AS} (hK : GK U g) (hH : CH I g) (v1 : Int32) (hF : F (bI (isr true U v1 && decide (aS (g v1.toNatClampNeg) = 2))) (fx_wI S I)) : fx_Go G (1, 13) mm_V_isDirectory 0 [(0, fx_r G 0), (1, .int v1)] [] (fx_wI S I) (fx_qi F Q) := by
  refine bs_V_isDirectory_0 hS.w _ ?_
  refine cV_isUsed hS hK hH v1 ⟨hS, ?_⟩
  refine b0 (fun q => ?_) (fun q => ?_)
  · rw [q] at hF
    exact hF
  · obtain ⟨j, hj, e, hu, ec⟩ := isr_t q
    have hs := hK.s hj
    rw [q, ec] at hF
    simp only [wI_I]
    rw [ec, (hH j hj).1]
    refine ⟨pk_in j 12 hj e, ?_⟩
    refine ne_pair (pk_eq (aS (g j)) 2 (fun q3 => ?_) (fun q3 => ?_) rfl rfl (by omega) (by omega))
    · rw [decide_eq_true q3] at hF
      exact hF
    · rw [decide_eq_false q3] at hF
      exact hF
theorem cV_lfr2 {F : Int32 → fx_S → Prop} (hS : shC S) {U : Nat → Bool} {g : Nat → AS} (hK : GK U g) (hH : CH I g) : ∀ (n r : Nat) {v1 : Int32}, r + n = 12 → F (oI (lowF U n r)) (fx_wI S I) → v1 = nI r → fx_Go G (1, 13) mm_V_lowestFreeRecord 2 [(0, fx_r G 0), (1, .int v1)] [] (fx_wI S I) (fx_qi F Q) := by
  intro n
  induction n with
  | zero =>
    intro r v1 hr hF e1
    subst e1
    refine bs_V_lowestFreeRecord_2 hS.w _ ?_
    exact pk_le 12 r (fun _ => hF) (fun q => by omega) rfl rfl (by omega) (by omega)
  | succ n ih =>
    intro r v1 hr hF e1
    subst e1
    refine bs_V_lowestFreeRecord_2 hS.w _ ?_
    refine pk_le 12 r (fun q => by omega) (fun _ => ?_) rfl rfl (by omega) (by omega)
    refine cV_isUsed hS hK hH (nI r) ⟨hS, ?_⟩
    rw [isr_nI (by omega)]
    unfold lowF at hF
    refine b1 (fun q => ?_) (fun q => ?_)
    · rw [if_neg (by rw [Bool.true_and] at q; rw [q]; decide)] at hF
      exact ih (r + 1) (by omega) hF (by first | rfl | (simp (disch := omega) only [nI_lit, nI_ofInt1, nI_ofInt4, nI_ofInt2, nI_ofInt3, mI_neg, wI_I, wI_setI, wI_setR, forall_eq, nI_add, pk_mul, pk_sub, pk_div, pk_rem, nI_clamp, nI_leI, nI_ltI, nI_eq, vin_iff, nar0, nar1, nF_ap, bF_ap, oF_ap, bI_0, bI_1, and255, bu_w, bu_p, bu_90, bu_9, row_w, row_at, nF_up, nI_ofIntm] <;> first | done | omega | (congr 1; omega)))
    · rw [if_pos (by rw [Bool.true_and] at q; exact q)] at hF
      exact hF
theorem cV_lowestFreeRecord {F : Int32 → fx_S → Prop} (hS : shC S) {U : Nat → Bool} {g : Nat → AS} (hK : GK U g) (hH : CH I g) (hF : F (oI (lowF U 12 0)) (fx_wI S I)) : fx_Go G (1, 13) mm_V_lowestFreeRecord 0 [(0, fx_r G 0)] [] (fx_wI S I) (fx_qi F Q) := by
  refine bs_V_lowestFreeRecord_0 hS.w ?_
  exact cV_lfr2 hS hK hH 12 0 (by omega) hF rfl
theorem cV_lfc2 {F : Int32 → fx_S → Prop} (hS : shC S) {T : Nat → Bool} (hT : CT I T) : ∀ (n c : Nat) {v2 : Int32}, c + n = 128 → F (oI (lowF T n c)) (fx_wI S I) → v2 = nI c → fx_Go G (0, 0) mm_V_lowestFreeCluster 2 [(0, fx_r G 0), (2, .int v2)] [] (fx_wI S I) (fx_qi F Q) := by
  intro n
  induction n with
  | zero =>
    intro c v2 hc hF e2
    subst e2
    refine bs_V_lowestFreeCluster_2 hS.w _ ?_
    exact pk_le 128 c (fun _ => hF) (fun q => by omega) rfl rfl (by omega) (by omega)
  | succ n ih =>
    intro c v2 hc hF e2
    subst e2
    refine bs_V_lowestFreeCluster_2 hS.w _ ?_
    refine pk_le 128 c (fun q => by omega) (fun _ => ?_) rfl rfl (by omega) (by omega)
    simp only [wI_I]
    rw [nI_clamp (by omega), hT c (by omega)]
    refine ⟨pk_in c 128 (by omega) rfl, ?_⟩
    unfold lowF at hF
    refine b1 (fun q => ?_) (fun q => ?_)
    · rw [if_neg (by rw [q]; decide)] at hF
      exact ih (c + 1) (by omega) hF (by first | rfl | (simp (disch := omega) only [nI_lit, nI_ofInt1, nI_ofInt4, nI_ofInt2, nI_ofInt3, mI_neg, wI_I, wI_setI, wI_setR, forall_eq, nI_add, pk_mul, pk_sub, pk_div, pk_rem, nI_clamp, nI_leI, nI_ltI, nI_eq, vin_iff, nar0, nar1, nF_ap, bF_ap, oF_ap, bI_0, bI_1, and255, bu_w, bu_p, bu_90, bu_9, row_w, row_at, nF_up, nI_ofIntm] <;> first | done | omega | (congr 1; omega)))
    · rw [if_pos q] at hF
      exact hF
theorem cV_lowestFreeCluster {F : Int32 → fx_S → Prop} (hS : shC S) {T : Nat → Bool} (hT : CT I T) (c : Nat) (hc : c ≤ 128) {v1 : Int32} (hF : F (oI (lowF T (128 - c) c)) (fx_wI S I)) (e1 : v1 = nI c) : fx_Go G (0, 0) mm_V_lowestFreeCluster 0 [(0, fx_r G 0), (1, .int v1)] [] (fx_wI S I) (fx_qi F Q) := by
  refine bs_V_lowestFreeCluster_0 hS.w _ ?_
  exact cV_lfc2 hS hT (128 - c) c (by omega) hF e1
theorem cV_free14 {F : Int32 → fx_S → Prop} (hS : shC S) {T : Nat → Bool} (hT : CT I T) : ∀ (n c r : Nat) {v1 v2 : Int32}, c + n = 128 → r + n < 1000 → F (nI (r + frcF T n c)) (fx_wI S I) → v1 = nI r → v2 = nI c → fx_Go G (0, 0) mm_V_free 14 [(0, fx_r G 0), (1, .int v1), (2, .int v2)] [] (fx_wI S I) (fx_qi F Q) := by
  intro n
  induction n with
  | zero =>
    intro c r v1 v2 hc hr hF e1 e2
    subst e1 e2
    refine bs_V_free_14 hS.w _ _ ?_
    exact pk_le 128 c (fun _ => hF) (fun q => by omega) rfl rfl (by omega) (by omega)
  | succ n ih =>
    intro c r v1 v2 hc hr hF e1 e2
    subst e1 e2
    refine bs_V_free_14 hS.w _ _ ?_
    refine pk_le 128 c (fun q => by omega) (fun _ => ?_) rfl rfl (by omega) (by omega)
    simp only [wI_I]
    rw [nI_clamp (by omega), hT c (by omega)]
    refine ⟨pk_in c 128 (by omega) rfl, ?_⟩
    unfold frcF at hF
    refine b1 (fun q => ?_) (fun q => ?_)
    · rw [if_neg (by rw [q]; decide), Nat.zero_add] at hF
      exact ih (c + 1) r (by omega) (by omega) hF rfl (by first | rfl | (simp (disch := omega) only [nI_lit, nI_ofInt1, nI_ofInt4, nI_ofInt2, nI_ofInt3, mI_neg, wI_I, wI_setI, wI_setR, forall_eq, nI_add, pk_mul, pk_sub, pk_div, pk_rem, nI_clamp, nI_leI, nI_ltI, nI_eq, vin_iff, nar0, nar1, nF_ap, bF_ap, oF_ap, bI_0, bI_1, and255, bu_w, bu_p, bu_90, bu_9, row_w, row_at, nF_up, nI_ofIntm] <;> first | done | omega | (congr 1; omega)))
    · rw [if_pos q, ← Nat.add_assoc] at hF
      exact ih (c + 1) (r + 1) (by omega) (by omega) hF (by first | rfl | (simp (disch := omega) only [nI_lit, nI_ofInt1, nI_ofInt4, nI_ofInt2, nI_ofInt3, mI_neg, wI_I, wI_setI, wI_setR, forall_eq, nI_add, pk_mul, pk_sub, pk_div, pk_rem, nI_clamp, nI_leI, nI_ltI, nI_eq, vin_iff, nar0, nar1, nF_ap, bF_ap, oF_ap, bI_0, bI_1, and255, bu_w, bu_p, bu_90, bu_9, row_w, row_at, nF_up, nI_ofIntm] <;> first | done | omega | (congr 1; omega))) (by first | rfl | (simp (disch := omega) only [nI_lit, nI_ofInt1, nI_ofInt4, nI_ofInt2, nI_ofInt3, mI_neg, wI_I, wI_setI, wI_setR, forall_eq, nI_add, pk_mul, pk_sub, pk_div, pk_rem, nI_clamp, nI_leI, nI_ltI, nI_eq, vin_iff, nar0, nar1, nF_ap, bF_ap, oF_ap, bI_0, bI_1, and255, bu_w, bu_p, bu_90, bu_9, row_w, row_at, nF_up, nI_ofIntm] <;> first | done | omega | (congr 1; omega)))
def cBl (U : Nat → Bool) (g : Nat → AS) (top : Nat) : Nat → Nat → Bool
  | 0, _ => false
  | n + 1, k => if U k = true then (if k = top then true else cBl U g top n (aP (g k))) else false
theorem cV_iab5 {F : Int32 → fx_S → Prop} (hS : shC S) {U : Nat → Bool} {g : Nat → AS} (hK : GK U g) (hH : CH I g) (top : Nat) (htop : top < 12) : ∀ (n k s : Nat) {v2 v3 v4 : Int32}, s + n = 12 → k < 12 → F (bI (cBl U g top n k)) (fx_wI S I) → v2 = nI top → v3 = nI k → v4 = nI s →
    fx_Go G (1, 13) mm_V_isAtOrBelow 5 [(0, fx_r G 0), (2, .int v2), (3, .int v3), (4, .int v4)] [] (fx_wI S I) (fx_qi F Q) := by
  intro n
  induction n with
  | zero =>
    intro k s v2 v3 v4 hs hk hF e2 e3 e4
    subst e2 e3 e4
    refine bs_V_isAtOrBelow_5 hS.w _ _ _ ?_
    exact pk_le 12 s (fun _ => hF) (fun q => by omega) rfl rfl (by omega) (by omega)
  | succ n ih =>
    intro k s v2 v3 v4 hs hk hF e2 e3 e4
    subst e2 e3 e4
    refine bs_V_isAtOrBelow_5 hS.w _ _ _ ?_
    refine pk_le 12 s (fun q => by omega) (fun _ => ?_) rfl rfl (by omega) (by omega)
    refine cV_isUsed hS hK hH (nI k) ⟨hS, ?_⟩
    rw [isr_nI hk, Bool.true_and]
    unfold cBl at hF
    refine b0 (fun q => ?_) (fun q => ?_)
    · rw [if_neg (by rw [q]; decide)] at hF
      exact hF
    · rw [if_pos q] at hF
      simp only [wI_I]
      refine ne_pair (pk_eq k top (fun q2 => ?_) (fun q2 => ?_) rfl rfl (by omega) (by omega))
      · rw [if_pos q2] at hF
        exact hF
      · rw [if_neg q2] at hF
        rw [nI_clamp (by omega)]
        exact ⟨pk_in k 12 hk rfl, ih (aP (g k)) (s + 1) (by omega) (hK.p hk) hF rfl (hH k hk).2.1 (by first | rfl | (simp (disch := omega) only [nI_lit, nI_ofInt1, nI_ofInt4, nI_ofInt2, nI_ofInt3, mI_neg, wI_I, wI_setI, wI_setR, forall_eq, nI_add, pk_mul, pk_sub, pk_div, pk_rem, nI_clamp, nI_leI, nI_ltI, nI_eq, vin_iff, nar0, nar1, nF_ap, bF_ap, oF_ap, bI_0, bI_1, and255, bu_w, bu_p, bu_90, bu_9, row_w, row_at, nF_up, nI_ofIntm] <;> first | done | omega | (congr 1; omega)))⟩
theorem cBl_0 {U : Nat → Bool} {g : Nat → AS} (h0 : aP (g 0) = 0) {top : Nat} (ht : top ≠ 0) : ∀ n, cBl U g top n 0 = false
  | 0 => rfl
  | n + 1 => by
    unfold cBl
    rw [if_neg (Ne.symm ht), h0, cBl_0 h0 ht n]
    split <;> rfl
theorem cBl_isB {U : Nat → Bool} {g : Nat → AS} (h0 : aP (g 0) = 0) {top : Nat} (ht : top ≠ 0) : ∀ (n k : Nat), ldN U g n k → cBl U g top n k = isB g top n k
  | 0, k, h => by
    unfold ldN at h
    subst h
    unfold cBl isB
    rw [decide_eq_false (Ne.symm ht)]
  | n + 1, k, h => by
    by_cases hk : k = 0
    · subst hk
      rw [cBl_0 h0 ht]
      unfold isB
      rw [if_neg (Ne.symm ht), if_pos rfl]
    · unfold ldN at h
      rcases h with h | ⟨h1, h2, h3⟩
      · exact absurd h hk
      · unfold cBl isB
        rw [if_pos h2, if_neg hk, cBl_isB h0 ht n _ h3]
theorem cV_isAtOrBelow {F : Int32 → fx_S → Prop} (hS : shC S) {U : Nat → Bool} {g : Nat → AS} (hK : GK U g) (hH : CH I g) (h0 : aP (g 0) = 0) (k top : Nat) (hk : k < 12) (htop : top < 12) (ht0 : top ≠ 0) (hl : ldN U g 12 k) {v1 v2 : Int32} (hF : F (bI (isB g top 12 k)) (fx_wI S I)) (e1 : v1 = nI k) (e2 : v2 = nI top) :
    fx_Go G (1, 13) mm_V_isAtOrBelow 0 [(0, fx_r G 0), (1, .int v1), (2, .int v2)] [] (fx_wI S I) (fx_qi F Q) := by
  refine bs_V_isAtOrBelow_0 hS.w _ _ ?_
  refine cV_iab5 hS hK hH top htop 12 k 0 (by omega) hk ?_ e2 e1 rfl
  rw [cBl_isB h0 ht0 12 k hl]
  exact hF
theorem cV_en10 {F : Int32 → fx_S → Prop} (hS : shC S) {U : Nat → Bool} {g : Nat → AS} (hK : GK U g) (hH : CH I g) (a : Nat) (ha : isN a) {nm : List Nat} (hN : NmP I a nm) (hn : lok nm) (d : Nat) (hd : d < 12) {l : List Nat} (h4 : I (4 + 6 * d) 4 = nI l.length) (hr : rowL I (4 + 6 * d + 3) l) (hl : l.length ≤ 54) (hx : ∀ e ∈ l, e < 12) : ∀ (n k : Nat) {v4 : Int32}, k + n = l.length → F (fdN g nm (l.drop k)) (fx_wI S I) → v4 = nI k →
    fx_Go G (2, 28) mm_V_entryNamed 10 [(0, fx_r G 0), (2, fx_r G a), (3, fx_r G (4 + 6 * d)), (4, .int v4)] [] (fx_wI S I) (fx_qi F Q) := by
  intro n
  induction n with
  | zero =>
    intro k v4 hk hF e4
    subst e4
    refine bs_V_entryNamed_10 hS.w a (4 + 6 * d) _ ha (isH_at d hd) ?_
    simp only [wI_I, h4]
    rw [List.drop_eq_nil_of_le (by omega)] at hF
    exact pk_le l.length k (fun _ => hF) (fun q => by omega) rfl rfl (by omega) (by omega)
  | succ n ih =>
    intro k v4 hk hF e4
    subst e4
    have he := hx (gd l k) (gd_mem (by omega))
    refine bs_V_entryNamed_10 hS.w a (4 + 6 * d) _ ha (isH_at d hd) ?_
    simp only [wI_I, h4]
    refine pk_le l.length k (fun q => by omega) (fun _ => ?_) rfl rfl (by omega) (by omega)
    rw [nI_clamp (n := k) (by omega), hr k (by omega), nI_clamp (by omega)]
    refine ⟨pk_in k 54 (by omega) rfl, pk_in _ 12 he rfl, ?_⟩
    rw [drop_gd l k (by omega)] at hF
    unfold fdN at hF
    refine cN_compare hS (4 + 6 * gd l k + 1) a (isH_at _ he).n ha (hK.nm he) hn (hH _ he).2.2.2.2.2.1 hN (fun x x1 x2 => ⟨hS, fun q => ?_, fun q => ?_⟩)
    · rw [if_neg (fun q2 => q (x2.mpr ((ncmp_eq (hK.nm he) hn).mpr q2)))] at hF
      exact ih (k + 1) (by omega) hF (by first | rfl | (simp (disch := omega) only [nI_lit, nI_ofInt1, nI_ofInt4, nI_ofInt2, nI_ofInt3, mI_neg, wI_I, wI_setI, wI_setR, forall_eq, nI_add, pk_mul, pk_sub, pk_div, pk_rem, nI_clamp, nI_leI, nI_ltI, nI_eq, vin_iff, nar0, nar1, nF_ap, bF_ap, oF_ap, bI_0, bI_1, and255, bu_w, bu_p, bu_90, bu_9, row_w, row_at, nF_up, nI_ofIntm] <;> first | done | omega | (congr 1; omega)))
    · rw [if_pos ((ncmp_eq (hK.nm he) hn).mp (x2.mp q))] at hF
      rw [wI_I, hr k (by omega)]
      exact ⟨pk_in k 54 (by omega) rfl, hF⟩
theorem cV_entryNamed {F : Int32 → fx_S → Prop} (hS : shC S) {U : Nat → Bool} {g : Nat → AS} (hK : GK U g) (hH : CH I g) (a : Nat) (ha : isN a) {nm : List Nat} (hN : NmP I a nm) (hn : lok nm) (d : Nat) (hd : d < 12) (hu : U d = true) (h2 : aS (g d) = 2) {v1 : Int32} (hF : F (fdN g nm (aH (g d))) (fx_wI S I)) (e1 : v1 = nI d) :
    fx_Go G (2, 28) mm_V_entryNamed 0 [(0, fx_r G 0), (1, .int v1), (2, fx_r G a)] [] (fx_wI S I) (fx_qi F Q) := by
  subst e1
  have hw := (hK d hd).1 hu
  have h4 := hw.k4 h2
  have hl := hw.hl (by omega)
  have ez : sz (g d) = (aH (g d)).length := by unfold sz; rw [if_neg (by omega)]
  refine bs_V_entryNamed_0 hS.w _ a ha ?_
  rw [nI_clamp (by omega)]
  exact ⟨pk_in d 12 hd rfl, cV_en10 hS hK hH a ha hN hn d hd (by rw [(hH d hd).2.2.2.2.1, ez]) (hH d hd).2.2.2.2.2.2.1 (by omega) (hw.2.2.2.2.2.2.2.1 h4) (aH (g d)).length 0 (by omega) hF rfl⟩
theorem cV_in11 {F : Int32 → fx_S → Prop} (hS : shC S) {U : Nat → Bool} {g : Nat → AS} (hK : GK U g) (v nv : Nat) (hv : isA v nv) (hnv : 12 ≤ nv ∧ nv < 100) (hvn : ∀ e, e < 12 → v ≠ 4 + 6 * e + 1 ∧ v ≠ 4 + 6 * e + 2) (r : Nat) (hr : r < 12) (ml : List Nat) (hml : ml.length < 12) (hx : ∀ e ∈ ml, e < 12) :
    ∀ (k : Nat) (I : Nat → Nat → Int32) {v2 v3 v4 : Int32}, (∀ e, e < 12 → NmP I (4 + 6 * e + 1) (aM (g e))) → k ≤ ml.length → (∀ j, j < k → I v j = nI (gd ml j)) → (∀ j, k < j → j ≤ ml.length → I v j = nI (gd ml (j - 1))) →
    (∀ I', FC [v] I I' → rowL I' v (insA ml (ipos (gtN g r) ml k) r) → F (nI (ml.length + 1)) (fx_wI S I')) → v2 = nI ml.length → v3 = nI r → v4 = nI k →
    fx_Go G (2, 28) mm_V_insertByName 11 [(0, fx_r G 0), (1, fx_r G v), (2, .int v2), (3, .int v3), (4, .int v4)] [] (fx_wI S I) (fx_qi F Q) := by
  intro k
  have fin : ∀ (k : Nat) (I : Nat → Nat → Int32), k ≤ ml.length → (∀ j, j < k → I v j = nI (gd ml j)) → (∀ j, k < j → j ≤ ml.length → I v j = nI (gd ml (j - 1))) →
      (∀ I', FC [v] I I' → rowL I' v (insA ml k r) → F (nI (ml.length + 1)) (fx_wI S I')) → F (nI ml.length + 1) (fx_wI S (fx_w I v k (nI r))) := by
    intro k I hk h1 h2 h
    rw [nI_1]
    refine h _ (FC.w [v] I v _ _ (by simp <;> omega)) ?_
    intro j hj
    rw [insA_len _ _ _ hk] at hj
    rw [gd_insA _ _ _ _ hk]
    by_cases c1 : j < k
    · rw [if_pos c1, fw_nj (by omega)]; exact h1 j c1
    · by_cases c2 : j = k
      · subst c2; rw [if_neg c1, if_pos rfl, fw_at]
      · rw [if_neg c1, if_neg c2, fw_nj c2]; exact h2 j (by omega) (by omega)
  induction k with
  | zero =>
    intro I v2 v3 v4 hN hk h1 h2 h e2 e3 e4
    subst e2 e3 e4
    have := fin 0 I hk h1 h2 h
    refine bs_V_insertByName_11 hS.w v _ _ _ hv ?_
    refine ⟨fun _ => ?_, fun q => absurd (by decide) q⟩
    simp only [wI_setI, forall_eq]
    exact ⟨pk_in 0 nv (by omega) rfl (by omega), this⟩
  | succ k ih =>
    intro I v2 v3 v4 hN hk h1 h2 h e2 e3 e4
    subst e2 e3 e4
    have he := hx (gd ml k) (gd_mem (by omega))
    refine bs_V_insertByName_11 hS.w v _ _ _ hv ?_
    have e5 : nI (k + 1) - 1 = nI k := nI_pred k
    refine pk_le (k + 1) 0 (fun q => by omega) (fun _ => ?_) rfl rfl (by omega) (by omega)
    simp only [wI_I, wI_setI, forall_eq]
    rw [e5, nI_clamp (n := k) (by omega), h1 k (by omega), nI_clamp (n := gd ml k) (by omega), nI_clamp (n := r) (by omega), nI_clamp (n := k + 1) (by omega)]
    refine ⟨pk_in k nv (by omega) rfl (by omega), pk_in _ 12 he rfl, pk_in r 12 hr rfl, ?_⟩
    unfold ipos at h
    refine cN_compare hS (4 + 6 * gd ml k + 1) (4 + 6 * r + 1) (isH_at _ he).n (isH_at _ hr).n (hK.nm he) (hK.nm hr) (hN _ he) (hN _ hr) (fun x x1 x2 => ⟨hS, fun q => ?_, fun q => ?_⟩)
    · have hg : ¬ gtN g r (gd ml k) = true := by unfold gtN; simp; exact x1.mp q
      rw [if_neg hg] at h
      exact ⟨pk_in (k + 1) nv (by omega) rfl (by omega), fin (k + 1) I hk h1 h2 h⟩
    · have hg : gtN g r (gd ml k) = true := by
        unfold gtN
        simp only [Bool.not_eq_true', decide_eq_false_iff_not]
        exact fun q2 => q (x1.mpr q2)
      rw [if_pos hg] at h
      refine ⟨pk_in k nv (by omega) rfl (by omega), pk_in (k + 1) nv (by omega) rfl (by omega), ?_⟩
      simp only [wI_I, wI_setI, forall_eq]
      rw [h1 k (by omega)]
      refine ih _ (fun e he' => (hN e he').fc (FC.w [v] I v _ _ (by simp <;> omega)) ?_ ?_) (by omega) (fun j hj => ?_) (fun j hj hj2 => ?_) (fun I' hF => h I' ?_) rfl rfl (pk_m1 k)
      · have := (hvn e he').1
        simp; omega
      · have := (hvn e he').2
        simp; omega
      · rw [fw_nj (by omega)]; exact h1 j (by omega)
      · by_cases c : j = k + 1
        · subst c; rw [fw_at]; rfl
        · rw [fw_nj c]; exact h2 j (by omega) hj2
      · exact (FC.w [v] I v _ _ (by simp <;> omega)).tr hF
theorem cV_insertByName {F : Int32 → fx_S → Prop} (hS : shC S) {U : Nat → Bool} {g : Nat → AS} (hK : GK U g) (hN : ∀ e, e < 12 → NmP I (4 + 6 * e + 1) (aM (g e))) (v nv : Nat) (hv : isA v nv) (hnv : 12 ≤ nv ∧ nv < 100) (hvn : ∀ e, e < 12 → v ≠ 4 + 6 * e + 1 ∧ v ≠ 4 + 6 * e + 2) (r : Nat) (hr : r < 12) (ml : List Nat) (hml : ml.length < 12) (hx : ∀ e ∈ ml, e < 12) (hrow : rowL I v ml) {v2 v3 : Int32}
    (h : ∀ I', FC [v] I I' → rowL I' v (insA ml (ipos (gtN g r) ml ml.length) r) → F (nI (ml.length + 1)) (fx_wI S I')) (e2 : v2 = nI ml.length) (e3 : v3 = nI r) :
    fx_Go G (2, 28) mm_V_insertByName 0 [(0, fx_r G 0), (1, fx_r G v), (2, .int v2), (3, .int v3)] [] (fx_wI S I) (fx_qi F Q) := by
  refine bs_V_insertByName_0 hS.w v _ _ hv ?_
  refine pk_lt ml.length 12 (fun _ => ?_) (fun q => by omega) e2 rfl (by omega) (by omega)
  exact cV_in11 hS hK v nv hv hnv hvn r hr ml hml hx ml.length I hN (Nat.le_refl _) hrow (fun j h1 h2 => by omega) h e2 e3 e2
theorem cV_enter {F : fx_S → Prop} (hS : shC S) {U : Nat → Bool} {g : Nat → AS} (hK : GK U g) (hH : CH I g) (d r : Nat) (hd : d < 12) (hu : U d = true) (h2 : aS (g d) = 2) (hr : r < 12) (hl : (aH (g d)).length < 12) {v1 v2 : Int32} {t : AS} (ht : t = setN (sLi (g d) (insA (aH (g d)) (ipos (gtN g r) (aH (g d)) (aH (g d)).length) r)) (aN (g d)))
    (hF : ∀ I', FC [4 + 6 * d, 4 + 6 * d + 3] I I' → CH I' (up g d t) → F (fx_wI S I')) (e1 : v1 = nI d) (e2 : v2 = nI r) : fx_Go G (3, 45) mm_V_enter 0 [(0, fx_r G 0), (1, .int v1), (2, .int v2)] [] (fx_wI S I) (fx_qv F Q) := by
  subst e1 e2
  have hw := (hK d hd).1 hu
  have h4 := hw.k4 h2
  have ez : sz (g d) = (aH (g d)).length := by unfold sz; rw [if_neg (by omega)]
  have hP := hH d hd
  refine bs_V_enter_0 hS.w _ _ ?_
  simp only [wI_I]
  rw [nI_clamp (by omega), hP.2.2.2.2.1, ez]
  refine ⟨pk_in d 12 hd rfl, ?_⟩
  refine cV_insertByName hS hK (fun e he => (hH e he).2.2.2.2.2.1) (4 + 6 * d + 3) 54 (isH_at d hd).h (by omega) (fun e he => by omega) r hr (aH (g d)) hl (hw.2.2.2.2.2.2.2.1 h4) hP.2.2.2.2.2.2.1 (fun I1 hF1 hr1 => ⟨hS, ?_⟩) rfl rfl
  simp only [wI_setI, forall_eq]
  have hF2 : FC [4 + 6 * d, 4 + 6 * d + 3] I (fx_w I1 (4 + 6 * d) 4 (nI ((aH (g d)).length + 1))) := (hF1.mono (fun a ha => by simp at ha ⊢ <;> omega)).tr (FC.w [4 + 6 * d, 4 + 6 * d + 3] _ _ _ _ (by simp <;> omega))
  refine hF _ hF2 (fun x hx => ?_)
  unfold up
  by_cases e : x = d
  · subst e
    rw [if_pos rfl, ht]
    refine hP.li h2 h4 (hw.2.2.2.2.2.2.2.2.1 (by omega)) hF2 (fun j hj => ?_) ?_ (hr1.cg (fw_ne (by omega)))
    · rw [fw_nj hj, hF1 _ (by simp <;> omega)]
    · rw [fw_at, insA_len _ _ _ (ipos_le _ _ _)]
  · rw [if_neg e]
    exact (hH x hx).fc hF2 (fun a a1 a2 => by simp <;> omega)
theorem fil_take (p : Nat → Bool) (l : List Nat) (k : Nat) (h : k < l.length) : (l.take (k + 1)).filter p = (l.take k).filter p ++ (if p (gd l k) = true then [gd l k] else []) := by
  have e : l.take (k + 1) = l.take k ++ [gd l k] := by
    rw [List.take_add_one]
    congr 1
    unfold gd
    rw [List.getD_eq_getElem?_getD, List.getElem?_eq_getElem h]
    rfl
  rw [e, List.filter_append]
  congr 1
  simp only [List.filter_cons, List.filter_nil]
theorem fil_le (p : Nat → Bool) (l : List Nat) (k : Nat) : ((l.take k).filter p).length ≤ k := by
  have h1 := List.length_filter_le p (l.take k)
  have h2 := List.length_take_le k l
  omega
theorem cV_lv13 {F : fx_S → Prop} (hS : shC S) (h : Nat) (hh : isH h) (l : List Nat) (hl : l.length ≤ 54) (hx : ∀ e ∈ l, e < 256) (r : Nat) (hr : r < 12) : ∀ (n k : Nat) (I : Nat → Nat → Int32) {v2 v4 v5 : Int32}, k + n = l.length → I h 4 = nI l.length → (∀ j, j < ((l.take k).filter (kp (nI r))).length → I (h + 3) j = nI (gd ((l.take k).filter (kp (nI r))) j)) → (∀ j, k ≤ j → j < l.length → I (h + 3) j = nI (gd l j)) →
    (∀ I', FC [h, h + 3] I I' → (∀ j, j ≠ 4 → I' h j = I h j) → I' h 4 = nI (l.filter (kp (nI r))).length → rowL I' (h + 3) (l.filter (kp (nI r))) → F (fx_wI S I')) → v2 = nI r → v4 = nI ((l.take k).filter (kp (nI r))).length → v5 = nI k →
    fx_Go G (0, 0) mm_V_leave 13 [(2, .int v2), (3, fx_r G h), (4, .int v4), (5, .int v5)] [] (fx_wI S I) (fx_qv F Q) := by
  intro n
  induction n with
  | zero =>
    intro k I v2 v4 v5 hk h4 h1 h2 hF e2 e4 e5
    subst e2 e4 e5
    refine bs_V_leave_13 hS.w _ h _ _ hh ?_
    simp only [wI_I, wI_setI, forall_eq, h4]
    refine pk_le l.length k (fun _ => ?_) (fun q => by omega) rfl rfl (by omega) (by omega)
    have et : l.take k = l := List.take_of_length_le (by omega)
    rw [et] at h1 ⊢
    refine hF _ (FC.w [h, h + 3] I h _ _ (by simp <;> omega)) (fun j hj => fw_nj hj) (fw_at _ _ _ _) (fun j hj => ?_)
    rw [fw_ne (by omega)]
    exact h1 j hj
  | succ n ih =>
    intro k I v2 v4 v5 hk h4 h1 h2 hF e2 e4 e5
    subst e2 e4 e5
    have hgk : gd l k < 256 := gd_lt (by omega) hx k
    have hfl := fil_le (kp (nI r)) l k
    have hft := fil_take (kp (nI r)) l k (by omega)
    refine bs_V_leave_13 hS.w _ h _ _ hh ?_
    simp only [wI_I, wI_setI, forall_eq, h4]
    refine pk_le l.length k (fun q => by omega) (fun _ => ?_) rfl rfl (by omega) (by omega)
    rw [nI_clamp (n := k) (by omega), h2 k (Nat.le_refl _) (by omega)]
    refine ⟨pk_in k 54 (by omega) rfl, ?_⟩
    have hkp : kp (nI r) (gd l k) = !decide (nI (gd l k) = nI r) := rfl
    refine pk_eq (gd l k) r (fun q => ?_) (fun q => ?_) rfl rfl (by omega) (by omega)
    · rw [hkp, decide_eq_true (by rw [q]), if_neg (by decide), List.append_nil] at hft
      refine ih (k + 1) I (by omega) h4 (by rw [hft]; exact h1) (fun j j1 j2 => h2 j (by omega) j2) hF rfl (by rw [hft]) (by first | rfl | (simp (disch := omega) only [nI_lit, nI_ofInt1, nI_ofInt4, nI_ofInt2, nI_ofInt3, mI_neg, wI_I, wI_setI, wI_setR, forall_eq, nI_add, pk_mul, pk_sub, pk_div, pk_rem, nI_clamp, nI_leI, nI_ltI, nI_eq, vin_iff, nar0, nar1, nF_ap, bF_ap, oF_ap, bI_0, bI_1, and255, bu_w, bu_p, bu_90, bu_9, row_w, row_at, nF_up, nI_ofIntm] <;> first | done | omega | (congr 1; omega)))
    · rw [hkp, decide_eq_false (by rw [nI_eq (by omega) (by omega)]; exact q), if_pos (by rfl)] at hft
      rw [nI_clamp (by omega)]
      refine ⟨pk_in k 54 (by omega) rfl, pk_in _ 54 (by omega) rfl, ?_⟩
      have hw : FC [h + 3] I (fx_w I (h + 3) ((l.take k).filter (kp (nI r))).length (nI (gd l k))) := FC.w [h + 3] I _ _ _ (by simp <;> omega)
      refine ih (k + 1) _ (by omega) (by rw [hw h (by simp <;> omega)]; exact h4) (fun j hj => ?_) (fun j j1 j2 => ?_) (fun I' hF' e' e4 er => hF I' ((hw.mono (fun a ha => by simp at ha ⊢ <;> omega)).tr hF') (fun j hj => by rw [e' j hj, hw h (by simp <;> omega)]) e4 er) rfl ?_ (by first | rfl | (simp (disch := omega) only [nI_lit, nI_ofInt1, nI_ofInt4, nI_ofInt2, nI_ofInt3, mI_neg, wI_I, wI_setI, wI_setR, forall_eq, nI_add, pk_mul, pk_sub, pk_div, pk_rem, nI_clamp, nI_leI, nI_ltI, nI_eq, vin_iff, nar0, nar1, nF_ap, bF_ap, oF_ap, bI_0, bI_1, and255, bu_w, bu_p, bu_90, bu_9, row_w, row_at, nF_up, nI_ofIntm] <;> first | done | omega | (congr 1; omega)))
      · rw [hft] at hj ⊢
        rw [gd_snoc]
        by_cases c : j = ((l.take k).filter (kp (nI r))).length
        · rw [if_pos c, c, fw_at]
        · rw [if_neg c, fw_nj c]
          simp only [List.length_append, List.length_cons, List.length_nil] at hj
          exact h1 j (by omega)
      · rw [fw_nj (by omega)]
        exact h2 j (by omega) j2
      · rw [hft, List.length_append]
        exact nI_1 _
theorem cV_leave {F : fx_S → Prop} (hS : shC S) {g : Nat → AS} (hH : CH I g) (d r : Nat) (hd : d < 12) (hw : wf (g d)) (h2 : aS (g d) = 2) (hr : r < 12) {v1 v2 : Int32} {t : AS} (ht : t = setN (sLi (g d) ((aH (g d)).filter (kp (nI r)))) (aN (g d)))
    (hF : ∀ I', FC [4 + 6 * d, 4 + 6 * d + 3] I I' → CH I' (up g d t) → F (fx_wI S I')) (e1 : v1 = nI d) (e2 : v2 = nI r) : fx_Go G (0, 0) mm_V_leave 0 [(0, fx_r G 0), (1, .int v1), (2, .int v2)] [] (fx_wI S I) (fx_qv F Q) := by
  subst e1 e2
  have h4 := hw.k4 h2
  have ez : sz (g d) = (aH (g d)).length := by unfold sz; rw [if_neg (by omega)]
  have hP := hH d hd
  have hl := hw.hl (by omega)
  refine bs_V_leave_0 hS.w _ _ ?_
  rw [nI_clamp (by omega)]
  refine ⟨pk_in d 12 hd rfl, ?_⟩
  refine cV_lv13 hS (4 + 6 * d) (isH_at d hd) (aH (g d)) (by omega) hw.hb r hr (aH (g d)).length 0 I (by omega) (by rw [hP.2.2.2.2.1, ez]) (fun j hj => by simp at hj) (fun j _ j2 => hP.2.2.2.2.2.2.1 j j2) (fun I' hF' e e4 er => hF I' hF' (fun x hx => ?_)) rfl rfl rfl
  unfold up
  by_cases c : x = d
  · subst c
    rw [if_pos rfl, ht]
    exact hP.li h2 h4 (hw.2.2.2.2.2.2.2.2.1 (by omega)) hF' e e4 er
  · rw [if_neg c]
    exact (hH x hx).fc hF' (fun a a1 a2 => by simp <;> omega)
end CV
