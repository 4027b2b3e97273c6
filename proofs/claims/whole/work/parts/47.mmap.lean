/-! The reference's maps of clusters. -/
def go (l : List (Option Nat)) (i : Nat) : Option Nat := l.getD i none
theorem go_0 (a : Option Nat) (l : List (Option Nat)) : go (a :: l) 0 = a := rfl
theorem go_s (a : Option Nat) (l : List (Option Nat)) (i : Nat) : go (a :: l) (i + 1) = go l i := rfl
theorem go_l {l m : List (Option Nat)} {i : Nat} (h : i < l.length) : go (l ++ m) i = go l i := by
  unfold go
  rw [List.getD_eq_getElem?_getD, List.getD_eq_getElem?_getD, List.getElem?_append_left h]
theorem go_r {l m : List (Option Nat)} {i : Nat} (h : l.length ≤ i) : go (l ++ m) i = go m (i - l.length) := by
  unfold go
  rw [List.getD_eq_getElem?_getD, List.getD_eq_getElem?_getD, List.getElem?_append_right h]
theorem go_out {l : List (Option Nat)} {i : Nat} (h : l.length ≤ i) : go l i = none := by
  unfold go
  rw [List.getD_eq_getElem?_getD, List.getElem?_eq_none h]
  rfl
theorem go_mem {l : List (Option Nat)} {i : Nat} (h : i < l.length) : go l i ∈ l := by
  unfold go
  rw [List.getD_eq_getElem?_getD, List.getElem?_eq_getElem h]
  exact List.getElem_mem h
theorem go_drop (l : List (Option Nat)) (k i : Nat) : go (l.drop k) i = go l (k + i) := by
  unfold go
  rw [List.getD_eq_getElem?_getD, List.getD_eq_getElem?_getD, List.getElem?_drop]
theorem go_take (l : List (Option Nat)) (k i : Nat) (h : i < k) : go (l.take k) i = go l i := by
  unfold go
  rw [List.getD_eq_getElem?_getD, List.getD_eq_getElem?_getD, List.getElem?_take, if_pos h]
theorem dropO (l : List (Option Nat)) (k : Nat) (h : k < l.length) : l.drop k = go l k :: l.drop (k + 1) := by
  rw [List.drop_eq_getElem_cons h]
  unfold go
  rw [List.getD_eq_getElem?_getD, List.getElem?_eq_getElem h]
  rfl
def rowO (I : Nat → Nat → Int32) (a : Nat) (l : List (Option Nat)) : Prop := ∀ k, k < l.length → I a k = oI (go l k)
theorem rowO.cg {I I' : Nat → Nat → Int32} {a : Nat} {l : List (Option Nat)} (h : rowO I a l) (e : I' a = I a) : rowO I' a l := by
  intro k hk
  rw [e]
  exact h k hk
theorem oI_ge {o : Option Nat} (h : ∀ c, o = some c → c < 2 ^ 31) : (nI 0 ≤ oI o) ↔ o ≠ none := by
  cases o with
  | none => exact ⟨fun q => absurd q mI_n0, fun q => absurd rfl q⟩
  | some c => exact ⟨fun _ q => (by cases q), fun _ => nI_le (Nat.zero_le _) (h c rfl)⟩
theorem oI_lt {o : Option Nat} (h : ∀ c, o = some c → c < 2 ^ 31) : (oI o < nI 0) ↔ o = none := by
  cases o with
  | none => exact ⟨fun _ => rfl, fun _ => mI_l0⟩
  | some c => exact ⟨fun q => absurd q (nI_pos (h c rfl)), fun q => by cases q⟩
/-- the runs: first cluster and length -/
def rlF : Nat → List (Option Nat) → List (Option Nat × Nat)
  | 0, _ => []
  | _ + 1, [] => []
  | n + 1, x :: t => (x, cont x t + 1) :: rlF n (t.drop (cont x t))
def rls (l : List (Option Nat)) : List (Option Nat × Nat) := rlF l.length l
theorem rlF_fuel : ∀ (n m : Nat) (l : List (Option Nat)), l.length ≤ n → l.length ≤ m → rlF n l = rlF m l
  | 0, 0, _, _, _ => rfl
  | 0, m + 1, [], _, _ => rfl
  | n + 1, 0, [], _, _ => rfl
  | n + 1, m + 1, [], _, _ => rfl
  | n + 1, m + 1, x :: t, h, h' => by
    simp only [List.length_cons] at h h'
    simp only [rlF]
    rw [rlF_fuel n m (t.drop (cont x t)) (by rw [List.length_drop]; omega) (by rw [List.length_drop]; omega)]
  | 0, m + 1, x :: t, h, _ => by simp at h
  | n + 1, 0, x :: t, _, h => by simp at h
theorem rls_cons (x : Option Nat) (t : List (Option Nat)) : rls (x :: t) = (x, cont x t + 1) :: rls (t.drop (cont x t)) := by
  simp only [rls, List.length_cons, rlF]
  rw [rlF_fuel t.length (t.drop (cont x t)).length (t.drop (cont x t)) (by rw [List.length_drop]; omega) (Nat.le_refl _)]
theorem cont_none : ∀ (t : List (Option Nat)) (i : Nat), i ≤ cont none t → go (none :: t) i = none
  | _, 0, _ => rfl
  | [], i + 1, h => by simp [cont] at h
  | none :: t, i + 1, h => by
    simp only [cont] at h
    rw [go_s]
    exact cont_none t i (by omega)
  | some c :: t, i + 1, h => by simp [cont] at h
theorem cont_some : ∀ (c : Nat) (t : List (Option Nat)) (i : Nat), i ≤ cont (some c) t → go (some c :: t) i = some (c + i)
  | _, _, 0, _ => rfl
  | _, [], i + 1, h => by simp [cont] at h
  | _, none :: t, i + 1, h => by simp [cont] at h
  | c, some e :: t, i + 1, h => by
    simp only [cont] at h
    rw [go_s]
    by_cases he : e = c + 1
    · rw [if_pos he] at h
      rw [cont_some e t i (by omega), he]
      congr 1
      omega
    · rw [if_neg he] at h
      omega
theorem rn_len : ∀ (n b : Nat) (l : List (Option Nat)), (rnF n b l).length ≤ 3 * l.length
  | 0, _, _ => by simp [rnF]
  | n + 1, _, [] => by simp [rnF]
  | n + 1, b, none :: t => by
    simp only [rnF, List.length_cons]
    have := rn_len n b (t.drop (cont none t))
    rw [List.length_drop] at this
    omega
  | n + 1, b, some c :: t => by
    simp only [rnF, List.length_cons]
    have := rn_len n c (t.drop (cont (some c) t))
    rw [List.length_drop] at this
    omega
theorem and255s (c b : Nat) (hb : b ≤ 256) (hc : c < 2 ^ 30) : (nI c - nI b) &&& nI 255 = nI ((c + 256 - b) % 256) := by
  rw [pk_and (nI c - nI b) 8 (m := nI 255) (by decide)]
  congr 1
  show (BitVec.ofNat 32 c - BitVec.ofNat 32 b).toNat % 2 ^ 8 = _
  rw [BitVec.toNat_sub, BitVec.toNat_ofNat, BitVec.toNat_ofNat]
  omega
def clrT (T : Nat → Bool) (l : List (Option Nat)) : Nat → Bool := fun c => T c && !decide (some c ∈ l)
def cntO (l : List (Option Nat)) : Nat := (l.filter Option.isSome).length
/-- the lowest free cluster of n from c on -/
def lowF (T : Nat → Bool) : Nat → Nat → Option Nat
  | 0, _ => none
  | n + 1, c => if T c = false then some c else lowF T n (c + 1)
def frcF (T : Nat → Bool) : Nat → Nat → Nat
  | 0, _ => 0
  | n + 1, c => (if T c = false then 1 else 0) + frcF T n (c + 1)
theorem frcF_le (T : Nat → Bool) : ∀ n c, frcF T n c ≤ n
  | 0, _ => Nat.le_refl _
  | n + 1, c => by
    unfold frcF
    have := frcF_le T n (c + 1)
    split <;> omega
def plD (D : Nat → Nat) (l : List (Option Nat)) (k v : Nat) : Nat → Nat := match go l (k / 16) with
  | some c => up D (16 * c + k % 16) v
  | none => D
section MMAP
variable {G : fx_G} {S : fx_S} {I : Nat → Nat → Int32} {Q : fx_R → fx_S → Prop} {D : Nat → Nat}
theorem cM_release4 {F : Int32 → fx_S → Prop} (hS : shM S) {pl : List (Option Nat)} (hc : I 85 10 = nI pl.length) (hm : rowO I 91 pl) (hl : pl.length ≤ 64) (hx : ∀ c, some c ∈ pl → c < 128) : ∀ (n k r : Nat) (T : Nat → Bool) {v2 v3 : Int32}, k + n = pl.length → r + n < 1000 →
    F (nI (r + cntO (pl.drop k))) (fx_wI S (fx_row I 88 (bF (clrT T (pl.drop k))))) → v2 = nI r → v3 = nI k → fx_Go G (0, 0) mm_M_release 4 [(0, fx_r G 85), (2, .int v2), (3, .int v3)] [] (fx_wI S (fx_row I 88 (bF T))) (fx_qi F Q) := by
  intro n
  induction n with
  | zero =>
    intro k r T v2 v3 hk hr h e2 e3
    subst e2 e3
    refine bs_M_release_4 hS.w _ _ ?_
    simp only [wI_I, show fx_row I 88 (bF T) 85 10 = I 85 10 from rfl, hc]
    simp (disch := omega) only [nI_lit, nI_ofInt1, nI_ofInt4, nI_ofInt2, nI_ofInt3, mI_neg, wI_I, wI_setI, wI_setR, forall_eq, nI_add, pk_mul, pk_sub, pk_div, pk_rem, nI_clamp, nI_leI, nI_ltI, nI_eq, vin_iff, nar0, nar1, nF_ap, bF_ap, oF_ap, bI_0, bI_1, and255, bu_w, bu_p, bu_90, bu_9, row_w, row_at, nF_up, nI_ofIntm]
    refine ⟨fun _ => ?_, fun q => absurd (by omega) q⟩
    rw [List.drop_of_length_le (by omega)] at h
    have e : clrT T [] = T := by funext c; simp [clrT]
    rw [e] at h
    exact h
  | succ n ih =>
    intro k r T v2 v3 hk hr h e2 e3
    subst e2 e3
    have hgo : ∀ c, go pl k = some c → c < 128 := fun c e => hx c (e ▸ go_mem (show k < pl.length by omega))
    have hgo' : ∀ c, go pl k = some c → c < 2 ^ 31 := fun c e => by have := hgo c e; omega
    rw [dropO _ _ (show k < pl.length by omega)] at h
    refine bs_M_release_4 hS.w _ _ ?_
    simp only [wI_I, show fx_row I 88 (bF T) 85 10 = I 85 10 from rfl, hc, show fx_row I 88 (bF T) 91 = I 91 from rfl]
    simp (disch := omega) only [nI_lit, nI_ofInt1, nI_ofInt4, nI_ofInt2, nI_ofInt3, mI_neg, wI_I, wI_setI, wI_setR, forall_eq, nI_add, pk_mul, pk_sub, pk_div, pk_rem, nI_clamp, nI_leI, nI_ltI, nI_eq, vin_iff, nar0, nar1, nF_ap, bF_ap, oF_ap, bI_0, bI_1, and255, bu_w, bu_p, bu_90, bu_9, row_w, row_at, nF_up, nI_ofIntm, hm k (by omega), oI_ge hgo']
    refine ⟨fun q => absurd q (by omega), fun _ => ⟨by omega, fun q => ?_, fun q => ?_⟩⟩
    · obtain ⟨c, e⟩ := Option.ne_none_iff_exists'.mp q
      have hc128 := hgo c e
      rw [e] at h ⊢
      simp only [oI]
      simp (disch := omega) only [nI_lit, nI_ofInt1, nI_ofInt4, nI_ofInt2, nI_ofInt3, mI_neg, wI_I, wI_setI, wI_setR, forall_eq, nI_add, pk_mul, pk_sub, pk_div, pk_rem, nI_clamp, nI_leI, nI_ltI, nI_eq, vin_iff, nar0, nar1, nF_ap, bF_ap, oF_ap, bI_0, bI_1, and255, bu_w, bu_p, bu_90, bu_9, row_w, row_at, nF_up, nI_ofIntm]
      refine ⟨by omega, by omega, ?_⟩
      rw [← bI_f, bF_up]
      refine ih (k + 1) (r + 1) _ (by omega) (by omega) ?_ rfl rfl
      have e1 : cntO (some c :: pl.drop (k + 1)) = cntO (pl.drop (k + 1)) + 1 := rfl
      have e2 : clrT T (some c :: pl.drop (k + 1)) = clrT (up T c false) (pl.drop (k + 1)) := by
        funext x
        unfold clrT up
        by_cases hxc : x = c
        · subst hxc; simp
        · simp [hxc]
      rw [e1, e2] at h
      rw [show r + 1 + cntO (pl.drop (k + 1)) = r + (cntO (pl.drop (k + 1)) + 1) by omega]
      exact h
    · have e : go pl k = none := by simpa using q
      rw [e] at h
      refine ih (k + 1) r T (by omega) (by omega) ?_ rfl rfl
      have e1 : cntO (none :: pl.drop (k + 1)) = cntO (pl.drop (k + 1)) := rfl
      have e2 : clrT T (none :: pl.drop (k + 1)) = clrT T (pl.drop (k + 1)) := by
        funext x
        unfold clrT
        simp
      rw [e1, e2] at h
      exact h
theorem cM_release {F : Int32 → fx_S → Prop} (hS : shM S) {pl : List (Option Nat)} {T : Nat → Bool} (hT : I 88 = bF T) (hc : I 85 10 = nI pl.length) (hm : rowO I 91 pl) (hl : pl.length ≤ 64) (hx : ∀ c, some c ∈ pl → c < 128) {v1 : Int32} (k : Nat) (hk : k ≤ pl.length)
    (h : F (nI (cntO (pl.drop k))) (fx_wI S (fx_row I 88 (bF (clrT T (pl.drop k)))))) (e1 : v1 = nI k) : fx_Go G (0, 0) mm_M_release 0 [(0, fx_r G 85), (1, .int v1)] [] (fx_wI S I) (fx_qi F Q) := by
  refine bs_M_release_0 hS.w _ ?_
  rw [← row_self hT]
  exact cM_release4 hS (I := I) hc hm hl hx (pl.length - k) k 0 T (by omega) (by omega) (by rw [Nat.zero_add]; exact h) rfl e1
theorem cM_lowestFree3 {F : Int32 → fx_S → Prop} (hS : shM S) {T : Nat → Bool} (hT : I 88 = bF T) : ∀ (n c : Nat) {v1 : Int32}, c + n = 128 → F (oI (lowF T n c)) (fx_wI S I) → v1 = nI c → fx_Go G (0, 0) mm_M_lowestFree 3 [(0, fx_r G 85), (1, .int v1)] [] (fx_wI S I) (fx_qi F Q) := by
  intro n
  induction n with
  | zero =>
    intro c v1 hc h e1
    subst e1
    refine bs_M_lowestFree_3 hS.w _ ?_
    simp (disch := omega) only [nI_lit, nI_ofInt1, nI_ofInt4, nI_ofInt2, nI_ofInt3, mI_neg, wI_I, wI_setI, wI_setR, forall_eq, nI_add, pk_mul, pk_sub, pk_div, pk_rem, nI_clamp, nI_leI, nI_ltI, nI_eq, vin_iff, nar0, nar1, nF_ap, bF_ap, oF_ap, bI_0, bI_1, and255, bu_w, bu_p, bu_90, bu_9, row_w, row_at, nF_up, nI_ofIntm, hT]
    exact ⟨fun _ => ⟨fun _ => h, fun q => absurd (by omega) q⟩, fun q => absurd (by omega) q⟩
  | succ n ih =>
    intro c v1 hc h e1
    subst e1
    unfold lowF at h
    refine bs_M_lowestFree_3 hS.w _ ?_
    simp (disch := omega) only [nI_lit, nI_ofInt1, nI_ofInt4, nI_ofInt2, nI_ofInt3, mI_neg, wI_I, wI_setI, wI_setR, forall_eq, nI_add, pk_mul, pk_sub, pk_div, pk_rem, nI_clamp, nI_leI, nI_ltI, nI_eq, vin_iff, nar0, nar1, nF_ap, bF_ap, oF_ap, bI_0, bI_1, and255, bu_w, bu_p, bu_90, bu_9, row_w, row_at, nF_up, nI_ofIntm, hT]
    refine ⟨fun q => absurd q (by omega), fun _ => ⟨by omega, fun q => ⟨fun q2 => absurd q2 (by omega), fun _ => ?_⟩, fun q => ?_⟩⟩
    · rw [if_pos q] at h; exact h
    · rw [if_neg q] at h; exact ih (c + 1) (by omega) h rfl
theorem cM_lowestFree {F : Int32 → fx_S → Prop} (hS : shM S) {T : Nat → Bool} (hT : I 88 = bF T) (h : F (oI (lowF T 80 48)) (fx_wI S I)) : fx_Go G (0, 0) mm_M_lowestFree 0 [(0, fx_r G 85)] [] (fx_wI S I) (fx_qi F Q) := by
  refine bs_M_lowestFree_0 hS.w ?_
  exact cM_lowestFree3 hS hT 80 48 rfl h rfl
theorem cM_freeClusters5 {F : Int32 → fx_S → Prop} (hS : shM S) {T : Nat → Bool} (hT : I 88 = bF T) : ∀ (n c r : Nat) {v1 v2 : Int32}, c + n = 128 → r + n < 1000 → F (nI (r + frcF T n c)) (fx_wI S I) → v1 = nI r → v2 = nI c → fx_Go G (0, 0) mm_M_freeClusters 5 [(0, fx_r G 85), (1, .int v1), (2, .int v2)] [] (fx_wI S I) (fx_qi F Q) := by
  intro n
  induction n with
  | zero =>
    intro c r v1 v2 hc hr h e1 e2
    subst e1 e2
    refine bs_M_freeClusters_5 hS.w _ _ ?_
    simp (disch := omega) only [nI_lit, nI_ofInt1, nI_ofInt4, nI_ofInt2, nI_ofInt3, mI_neg, wI_I, wI_setI, wI_setR, forall_eq, nI_add, pk_mul, pk_sub, pk_div, pk_rem, nI_clamp, nI_leI, nI_ltI, nI_eq, vin_iff, nar0, nar1, nF_ap, bF_ap, oF_ap, bI_0, bI_1, and255, bu_w, bu_p, bu_90, bu_9, row_w, row_at, nF_up, nI_ofIntm, hT]
    exact ⟨fun _ => h, fun q => absurd (by omega) q⟩
  | succ n ih =>
    intro c r v1 v2 hc hr h e1 e2
    subst e1 e2
    unfold frcF at h
    refine bs_M_freeClusters_5 hS.w _ _ ?_
    simp (disch := omega) only [nI_lit, nI_ofInt1, nI_ofInt4, nI_ofInt2, nI_ofInt3, mI_neg, wI_I, wI_setI, wI_setR, forall_eq, nI_add, pk_mul, pk_sub, pk_div, pk_rem, nI_clamp, nI_leI, nI_ltI, nI_eq, vin_iff, nar0, nar1, nF_ap, bF_ap, oF_ap, bI_0, bI_1, and255, bu_w, bu_p, bu_90, bu_9, row_w, row_at, nF_up, nI_ofIntm, hT]
    refine ⟨fun q => absurd q (by omega), fun _ => ⟨by omega, fun q => ?_, fun q => ?_⟩⟩
    · rw [if_pos q] at h
      exact ih (c + 1) (r + 1) (by omega) (by omega) (by rw [Nat.add_assoc]; exact h) rfl rfl
    · rw [if_neg q, Nat.zero_add] at h
      exact ih (c + 1) r (by omega) (by omega) h rfl rfl
theorem cM_freeClusters {F : Int32 → fx_S → Prop} (hS : shM S) {T : Nat → Bool} (hT : I 88 = bF T) (h : F (nI (frcF T 80 48)) (fx_wI S I)) : fx_Go G (0, 0) mm_M_freeClusters 0 [(0, fx_r G 85)] [] (fx_wI S I) (fx_qi F Q) := by
  refine bs_M_freeClusters_0 hS.w ?_
  exact cM_freeClusters5 hS hT 80 48 0 rfl (by omega) (by rw [Nat.zero_add]; exact h) rfl rfl
theorem cM_clustersOf {F : Int32 → fx_S → Prop} (hS : shM S) {v0 : Int32} (n : Nat) (hn : n < 10000) (h : F (nI ((n + 15) / 16)) (fx_wI S I)) (e0 : v0 = nI n) : fx_Go G (0, 0) mm_M_clustersOf 0 [(0, .int v0)] [] (fx_wI S I) (fx_qi F Q) := by
  subst e0
  refine bs_M_clustersOf_0 hS.w _ ?_
  simp (disch := omega) only [nI_lit, nI_ofInt1, nI_ofInt4, nI_ofInt2, nI_ofInt3, mI_neg, wI_I, wI_setI, wI_setR, forall_eq, nI_add, pk_mul, pk_sub, pk_div, pk_rem, nI_clamp, nI_leI, nI_ltI, nI_eq, vin_iff, nar0, nar1, nF_ap, bF_ap, oF_ap, bI_0, bI_1, and255, bu_w, bu_p, bu_90, bu_9, row_w, row_at, nF_up, nI_ofIntm]
  exact h
def mts (i a b : Nat) : Bool := decide (16 * i < b) && decide (a < 16 * i + 16)
theorem cM_meets {F : Int32 → fx_S → Prop} (hS : shM S) {v0 v1 v2 : Int32} (i a b : Nat) (hi : i < 1000) (ha : a < 10000) (hb : b < 10000) (h : F (bI (mts i a b)) (fx_wI S I)) (e0 : v0 = nI i) (e1 : v1 = nI a) (e2 : v2 = nI b) : fx_Go G (0, 0) mm_M_meets 0 [(0, .int v0), (1, .int v1), (2, .int v2)] [] (fx_wI S I) (fx_qi F Q) := by
  subst e0 e1 e2
  have hq : ∀ z, z = mts i a b → fx_qi F Q (.inl (some (.int (bI z)))) (fx_wI S I) := by
    intro b hb; rw [hb]; exact h
  unfold mts at hq
  refine bs_M_meets_0 hS.w _ _ _ ?_
  simp (disch := omega) only [nI_lit, nI_ofInt1, nI_ofInt4, nI_ofInt2, nI_ofInt3, mI_neg, wI_I, wI_setI, wI_setR, forall_eq, nI_add, pk_mul, pk_sub, pk_div, pk_rem, nI_clamp, nI_leI, nI_ltI, nI_eq, vin_iff, nar0, nar1, nF_ap, bF_ap, oF_ap, bI_0, bI_1, and255, bu_w, bu_p, bu_90, bu_9, row_w, row_at, nF_up, nI_ofIntm]
  refine ⟨fun q => hq false ?_, fun q => ⟨fun q2 => hq false ?_, fun q2 => hq true ?_⟩⟩
  · rw [decide_eq_false (by omega)]; rfl
  · rw [decide_eq_false (p := a < 16 * i + 16) (by omega), Bool.and_false]
  · rw [decide_eq_true (by omega), decide_eq_true (by omega)]; rfl
theorem cM_place {F : fx_S → Prop} (hS : shM S) {pl : List (Option Nat)} (hD : I 86 = nF D) (hm : rowO I 91 pl) (hl : pl.length ≤ 64) (hx : ∀ c, some c ∈ pl → c < 128) {v1 v2 : Int32} (k v : Nat) (hk : k < 16 * pl.length)
    (h : F (fx_wI S (fx_row I 86 (nF (plD D pl k v))))) (e1 : v1 = nI k) (e2 : v2 = nI v) : fx_Go G (0, 0) mm_M_place 0 [(0, fx_r G 85), (1, .int v1), (2, .int v2)] [] (fx_wI S I) (fx_qv F Q) := by
  subst e1 e2
  have hk16 : k / 16 < pl.length := by omega
  have hgo : ∀ c, go pl (k / 16) = some c → c < 128 := fun c e => hx c (e ▸ go_mem hk16)
  have hgo' : ∀ c, go pl (k / 16) = some c → c < 2 ^ 31 := fun c e => by have := hgo c e; omega
  refine bs_M_place_0 hS.w _ _ ?_
  simp (disch := omega) only [nI_lit, nI_ofInt1, nI_ofInt4, nI_ofInt2, nI_ofInt3, mI_neg, wI_I, wI_setI, wI_setR, forall_eq, nI_add, pk_mul, pk_sub, pk_div, pk_rem, nI_clamp, nI_leI, nI_ltI, nI_eq, vin_iff, nar0, nar1, nF_ap, bF_ap, oF_ap, bI_0, bI_1, and255, bu_w, bu_p, bu_90, bu_9, row_w, row_at, nF_up, nI_ofIntm, hm (k / 16) hk16, oI_lt hgo']
  unfold plD at h
  refine ⟨by omega, fun q => ?_, fun q => ?_⟩
  · rw [q] at h
    rw [← row_self hD]
    exact h
  · obtain ⟨c, e⟩ := Option.ne_none_iff_exists'.mp q
    have hc128 := hgo c e
    rw [e] at h ⊢
    simp only [oI]
    simp (disch := omega) only [nI_lit, nI_ofInt1, nI_ofInt4, nI_ofInt2, nI_ofInt3, mI_neg, wI_I, wI_setI, wI_setR, forall_eq, nI_add, pk_mul, pk_sub, pk_div, pk_rem, nI_clamp, nI_leI, nI_ltI, nI_eq, vin_iff, nar0, nar1, nF_ap, bF_ap, oF_ap, bI_0, bI_1, and255, bu_w, bu_p, bu_90, bu_9, row_w, row_at, nF_up, nI_ofIntm]
    refine ⟨by omega, by omega, ?_⟩
    simp only at h
    rw [← nF_up, ← hD, show k - k / 16 * 16 = k % 16 by omega] at *
    exact h
end MMAP
