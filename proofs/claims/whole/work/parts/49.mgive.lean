/-! The reference writes runs, gives clusters, takes them back. -/
def dt3 (z : Nat) (pl : List (Option Nat)) : List Nat := 3 :: (5 + (rn 48 pl).length) :: (z % 256) :: (z / 256) :: (rn 48 pl ++ [0])
theorem putL_up (b : Nat → Nat) (p x y z : Nat) (l : List Nat) (h : p + 1 < 64) : up (putL b p (x :: y :: l)) (p + 1) z = putL b p (x :: z :: l) := by
  funext k
  unfold up putL
  simp only [List.length_cons]
  by_cases hk : k = p + 1
  · subst hk
    rw [if_pos rfl, if_pos (by omega), show p + 1 - p = 1 by omega]
    rfl
  · rw [if_neg hk]
    by_cases h2 : p ≤ k ∧ k < p + (l.length + 1 + 1) ∧ k < 64
    · rw [if_pos h2, if_pos h2]
      by_cases h3 : k = p
      · rw [h3, Nat.sub_self]; rfl
      · rw [show k - p = (k - p - 2) + 1 + 1 by omega]; rfl
    · rw [if_neg h2, if_neg h2]
section MGIVE
variable {G : fx_G} {S : fx_S} {I : Nat → Nat → Int32} {Q : fx_R → fx_S → Prop} {D : Nat → Nat}
theorem cM_out54 (hS : shM S) {pl : List (Option Nat)} (hl : pl.length ≤ 64) (hx : ∀ c, some c ∈ pl → c < 128) {v2 v3 : Int32} (i : Nat) (x : Option Nat) (t : List (Option Nat)) (hd : pl.drop i = x :: t) (hc : I 85 10 = nI pl.length) (hm : rowO I 91 pl) : ∀ (m q : Nat) {v4 v5 : Int32}, q + m = cont x t →
    fx_Go G (1, 13) mm_M_putOutside 115 [(0, fx_r G 85), (2, .int v2), (3, .int v3), (4, .int (nI i)), (5, .int (nI (i + 1 + cont x t)))] [] (fx_wI S I) Q → v4 = nI i → v5 = nI (i + 1 + q) →
    fx_Go G (1, 13) mm_M_putOutside 54 [(0, fx_r G 85), (2, .int v2), (3, .int v3), (4, .int v4), (5, .int v5)] [] (fx_wI S I) Q := by
  have hil : i < pl.length := by
    have := congrArg List.length hd
    rw [List.length_drop, List.length_cons] at this
    omega
  have htl : t.length = pl.length - (i + 1) := by
    have := congrArg List.length hd
    rw [List.length_drop, List.length_cons] at this
    omega
  have hgi : go pl i = x := by
    have := dropO pl i hil
    rw [hd] at this
    exact (List.cons.inj this).1.symm
  have hgt : ∀ q, go pl (i + 1 + q) = go t q := by
    intro q
    have h0 := go_drop pl i (q + 1)
    rw [hd, go_s] at h0
    rw [h0]
    congr 1
    omega
  have hgx : ∀ j, j < pl.length → ∀ c, go pl j = some c → c < 2 ^ 31 := fun j hj c e => by have := hx c (e ▸ go_mem hj); omega
  have hct := cont_le x t
  intro m
  induction m with
  | zero =>
    intro q v4 v5 hq h e4 e5
    subst e4 e5
    rw [← hq, Nat.add_zero] at h
    refine bs_M_putOutside_54 hS.w _ _ _ _ ?_
    simp only [wI_I, hc]
    simp (disch := omega) only [nI_lit, nI_ofInt1, nI_ofInt4, nI_ofInt2, nI_ofInt3, mI_neg, wI_I, wI_setI, wI_setR, forall_eq, nI_add, pk_mul, pk_sub, pk_div, pk_rem, nI_clamp, nI_leI, nI_ltI, nI_eq, vin_iff, nar0, nar1, nF_ap, bF_ap, oF_ap, bI_0, bI_1, and255, bu_w, bu_p, bu_90, bu_9, row_w, row_at, nF_up, nI_ofIntm]
    refine ⟨fun _ => h, fun hlt => ⟨by omega, ?_⟩⟩
    have hs1 : x = none → go t q ≠ none := by
      intro e
      subst e
      have := cont_stop_n t (by omega)
      rw [← hq, Nat.add_zero] at this
      exact this
    have hs2 : ∀ c, x = some c → go t q ≠ some (c + q + 1) := by
      intro c e
      subst e
      have := cont_stop_s c t (by omega)
      rw [← hq, Nat.add_zero] at this
      exact this
    rw [hm i hil, hm (i + 1 + q) (by omega), hgi, hgt q]
    have hq1 : ∀ c, go t q = some c → c < 2 ^ 31 := by rw [← hgt q]; exact hgx _ (by omega)
    have hx1 : ∀ c, x = some c → c < 2 ^ 31 := by rw [← hgi]; exact hgx _ hil
    rw [oI_ge hx1]
    refine ⟨fun hn => ⟨by omega, by omega, ?_⟩, fun hn => ⟨by omega, ?_⟩⟩
    · obtain ⟨c, e⟩ := Option.ne_none_iff_exists'.mp hn
      have := hx1 c e
      subst e
      simp only [oI]
      have hc31 : c < 128 := hx c (hgi ▸ go_mem hil)
      simp (disch := omega) only [nI_lit, nI_ofInt1, nI_ofInt4, nI_ofInt2, nI_ofInt3, mI_neg, wI_I, wI_setI, wI_setR, forall_eq, nI_add, pk_mul, pk_sub, pk_div, pk_rem, nI_clamp, nI_leI, nI_ltI, nI_eq, vin_iff, nar0, nar1, nF_ap, bF_ap, oF_ap, bI_0, bI_1, and255, bu_w, bu_p, bu_90, bu_9, row_w, row_at, nF_up, nI_ofIntm]
      refine ⟨fun _ => h, fun z => absurd ?_ (hs2 c rfl)⟩
      rw [show c + (i + 1 + q) - i = c + q + 1 by omega] at z
      exact (oI_n hq1 _ (by omega)).mp z
    · have e : x = none := by simpa using hn
      rw [oI_ge hq1]
      exact ⟨fun _ => h, fun z => absurd (by simpa using z) (hs1 e)⟩
  | succ m ih =>
    intro q v4 v5 hq h e4 e5
    subst e4 e5
    refine bs_M_putOutside_54 hS.w _ _ _ _ ?_
    simp only [wI_I, hc]
    simp (disch := omega) only [nI_lit, nI_ofInt1, nI_ofInt4, nI_ofInt2, nI_ofInt3, mI_neg, wI_I, wI_setI, wI_setR, forall_eq, nI_add, pk_mul, pk_sub, pk_div, pk_rem, nI_clamp, nI_leI, nI_ltI, nI_eq, vin_iff, nar0, nar1, nF_ap, bF_ap, oF_ap, bI_0, bI_1, and255, bu_w, bu_p, bu_90, bu_9, row_w, row_at, nF_up, nI_ofIntm]
    refine ⟨fun z => absurd z (by omega), fun hlt => ⟨by omega, ?_⟩⟩
    have hx1 : ∀ c, x = some c → c < 2 ^ 31 := by rw [← hgi]; exact hgx _ hil
    have nx := ih (q + 1) (v4 := nI i) (v5 := nI (i + 1 + q + 1)) (by omega) h rfl (by congr 1)
    rw [hm i hil, hm (i + 1 + q) (by omega), hgi, oI_ge hx1]
    refine ⟨fun hn => ⟨by omega, by omega, ?_⟩, fun hn => ⟨by omega, ?_⟩⟩
    · obtain ⟨c, e⟩ := Option.ne_none_iff_exists'.mp hn
      subst e
      have hg : go pl (i + 1 + q) = some (c + q + 1) := by
        rw [hgt q]
        have := cont_some c t (q + 1) (by omega)
        rw [go_s] at this
        rw [this, Nat.add_assoc]
      have hc31 : c < 128 := hx c (hgi ▸ go_mem hil)
      rw [hg]
      simp only [oI]
      simp (disch := omega) only [nI_lit, nI_ofInt1, nI_ofInt4, nI_ofInt2, nI_ofInt3, mI_neg, wI_I, wI_setI, wI_setR, forall_eq, nI_add, pk_mul, pk_sub, pk_div, pk_rem, nI_clamp, nI_leI, nI_ltI, nI_eq, vin_iff, nar0, nar1, nF_ap, bF_ap, oF_ap, bI_0, bI_1, and255, bu_w, bu_p, bu_90, bu_9, row_w, row_at, nF_up, nI_ofIntm]
      exact ⟨fun z => absurd (by omega) z, fun _ => nx⟩
    · have e : x = none := by simpa using hn
      subst e
      have hg : go pl (i + 1 + q) = none := by
        rw [hgt q]
        exact cont_none t (q + 1) (by omega)
      rw [hg]
      exact ⟨fun z => absurd z mI_n0, fun _ => nx⟩
theorem cM_out39 {F : fx_S → Prop} (hS : shM S) {pl : List (Option Nat)} (hl : pl.length ≤ 64) (hx : ∀ c, some c ∈ pl → c < 128) (hc : I 85 10 = nI pl.length) (hm : rowO I 91 pl) (bg : Nat) (hbg : bg + 1 < 64) : ∀ (n i l p : Nat) (b : Nat → Nat) {v2 v3 v4 : Int32}, pl.length - i ≤ n → i ≤ pl.length → l < 128 → bg ≤ p → p + (rn l (pl.drop i)).length < 900 →
    F (fx_wI S (bufS I (up (putL b p (rn l (pl.drop i) ++ [0])) (bg + 1) (p + (rn l (pl.drop i)).length + 1 - bg)) (p + (rn l (pl.drop i)).length + 1))) → v2 = nI bg → v3 = nI l → v4 = nI i →
    fx_Go G (1, 13) mm_M_putOutside 39 [(0, fx_r G 85), (2, .int v2), (3, .int v3), (4, .int v4)] [] (fx_wI S (bufS I b p)) (fx_qv F Q) := by
  intro n
  have fin : ∀ (l p : Nat) (b : Nat → Nat) {v2 v3 v4 : Int32}, bg ≤ p → p < 900 → F (fx_wI S (bufS I (up (putL b p [0]) (bg + 1) (p + 1 - bg)) (p + 1))) → v2 = nI bg → v3 = nI l → v4 = nI pl.length →
      fx_Go G (1, 13) mm_M_putOutside 39 [(0, fx_r G 85), (2, .int v2), (3, .int v3), (4, .int v4)] [] (fx_wI S (bufS I b p)) (fx_qv F Q) := by
    intro l p b v2 v3 v4 hp hp2 h e2 e3 e4
    subst e2 e3 e4
    refine bs_M_putOutside_39 hS.w _ _ _ ?_
    simp only [wI_I, show bufS I b p 85 10 = I 85 10 from rfl, hc]
    simp (disch := omega) only [nI_lit, nI_ofInt1, nI_ofInt4, nI_ofInt2, nI_ofInt3, mI_neg, wI_I, wI_setI, wI_setR, forall_eq, nI_add, pk_mul, pk_sub, pk_div, pk_rem, nI_clamp, nI_leI, nI_ltI, nI_eq, vin_iff, nar0, nar1, nF_ap, bF_ap, oF_ap, bI_0, bI_1, and255, bu_w, bu_p, bu_90, bu_9, row_w, row_at, nF_up, nI_ofIntm]
    refine ⟨fun _ => ?_, fun q => absurd (Nat.le_refl _) q⟩
    refine cM_put hS 0 (by omega) ⟨hS, ?_⟩ rfl
    simp (disch := omega) only [nI_lit, nI_ofInt1, nI_ofInt4, nI_ofInt2, nI_ofInt3, mI_neg, wI_I, wI_setI, wI_setR, forall_eq, nI_add, pk_mul, pk_sub, pk_div, pk_rem, nI_clamp, nI_leI, nI_ltI, nI_eq, vin_iff, nar0, nar1, nF_ap, bF_ap, oF_ap, bI_0, bI_1, and255, bu_w, bu_p, bu_90, bu_9, row_w, row_at, nF_up, nI_ofIntm]
    exact ⟨fun q => absurd q (by omega), fun _ => ⟨by omega, h⟩⟩
  induction n with
  | zero =>
    intro i l p b v2 v3 v4 hn hi hl2 hp hp2 h e2 e3 e4
    have e : i = pl.length := by omega
    subst e
    rw [List.drop_of_length_le (Nat.le_refl _)] at h hp2
    exact fin l p b hp (by simpa [rn_nil] using hp2) h e2 e3 e4
  | succ n ih =>
    intro i l p b v2 v3 v4 hn hi hl2 hp hp2 h e2 e3 e4
    by_cases hil : i = pl.length
    · subst hil
      rw [List.drop_of_length_le (Nat.le_refl _)] at h hp2
      exact fin l p b hp (by simpa [rn_nil] using hp2) h e2 e3 e4
    subst e2 e3 e4
    have hd : pl.drop i = go pl i :: pl.drop (i + 1) := dropO _ _ (by omega)
    have hgx : ∀ c, go pl i = some c → c < 128 := fun c e => hx c (e ▸ go_mem (show i < pl.length by omega))
    have hmi := hm i (by omega)
    generalize ht : pl.drop (i + 1) = t at hd
    have htl : t.length = pl.length - (i + 1) := by rw [← ht, List.length_drop]
    generalize hx0 : go pl i = x at hd hgx hmi
    have hct := cont_le x t
    have hnx := tl_drop (c := cont x t) hd
    have hx1 : ∀ c, x = some c → c < 2 ^ 31 := fun c e => by have := hgx c e; omega
    refine bs_M_putOutside_39 hS.w _ _ _ ?_
    simp only [wI_I, show bufS I b p 85 10 = I 85 10 from rfl, hc]
    simp (disch := omega) only [nI_lit, nI_ofInt1, nI_ofInt4, nI_ofInt2, nI_ofInt3, mI_neg, wI_I, wI_setI, wI_setR, forall_eq, nI_add, pk_mul, pk_sub, pk_div, pk_rem, nI_clamp, nI_leI, nI_ltI, nI_eq, vin_iff, nar0, nar1, nF_ap, bF_ap, oF_ap, bI_0, bI_1, and255, bu_w, bu_p, bu_90, bu_9, row_w, row_at, nF_up, nI_ofIntm]
    refine ⟨fun q => absurd q (by omega), fun _ => ?_⟩
    refine cM_out54 hS (I := bufS I b p) hl hx i x t hd hc hm (cont x t) 0 (by omega) ?_ rfl rfl
    refine bs_M_putOutside_115 hS.w _ _ _ _ ?_
    simp only [wI_I, show bufS I b p 91 = I 91 from rfl]
    simp (disch := omega) only [nI_lit, nI_ofInt1, nI_ofInt4, nI_ofInt2, nI_ofInt3, mI_neg, wI_I, wI_setI, wI_setR, forall_eq, nI_add, pk_mul, pk_sub, pk_div, pk_rem, nI_clamp, nI_leI, nI_ltI, nI_eq, vin_iff, nar0, nar1, nF_ap, bF_ap, oF_ap, bI_0, bI_1, and255, bu_w, bu_p, bu_90, bu_9, row_w, row_at, nF_up, nI_ofIntm]
    rw [hmi, oI_ge hx1]
    cases x with
    | none =>
      rw [hd, rn_none, hnx] at h hp2
      simp only [List.length_cons] at h hp2
      refine ⟨by omega, fun q => absurd rfl q, fun _ => ?_⟩
      refine bs_M_putOutside_132 hS.w _ _ _ _ _ ?_
      refine cM_put hS 1 (by omega) ⟨hS, ?_⟩ rfl
      refine cM_put hS (cont none t + 1) (by omega) ⟨hS, ?_⟩ (by rw [pk_sub (by omega)]; congr 1; omega)
      simp only [wI_I, show ∀ b p, bufS I b p 91 = I 91 from fun _ _ => rfl]
      simp (disch := omega) only [nI_lit, nI_ofInt1, nI_ofInt4, nI_ofInt2, nI_ofInt3, mI_neg, wI_I, wI_setI, wI_setR, forall_eq, nI_add, pk_mul, pk_sub, pk_div, pk_rem, nI_clamp, nI_leI, nI_ltI, nI_eq, vin_iff, nar0, nar1, nF_ap, bF_ap, oF_ap, bI_0, bI_1, and255, bu_w, bu_p, bu_90, bu_9, row_w, row_at, nF_up, nI_ofIntm]
      rw [hmi, oI_lt hx1]
      refine ⟨by omega, fun _ => ?_, fun q => absurd rfl q⟩
      refine ih (i + 1 + cont none t) l (p + 1 + 1) _ (by omega) (by omega) hl2 (by omega) ?_ ?_ rfl rfl rfl
      · rw [show i + 1 + cont none t = i + cont none t + 1 by omega]; omega
      · rw [show i + 1 + cont none t = i + cont none t + 1 by omega, putL_2, show p + 1 + 1 + (rn l (pl.drop (i + cont none t + 1))).length + 1 = p + ((rn l (pl.drop (i + cont none t + 1))).length + 1 + 1) + 1 by omega]
        exact h
    | some c =>
      have hc128 := hgx c rfl
      rw [hd, rn_some, hnx] at h hp2
      simp only [List.length_cons] at h hp2
      refine ⟨by omega, fun _ => ?_, fun q => absurd (fun z => by cases z) q⟩
      refine bs_M_putOutside_132 hS.w _ _ _ _ _ ?_
      refine cM_put hS 17 (by omega) ⟨hS, ?_⟩ rfl
      refine cM_put hS (cont (some c) t + 1) (by omega) ⟨hS, ?_⟩ (by rw [pk_sub (by omega)]; congr 1; omega)
      simp only [wI_I, show ∀ b p, bufS I b p 91 = I 91 from fun _ _ => rfl]
      rw [pk_cl i rfl (by omega), hmi]
      refine ⟨pk_in i 64 (by omega) rfl, fun q => absurd ((oI_lt hx1).mp q) (fun z => by cases z), fun _ => ⟨pk_in i 64 (by omega) rfl, ?_⟩⟩
      refine cM_put hS ((c + 256 - l) % 256) (by omega) ⟨hS, pk_in i 64 (by omega) rfl, ?_⟩ (and255s c l (by omega) (by omega))
      simp only [wI_I, show ∀ b p, bufS I b p 91 = I 91 from fun _ _ => rfl]
      rw [hmi]
      refine ih (i + 1 + cont (some c) t) c (p + 1 + 1 + 1) _ (by omega) (by omega) hc128 (by omega) ?_ ?_ rfl rfl rfl
      · rw [show i + 1 + cont (some c) t = i + cont (some c) t + 1 by omega]; omega
      · rw [show i + 1 + cont (some c) t = i + cont (some c) t + 1 by omega, show p + 1 + 1 + 1 + (rn c (pl.drop (i + cont (some c) t + 1))).length + 1 = p + ((rn c (pl.drop (i + cont (some c) t + 1))).length + 1 + 1 + 1) + 1 by omega]
        have e3 : ∀ l' : List Nat, putL (putL (putL (putL b p [17]) (p + 1) [cont (some c) t + 1]) (p + 1 + 1) [(c + 256 - l) % 256]) (p + 1 + 1 + 1) l' = putL b p (17 :: (cont (some c) t + 1) :: (c + 256 - l) % 256 :: l') := by
          intro l'
          rw [putL_2]
          exact putL_app b p [17] _
        rw [e3]
        exact h
theorem cM_putOutside {F : fx_S → Prop} (hS : shM S) {pl : List (Option Nat)} (hl : pl.length ≤ 64) (hx : ∀ c, some c ∈ pl → c < 128) (hc : I 85 10 = nI pl.length) (hm : rowO I 91 pl) {b : Nat → Nat} {v1 : Int32} (p z : Nat) (hp : p + 1 < 64) (hz : z < 65536)
    (h : F (fx_wI S (bufS I (putL b p (dt3 z pl)) (p + (dt3 z pl).length)))) (e1 : v1 = nI z) : fx_Go G (1, 13) mm_M_putOutside 0 [(0, fx_r G 85), (1, .int v1)] [] (fx_wI S (bufS I b p)) (fx_qv F Q) := by
  subst e1
  have hrn := rn_len pl.length 48 pl
  refine bs_M_putOutside_0 hS.w _ ?_
  refine cM_put hS 3 (by omega) ⟨hS, ?_⟩ rfl
  refine cM_put hS 0 (by omega) ⟨hS, ?_⟩ rfl
  refine cM_put hS (z % 256) (by omega) ⟨hS, ?_⟩ (by rw [show (256 : Int32) = nI 256 from rfl, pk_rem (by omega) (by omega) (by omega)])
  refine cM_put hS (z / 256) (by omega) ⟨hS, ?_⟩ (by first | rfl | (simp (disch := omega) only [nI_lit, nI_ofInt1, nI_ofInt4, nI_ofInt2, nI_ofInt3, mI_neg, wI_I, wI_setI, wI_setR, forall_eq, nI_add, pk_mul, pk_sub, pk_div, pk_rem, nI_clamp, nI_leI, nI_ltI, nI_eq, vin_iff, nar0, nar1, nF_ap, bF_ap, oF_ap, bI_0, bI_1, and255, bu_w, bu_p, bu_90, bu_9, row_w, row_at, nF_up, nI_ofIntm] <;> first | done | omega | (congr 1; omega)))
  refine cM_out39 hS hl hx hc hm p hp pl.length 0 48 (p + 1 + 1 + 1 + 1) _ (by omega) (by omega) (by omega) (by omega) ?_ ?_ rfl rfl rfl
  · rw [List.drop_zero]; unfold rn; omega
  · rw [List.drop_zero]
    have e3 : ∀ l' : List Nat, putL (putL (putL (putL (putL b p [3]) (p + 1) [0]) (p + 1 + 1) [z % 256]) (p + 1 + 1 + 1) [z / 256]) (p + 1 + 1 + 1 + 1) l' = putL b p (3 :: 0 :: z % 256 :: z / 256 :: l') := by
      intro l'
      rw [putL_2, putL_2]
    rw [e3, putL_up _ _ _ _ _ _ hp]
    unfold dt3 at h
    simp only [List.length_cons, List.length_append, List.length_nil] at h
    rw [show p + 1 + 1 + 1 + 1 + (rn 48 pl).length + 1 - p = 5 + (rn 48 pl).length by omega, show p + 1 + 1 + 1 + 1 + (rn 48 pl).length + 1 = p + ((rn 48 pl).length + (0 + 1) + 1 + 1 + 1 + 1) by omega]
    exact h
theorem cM_give58 (hS : shM S) {v1 v2 v3 v4 v5 z0 z1 : Int32} (b : Bool) (i nd : Nat) (hi : i < 64) (hn : nd < 1000) (e4 : v4 = nI nd) (e5 : v5 = nI i) (e0 : z0 = bI b) (e1 : z1 = nI i)
    (h : fx_Go G (1, 16) mm_M_give 6 [(0, fx_r G 85), (1, .int v1), (2, .int v2), (3, .int v3), (4, .int (nI (nd + (if b = true then 1 else 0)))), (5, .int (nI (i + 1)))] [] (fx_wI S (fx_w I 92 i (bI b))) Q) :
    fx_Go G (1, 16) mm_M_give 58 [(0, fx_r G 85), (1, .int v1), (2, .int v2), (3, .int v3), (4, .int v4), (5, .int v5)] [.int z0, .int z1, fx_r G 92] (fx_wI S I) Q := by
  subst e4 e5 e0 e1
  have nb : vp_nar .boolean (bI b) = bI b := by cases b <;> rfl
  refine bs_M_give_58 hS.w _ _ _ _ _ _ _ ?_
  rw [nb]
  simp (disch := omega) only [nI_lit, nI_ofInt1, nI_ofInt4, nI_ofInt2, nI_ofInt3, mI_neg, wI_I, wI_setI, wI_setR, forall_eq, nI_add, pk_mul, pk_sub, pk_div, pk_rem, nI_clamp, nI_leI, nI_ltI, nI_eq, vin_iff, nar0, nar1, nF_ap, bF_ap, oF_ap, bI_0, bI_1, and255, bu_w, bu_p, bu_90, bu_9, row_w, row_at, nF_up, nI_ofIntm, fw_at]
  refine ⟨by omega, by omega, fun q => ?_, fun q => ?_⟩
  · rw [q] at h ⊢; exact h
  · rw [show b = true by simpa using q] at h ⊢; exact h
def frs (pl : List (Option Nat)) (lay at' n i : Nat) : Bool := (go pl i).isNone && (mts i at' (at' + n) || mts i 0 lay)
theorem cM_give6 (hS : shM S) {pl : List (Option Nat)} (hl : pl.length ≤ 64) (hx : ∀ c, some c ∈ pl → c < 128) (lay at' n : Nat) (hlay : lay < 2000) (hat : at' < 2000) (hn : n < 2000) : ∀ (m i nd : Nat) (I : Nat → Nat → Int32) {v1 v2 v3 v4 v5 : Int32}, i + m = pl.length → nd ≤ i → I 85 10 = nI pl.length → rowO I 91 pl → (∀ j, j < i → I 92 j = bI (frs pl lay at' n j)) →
    (∀ I', Fr [92] [] I I' → (∀ j, j < pl.length → I' 92 j = bI (frs pl lay at' n j)) → fx_Go G (0, 0) mm_M_freeClusters 0 [(0, fx_r G 85)] [] (fx_wI S I') (fx_qi (fun x2 S1 => shM S1 ∧ (nI (nd + frcF (fun j => !frs pl lay at' n j) m i) ≤ x2 → fx_Go G (1, 16) mm_M_give 100 [(0, fx_r G 85), (5, .int 0)] [] S1 Q) ∧ (¬ nI (nd + frcF (fun j => !frs pl lay at' n j) m i) ≤ x2 → Q (.inl (some (.int 0))) S1)) Q)) →
    v1 = nI lay → v2 = nI at' → v3 = nI n → v4 = nI nd → v5 = nI i →
    fx_Go G (1, 16) mm_M_give 6 [(0, fx_r G 85), (1, .int v1), (2, .int v2), (3, .int v3), (4, .int v4), (5, .int v5)] [] (fx_wI S I) Q := by
  intro m
  induction m with
  | zero =>
    intro i nd I v1 v2 v3 v4 v5 hi hnd hc hm hf h e1 e2 e3 e4 e5
    subst e1 e2 e3 e4 e5
    have := h I (Fr.rfl' _ _ _) (fun j hj => hf j (by omega))
    unfold frcF at this
    refine bs_M_give_6 hS.w _ _ _ _ _ ?_
    simp only [wI_I, hc]
    exact pk_le pl.length i (fun _ => this) (fun q => absurd q (by omega)) rfl rfl (by omega) (by omega)
  | succ m ih =>
    intro i nd I v1 v2 v3 v4 v5 hi hnd hc hm hf h e1 e2 e3 e4 e5
    subst e1 e2 e3 e4 e5
    have hil : i < pl.length := by omega
    have hx1 : ∀ c, go pl i = some c → c < 2 ^ 31 := fun c e => by have := hx c (e ▸ go_mem hil); omega
    have nx : ∀ b, b = frs pl lay at' n i → fx_Go G (1, 16) mm_M_give 58 [(0, fx_r G 85), (1, .int (nI lay)), (2, .int (nI at')), (3, .int (nI n)), (4, .int (nI nd)), (5, .int (nI i))] [.int (bI b), .int (nI i), fx_r G 92] (fx_wI S I) Q := by
      intro b hb
      refine cM_give58 hS b i nd (by omega) (by omega) rfl rfl rfl rfl ?_
      refine ih (i + 1) _ (fx_w I 92 i (bI b)) (by omega) (by split <;> omega) hc hm (fun j hj => ?_) (fun I' hF hr => ?_) rfl rfl rfl rfl rfl
      · by_cases c : j = i
        · subst c; rw [fw_at, hb]
        · rw [fw_nj c]; exact hf j (by omega)
      · have := h I' ((Fr.w [92] [] I 92 _ _ (by decide) (by decide)).tr hF (fun _ h => ⟨h, h⟩) (fun _ h => ⟨h, h⟩)) hr
        have e : nd + frcF (fun j => !frs pl lay at' n j) (m + 1) i = nd + (if b = true then 1 else 0) + frcF (fun j => !frs pl lay at' n j) m (i + 1) := by
          rw [show frcF (fun j => !frs pl lay at' n j) (m + 1) i = (if (!frs pl lay at' n i) = false then 1 else 0) + frcF (fun j => !frs pl lay at' n j) m (i + 1) from rfl, ← hb]
          cases b <;> simp <;> omega
        rw [e] at this
        exact this
    unfold frs at nx
    refine bs_M_give_6 hS.w _ _ _ _ _ ?_
    simp only [wI_I, hc]
    refine pk_le pl.length i (fun q => absurd q (by omega)) (fun _ => ⟨pk_in i 64 (by omega) rfl, ?_⟩) rfl rfl (by omega) (by omega)
    rw [pk_cl i rfl (by omega), hm i hil]
    refine ⟨fun q => ?_, fun q => ?_⟩
    · obtain ⟨c, e⟩ := Option.ne_none_iff_exists'.mp ((oI_ge hx1).mp q)
      exact nx false (by rw [e]; rfl)
    · have e : go pl i = none := by
        cases hgo : go pl i with
        | none => rfl
        | some c => exact absurd ((oI_ge hx1).mpr (by rw [hgo]; intro z; cases z)) q
      rw [e] at nx
      refine cM_meets hS i at' (at' + n) (by omega) (by omega) (by omega) ⟨hS, ?_⟩ rfl rfl (by first | rfl | (simp (disch := omega) only [nI_lit, nI_ofInt1, nI_ofInt4, nI_ofInt2, nI_ofInt3, mI_neg, wI_I, wI_setI, wI_setR, forall_eq, nI_add, pk_mul, pk_sub, pk_div, pk_rem, nI_clamp, nI_leI, nI_ltI, nI_eq, vin_iff, nar0, nar1, nF_ap, bF_ap, oF_ap, bI_0, bI_1, and255, bu_w, bu_p, bu_90, bu_9, row_w, row_at, nF_up, nI_ofIntm] <;> first | done | omega | (congr 1; omega)))
      refine b1 (fun q2 => nx true (by rw [q2]; rfl)) (fun q2 => ?_)
      refine cM_meets hS i 0 lay (by omega) (by omega) (by omega) ⟨hS, ?_⟩ rfl rfl rfl
      exact b0 (fun q3 => nx false (by rw [q2, q3]; rfl)) (fun q3 => nx true (by rw [q2, q3]; rfl))
/-- clusters given to those that want one, in order -/
def alT (fr : Nat → Bool) : Nat → Nat → (Nat → Bool) → (Nat → Option Nat) → (Nat → Bool) × (Nat → Option Nat)
  | 0, _, T, m => (T, m)
  | n + 1, i, T, m => if fr i = true then (match lowF T 80 48 with
      | some c => alT fr n (i + 1) (up T c true) (up m i (some c))
      | none => (T, m))
    else alT fr n (i + 1) T m
theorem lowF_some (T : Nat → Bool) : ∀ (n c : Nat), 0 < frcF T n c → ∃ e, lowF T n c = some e ∧ c ≤ e ∧ e < c + n ∧ T e = false
  | 0, c, h => by simp [frcF] at h
  | n + 1, c, h => by
    unfold frcF at h
    unfold lowF
    by_cases hT : T c = false
    · exact ⟨c, by rw [if_pos hT], by omega, by omega, hT⟩
    · rw [if_neg hT] at h ⊢
      obtain ⟨e, h1, h2, h3, h4⟩ := lowF_some T n (c + 1) (by omega)
      exact ⟨e, h1, by omega, by omega, h4⟩
theorem frcF_out (T : Nat → Bool) (e : Nat) (b : Bool) : ∀ (n c : Nat), e < c → frcF (up T e b) n c = frcF T n c
  | 0, _, _ => rfl
  | n + 1, c, h => by
    unfold frcF
    have e1 : up T e b c = T c := by unfold up; rw [if_neg (by omega)]
    rw [frcF_out T e b n (c + 1) (by omega), e1]
theorem frcF_up (T : Nat → Bool) (e : Nat) : ∀ (n c : Nat), c ≤ e → e < c + n → T e = false → frcF (up T e true) n c + 1 = frcF T n c
  | 0, c, h1, h2, _ => by omega
  | n + 1, c, h1, h2, hT => by
    unfold frcF
    by_cases hc : c = e
    · subst hc
      rw [frcF_out T c true n (c + 1) (by omega), if_pos hT]
      unfold up
      rw [if_pos rfl, if_neg (by decide)]
      omega
    · have := frcF_up T e n (c + 1) (by omega) (by omega) hT
      have e1 : up T e true c = T c := by unfold up; rw [if_neg hc]
      rw [e1]
      omega
theorem cM_give100 {F : Int32 → fx_S → Prop} (hS : shM S) {fr : Nat → Bool} (N : Nat) (hN : N ≤ 64) : ∀ (n i : Nat) (T : Nat → Bool) (m : Nat → Option Nat) (I : Nat → Nat → Int32) {v5 : Int32}, i + n = N → I 85 10 = nI N → (∀ j, j < N → I 92 j = bI (fr j)) → I 88 = bF T → (∀ j, j < N → I 91 j = oI (m j)) → frcF (fun j => !fr j) n i ≤ frcF T 80 48 →
    (∀ I', Fr [88, 91] [] I I' → I' 88 = bF (alT fr n i T m).1 → (∀ j, j < N → I' 91 j = oI ((alT fr n i T m).2 j)) → F (bI true) (fx_wI S I')) → v5 = nI i →
    fx_Go G (1, 16) mm_M_give 100 [(0, fx_r G 85), (5, .int v5)] [] (fx_wI S I) (fx_qi F Q) := by
  intro n
  induction n with
  | zero =>
    intro i T m I v5 hi hc hf hT hm hfr h e5
    subst e5
    refine bs_M_give_100 hS.w _ ?_
    simp only [wI_I, hc]
    exact pk_le N i (fun _ => h I (Fr.rfl' _ _ _) hT hm) (fun q => absurd q (by omega)) rfl rfl (by omega) (by omega)
  | succ n ih =>
    intro i T m I v5 hi hc hf hT hm hfr h e5
    subst e5
    unfold alT at h
    rw [show frcF (fun j => !fr j) (n + 1) i = (if (!fr i) = false then 1 else 0) + frcF (fun j => !fr j) n (i + 1) from rfl] at hfr
    refine bs_M_give_100 hS.w _ ?_
    simp only [wI_I, hc]
    refine pk_le N i (fun q => absurd q (by omega)) (fun _ => ⟨pk_in i 64 (by omega) rfl, ?_⟩) rfl rfl (by omega) (by omega)
    rw [pk_cl i rfl (by omega), hf i (by omega)]
    refine b1 (fun q => ?_) (fun q => ?_)
    · rw [if_pos q] at h
      rw [q, if_pos (show (!true) = false from rfl)] at hfr
      obtain ⟨c, h1, h2, h3, h4⟩ := lowF_some T 80 48 (by omega)
      have hup := frcF_up T c 80 48 h2 h3 h4
      refine cM_lowestFree hS hT ⟨hS, ?_⟩
      rw [h1] at h ⊢
      simp only [oI] at h ⊢
      simp (disch := omega) only [nI_lit, nI_ofInt1, nI_ofInt4, nI_ofInt2, nI_ofInt3, mI_neg, wI_I, wI_setI, wI_setR, forall_eq, nI_add, pk_mul, pk_sub, pk_div, pk_rem, nI_clamp, nI_leI, nI_ltI, nI_eq, vin_iff, nar0, nar1, nF_ap, bF_ap, oF_ap, bI_0, bI_1, and255, bu_w, bu_p, bu_90, bu_9, row_w, row_at, nF_up, nI_ofIntm, fw_at]
      refine ⟨by omega, by omega, by omega, ?_⟩
      refine ih (i + 1) (up T c true) (up m i (some c)) _ (by omega) hc hf ?_ (fun j hj => ?_) (by omega) (fun I' hF => h I' (((Fr.w [88, 91] [] I 91 _ _ (by decide) (by decide)).tr (Fr.w [88, 91] [] _ 88 _ _ (by decide) (by decide)) (fun _ h => ⟨h, h⟩) (fun _ h => ⟨h, h⟩)).tr hF (fun _ h => ⟨h, h⟩) (fun _ h => ⟨h, h⟩))) rfl
      · rw [← bF_up, ← hT]; rfl
      · show fx_w I 91 i (nI c) 91 j = _
        unfold up
        by_cases hji : j = i
        · subst hji; rw [fw_at, if_pos rfl]; rfl
        · rw [fw_nj hji, if_neg hji]; exact hm j hj
    · rw [if_neg (by rw [q]; decide)] at h
      rw [q, if_neg (show ¬ (!false) = false by decide), Nat.zero_add] at hfr
      exact ih (i + 1) T m I (by omega) hc hf hT hm hfr h (by first | rfl | (simp (disch := omega) only [nI_lit, nI_ofInt1, nI_ofInt4, nI_ofInt2, nI_ofInt3, mI_neg, wI_I, wI_setI, wI_setR, forall_eq, nI_add, pk_mul, pk_sub, pk_div, pk_rem, nI_clamp, nI_leI, nI_ltI, nI_eq, vin_iff, nar0, nar1, nF_ap, bF_ap, oF_ap, bI_0, bI_1, and255, bu_w, bu_p, bu_90, bu_9, row_w, row_at, nF_up, nI_ofIntm] <;> first | done | omega | (congr 1; omega)))
theorem cM_give {F : Int32 → fx_S → Prop} (hS : shM S) {pl : List (Option Nat)} (hl : pl.length ≤ 64) (hx : ∀ c, some c ∈ pl → c < 128) {T : Nat → Bool} (hT : I 88 = bF T) (hc : I 85 10 = nI pl.length) (hm : rowO I 91 pl) {v1 v2 v3 : Int32} (lay at' n : Nat) (hlay : lay < 2000) (hat : at' < 2000) (hn : n < 2000)
    (hno : frcF T 80 48 < frcF (fun j => !frs pl lay at' n j) pl.length 0 → ∀ I', Fr [92] [] I I' → F (bI false) (fx_wI S I'))
    (hyes : frcF (fun j => !frs pl lay at' n j) pl.length 0 ≤ frcF T 80 48 → ∀ I', Fr [88, 91, 92] [] I I' → (∀ j, j < pl.length → I' 92 j = bI (frs pl lay at' n j)) → I' 88 = bF (alT (frs pl lay at' n) pl.length 0 T (go pl)).1 → (∀ j, j < pl.length → I' 91 j = oI ((alT (frs pl lay at' n) pl.length 0 T (go pl)).2 j)) → F (bI true) (fx_wI S I'))
    (e1 : v1 = nI lay) (e2 : v2 = nI at') (e3 : v3 = nI n) : fx_Go G (1, 16) mm_M_give 0 [(0, fx_r G 85), (1, .int v1), (2, .int v2), (3, .int v3)] [] (fx_wI S I) (fx_qi F Q) := by
  refine bs_M_give_0 hS.w _ _ _ ?_
  refine cM_give6 hS hl hx lay at' n hlay hat hn pl.length 0 0 I (by omega) (by omega) hc hm (fun j hj => absurd hj (by omega)) (fun I' hF hf => ?_) e1 e2 e3 rfl rfl
  have hle := frcF_le (fun j => !frs pl lay at' n j) pl.length 0
  have hle2 := frcF_le T 80 48
  have hT' : I' 88 = bF T := (hF.1 88 (by decide) (by decide)).trans hT
  refine cM_freeClusters hS hT' ⟨hS, ?_⟩
  rw [Nat.zero_add]
  refine pk_le _ _ (fun q => ?_) (fun q => hno q I' hF) rfl rfl (by omega) (by omega)
  refine cM_give100 hS pl.length hl pl.length 0 T (go pl) I' (by omega) ((hF.2 10 (by decide)).trans hc) hf hT' (fun j hj => by rw [hF.1 91 (by decide) (by decide)]; exact hm j hj) q (fun I'' hF' h8 h91 => ?_) rfl
  refine hyes q I'' ⟨fun a h5 ha => ?_, fun j hj => ?_⟩ (fun j hj => ?_) h8 h91
  · rw [hF'.1 a h5 (fun z => ha (by simp at z ⊢; omega)), hF.1 a h5 (fun z => ha (by simp at z ⊢; omega))]
  · rw [hF'.2 j (by simp), hF.2 j (by simp)]
  · rw [hF'.1 92 (by decide) (by decide)]; exact hf j hj
def tbT (fr : Nat → Bool) (m : Nat → Option Nat) : Nat → Nat → (Nat → Bool) → (Nat → Bool)
  | 0, _, T => T
  | n + 1, i, T => if fr i = true then (match m i with
      | some c => tbT fr m n (i + 1) (up T c false)
      | none => T)
    else tbT fr m n (i + 1) T
theorem cM_takeBack2 {F : fx_S → Prop} (hS : shM S) {fr : Nat → Bool} {m : Nat → Option Nat} (N : Nat) (hN : N ≤ 64) (hm2 : ∀ j, j < N → fr j = true → ∃ c, m j = some c ∧ c < 128) : ∀ (n i : Nat) (T : Nat → Bool) (I : Nat → Nat → Int32) {v1 : Int32}, i + n = N → I 85 10 = nI N → (∀ j, j < N → I 92 j = bI (fr j)) → I 88 = bF T → (∀ j, j < N → I 91 j = oI (m j)) →
    F (fx_wI S (fx_row I 88 (bF (tbT fr m n i T)))) → v1 = nI i → fx_Go G (0, 0) mm_M_takeBack 2 [(0, fx_r G 85), (1, .int v1)] [] (fx_wI S I) (fx_qv F Q) := by
  intro n
  induction n with
  | zero =>
    intro i T I v1 hi hc hf hT hm h e1
    subst e1
    refine bs_M_takeBack_2 hS.w _ ?_
    simp only [wI_I, hc]
    unfold tbT at h
    rw [row_self hT] at h
    exact pk_le N i (fun _ => h) (fun q => absurd q (by omega)) rfl rfl (by omega) (by omega)
  | succ n ih =>
    intro i T I v1 hi hc hf hT hm h e1
    subst e1
    unfold tbT at h
    refine bs_M_takeBack_2 hS.w _ ?_
    simp only [wI_I, hc]
    refine pk_le N i (fun q => absurd q (by omega)) (fun _ => ⟨pk_in i 64 (by omega) rfl, ?_⟩) rfl rfl (by omega) (by omega)
    rw [pk_cl i rfl (by omega), hf i (by omega)]
    refine b0 (fun q => ?_) (fun q => ?_)
    · rw [if_neg (by rw [q]; decide)] at h
      exact ih (i + 1) T I (by omega) hc hf hT hm h (by first | rfl | (simp (disch := omega) only [nI_lit, nI_ofInt1, nI_ofInt4, nI_ofInt2, nI_ofInt3, mI_neg, wI_I, wI_setI, wI_setR, forall_eq, nI_add, pk_mul, pk_sub, pk_div, pk_rem, nI_clamp, nI_leI, nI_ltI, nI_eq, vin_iff, nar0, nar1, nF_ap, bF_ap, oF_ap, bI_0, bI_1, and255, bu_w, bu_p, bu_90, bu_9, row_w, row_at, nF_up, nI_ofIntm] <;> first | done | omega | (congr 1; omega)))
    · rw [if_pos q] at h
      obtain ⟨c, e, hc128⟩ := hm2 i (by omega) q
      rw [e] at h
      simp only at h
      rw [hm i (by omega), e]
      simp only [oI]
      simp (disch := omega) only [nI_lit, nI_ofInt1, nI_ofInt4, nI_ofInt2, nI_ofInt3, mI_neg, wI_I, wI_setI, wI_setR, forall_eq, nI_add, pk_mul, pk_sub, pk_div, pk_rem, nI_clamp, nI_leI, nI_ltI, nI_eq, vin_iff, nar0, nar1, nF_ap, bF_ap, oF_ap, bI_0, bI_1, and255, bu_w, bu_p, bu_90, bu_9, row_w, row_at, nF_up, nI_ofIntm]
      refine ⟨by omega, by omega, ?_⟩
      refine ih (i + 1) (up T c false) _ (by omega) hc hf ?_ hm ?_ rfl
      · rw [← bF_up, ← hT]; rfl
      · have e2 : fx_row (fx_w I 88 c (nI 0)) 88 (bF (tbT fr m n (i + 1) (up T c false))) = fx_row I 88 (bF (tbT fr m n (i + 1) (up T c false))) := row_row _ _ _ _
        rw [e2]
        exact h
theorem cM_takeBack {F : fx_S → Prop} (hS : shM S) {fr : Nat → Bool} {m : Nat → Option Nat} {T : Nat → Bool} (N : Nat) (hN : N ≤ 64) (hm2 : ∀ j, j < N → fr j = true → ∃ c, m j = some c ∧ c < 128) (hc : I 85 10 = nI N) (hf : ∀ j, j < N → I 92 j = bI (fr j)) (hT : I 88 = bF T) (hm : ∀ j, j < N → I 91 j = oI (m j))
    (h : F (fx_wI S (fx_row I 88 (bF (tbT fr m N 0 T))))) : fx_Go G (0, 0) mm_M_takeBack 0 [(0, fx_r G 85)] [] (fx_wI S I) (fx_qv F Q) := by
  refine bs_M_takeBack_0 hS.w ?_
  exact cM_takeBack2 hS N hN hm2 N 0 T I (by omega) hc hf hT hm h rfl
end MGIVE
