/-! The class's runs. -/
theorem rn_b : ∀ (n : Nat) (l : List (Option Nat)) (b b' : Nat), l.length ≤ n → (rn b l).length = (rn b' l).length
  | 0, l, b, b', h => by
    have : l = [] := List.eq_nil_of_length_eq_zero (by omega)
    subst this
    rfl
  | n + 1, l, b, b', h => by
    cases l with
    | nil => rfl
    | cons x t =>
      simp only [List.length_cons] at h
      cases x with
      | none =>
        rw [rn_none, rn_none]
        simp only [List.length_cons]
        rw [rn_b n (t.drop (cont none t)) b b' (by rw [List.length_drop]; omega)]
      | some c => rw [rn_some, rn_some]; rfl
theorem drop_len {α : Type} {l t : List α} {x : α} {i : Nat} (hd : l.drop i = x :: t) : i < l.length ∧ t.length = l.length - (i + 1) := by
  have := congrArg List.length hd
  rw [List.length_drop, List.length_cons] at this
  omega
theorem drop_ex {l : List (Option Nat)} {i : Nat} (h : i < l.length) : ∃ t, l.drop i = go l i :: t := ⟨_, dropO l i h⟩
/-- where run j begins -/
def rst (l : List (Option Nat)) (j : Nat) : Nat := (((rls l).take j).map Prod.snd).sum
section CY2
variable {G : fx_G} {S : fx_S} {I : Nat → Nat → Int32} {Q : fx_R → fx_S → Prop} {F : Int32 → fx_S → Prop}
theorem cY_rc_skip (hS : shC S) (a : Nat) (ha : isY a) {l : List (Option Nat)} (hL : LyP I a l) (hl : yok l) {i : Nat} {x : Option Nat} {t : List (Option Nat)} (hd : l.drop i = x :: t) (v1 : Int32) : ∀ (m q : Nat) {v2 : Int32}, q + m = cont x t →
    fx_Go G (1, 13) mm_Y_runCount 4 [(0, fx_r G a), (1, .int v1), (2, .int (nI (i + 1 + cont x t)))] [] (fx_wI S I) Q → v2 = nI (i + 1 + q) →
    fx_Go G (1, 13) mm_Y_runCount 4 [(0, fx_r G a), (1, .int v1), (2, .int v2)] [] (fx_wI S I) Q := by
  have hdl := drop_len hd
  have hct := cont_le x t
  have hl1 := hl.1
  intro m
  induction m with
  | zero => intro q v2 hq h e2; subst e2; rw [show q = cont x t by omega]; exact h
  | succ m ih =>
    intro q v2 hq h e2
    subst e2
    have hs := srt_in hd (show q < cont x t by omega)
    refine bs_Y_runCount_4 hS.w a _ _ ha ?_
    simp only [wI_I, hL.1]
    refine pk_le l.length (i + 1 + q) (fun z => absurd z (by omega)) (fun _ => ?_) rfl rfl (by omega) (by omega)
    refine cY_startsRun hS a ha hL hl (i + 1 + q) (by omega) ⟨hS, ?_⟩ rfl
    rw [hs]
    exact ⟨fun _ => ih (q + 1) (by omega) h (by first | rfl | (simp (disch := omega) only [nI_lit, nI_ofInt1, nI_ofInt4, nI_ofInt2, nI_ofInt3, mI_neg, wI_I, wI_setI, wI_setR, forall_eq, nI_add, pk_mul, pk_sub, pk_div, pk_rem, nI_clamp, nI_leI, nI_ltI, nI_eq, vin_iff, nar0, nar1, nF_ap, bF_ap, oF_ap, bI_0, bI_1, and255, bu_w, bu_p, bu_90, bu_9, row_w, row_at, nF_up, nI_ofIntm] <;> first | done | omega | (congr 1; omega))), fun z => absurd rfl z⟩
theorem cY_rc4 (hS : shC S) (a : Nat) (ha : isY a) {l : List (Option Nat)} (hL : LyP I a l) (hl : yok l) : ∀ (m i n : Nat) {v1 v2 : Int32}, l.length - i ≤ m → i ≤ l.length → (i < l.length → srt l i = true) → n ≤ i → F (nI (n + (rls (l.drop i)).length)) (fx_wI S I) → v1 = nI n → v2 = nI i →
    fx_Go G (1, 13) mm_Y_runCount 4 [(0, fx_r G a), (1, .int v1), (2, .int v2)] [] (fx_wI S I) (fx_qi F Q) := by
  have hl1 := hl.1
  intro m
  have fin : ∀ (i n : Nat) {v1 v2 : Int32}, i = l.length → F (nI (n + (rls (l.drop i)).length)) (fx_wI S I) → v1 = nI n → v2 = nI i → fx_Go G (1, 13) mm_Y_runCount 4 [(0, fx_r G a), (1, .int v1), (2, .int v2)] [] (fx_wI S I) (fx_qi F Q) := by
    intro i n v1 v2 hi h e1 e2
    subst e1 e2
    rw [List.drop_of_length_le (by omega)] at h
    refine bs_Y_runCount_4 hS.w a _ _ ha ?_
    simp only [wI_I, hL.1]
    exact pk_le l.length i (fun _ => h) (fun z => absurd z (by omega)) rfl rfl (by omega) (by omega)
  induction m with
  | zero => intro i n v1 v2 hm hi hs hn h e1 e2; exact fin i n (by omega) h e1 e2
  | succ m ih =>
    intro i n v1 v2 hm hi hs hn h e1 e2
    by_cases hil : i = l.length
    · exact fin i n hil h e1 e2
    subst e1 e2
    obtain ⟨t, hd⟩ := drop_ex (show i < l.length by omega)
    have hdl := drop_len hd
    have hct := cont_le (go l i) t
    have hnx := tl_drop (c := cont (go l i) t) hd
    rw [hd, rls_cons, List.length_cons, hnx] at h
    refine bs_Y_runCount_4 hS.w a _ _ ha ?_
    simp only [wI_I, hL.1]
    refine pk_le l.length i (fun z => absurd z (by omega)) (fun _ => ?_) rfl rfl (by omega) (by omega)
    refine cY_startsRun hS a ha hL hl i (by omega) ⟨hS, ?_⟩ rfl
    rw [hs (by omega)]
    refine ⟨fun z => absurd z (by decide), fun _ => ?_⟩
    refine cY_rc_skip hS a ha hL hl hd _ (cont (go l i) t) 0 (by omega) ?_ (by first | rfl | (simp (disch := omega) only [nI_lit, nI_ofInt1, nI_ofInt4, nI_ofInt2, nI_ofInt3, mI_neg, wI_I, wI_setI, wI_setR, forall_eq, nI_add, pk_mul, pk_sub, pk_div, pk_rem, nI_clamp, nI_leI, nI_ltI, nI_eq, vin_iff, nar0, nar1, nF_ap, bF_ap, oF_ap, bI_0, bI_1, and255, bu_w, bu_p, bu_90, bu_9, row_w, row_at, nF_up, nI_ofIntm] <;> first | done | omega | (congr 1; omega)))
    refine ih (i + 1 + cont (go l i) t) (n + 1) (by omega) (by omega) (fun z => srt_stop hd (by omega)) (by omega) ?_ (by first | rfl | (simp (disch := omega) only [nI_lit, nI_ofInt1, nI_ofInt4, nI_ofInt2, nI_ofInt3, mI_neg, wI_I, wI_setI, wI_setR, forall_eq, nI_add, pk_mul, pk_sub, pk_div, pk_rem, nI_clamp, nI_leI, nI_ltI, nI_eq, vin_iff, nar0, nar1, nF_ap, bF_ap, oF_ap, bI_0, bI_1, and255, bu_w, bu_p, bu_90, bu_9, row_w, row_at, nF_up, nI_ofIntm] <;> first | done | omega | (congr 1; omega))) rfl
    rw [show i + 1 + cont (go l i) t = i + cont (go l i) t + 1 by omega, show n + 1 + (rls (l.drop (i + cont (go l i) t + 1))).length = n + ((rls (l.drop (i + cont (go l i) t + 1))).length + 1) by omega]
    exact h
theorem cY_runCount (hS : shC S) (a : Nat) (ha : isY a) {l : List (Option Nat)} (hL : LyP I a l) (hl : yok l) (h : F (nI (rls l).length) (fx_wI S I)) : fx_Go G (1, 13) mm_Y_runCount 0 [(0, fx_r G a)] [] (fx_wI S I) (fx_qi F Q) := by
  refine bs_Y_runCount_0 hS.w a ha ?_
  exact cY_rc4 hS a ha hL hl l.length 0 0 (by omega) (by omega) (fun _ => rfl) (by omega) (by rw [List.drop_zero, Nat.zero_add]; exact h) rfl rfl
theorem cY_lengthOfRun (hS : shC S) (a : Nat) (ha : isY a) {l : List (Option Nat)} (hL : LyP I a l) (hl : yok l) {i : Nat} {x : Option Nat} {t : List (Option Nat)} (hd : l.drop i = x :: t) {v1 : Int32} (h : F (nI (cont x t + 1)) (fx_wI S I)) (e1 : v1 = nI i) :
    fx_Go G (1, 13) mm_Y_lengthOfRun 0 [(0, fx_r G a), (1, .int v1)] [] (fx_wI S I) (fx_qi F Q) := by
  subst e1
  have hdl := drop_len hd
  have hct := cont_le x t
  have hl1 := hl.1
  have loop : ∀ (m q : Nat) {v2 : Int32}, q + m = cont x t → v2 = nI (i + 1 + q) → fx_Go G (1, 13) mm_Y_lengthOfRun 4 [(0, fx_r G a), (1, .int (nI i)), (2, .int v2)] [] (fx_wI S I) (fx_qi F Q) := by
    intro m
    induction m with
    | zero =>
      intro q v2 hq e2
      subst e2
      have eq : q = cont x t := by omega
      have esub : nI (i + 1 + q) - nI i = nI (cont x t + 1) := by rw [pk_sub (by omega)]; congr 1; omega
      refine bs_Y_lengthOfRun_4 hS.w a _ _ ha ?_
      simp only [wI_I, hL.1]
      rw [esub]
      refine pk_le l.length (i + 1 + q) (fun _ => h) (fun z => ?_) rfl rfl (by omega) (by omega)
      refine cY_startsRun hS a ha hL hl (i + 1 + q) (by omega) ⟨hS, ?_⟩ rfl
      rw [eq, srt_stop hd (by omega)]
      exact ⟨fun _ => h, fun y => absurd y (by decide)⟩
    | succ m ih =>
      intro q v2 hq e2
      subst e2
      refine bs_Y_lengthOfRun_4 hS.w a _ _ ha ?_
      simp only [wI_I, hL.1]
      refine pk_le l.length (i + 1 + q) (fun z => absurd z (by omega)) (fun _ => ?_) rfl rfl (by omega) (by omega)
      refine cY_startsRun hS a ha hL hl (i + 1 + q) (by omega) ⟨hS, ?_⟩ rfl
      rw [srt_in hd (show q < cont x t by omega)]
      exact ⟨fun y => absurd rfl y, fun _ => ih (q + 1) (by omega) (by first | rfl | (simp (disch := omega) only [nI_lit, nI_ofInt1, nI_ofInt4, nI_ofInt2, nI_ofInt3, mI_neg, wI_I, wI_setI, wI_setR, forall_eq, nI_add, pk_mul, pk_sub, pk_div, pk_rem, nI_clamp, nI_leI, nI_ltI, nI_eq, vin_iff, nar0, nar1, nF_ap, bF_ap, oF_ap, bI_0, bI_1, and255, bu_w, bu_p, bu_90, bu_9, row_w, row_at, nF_up, nI_ofIntm] <;> first | done | omega | (congr 1; omega)))⟩
  refine bs_Y_lengthOfRun_0 hS.w a _ ha ?_
  exact loop (cont x t) 0 (by omega) (by first | rfl | (simp (disch := omega) only [nI_lit, nI_ofInt1, nI_ofInt4, nI_ofInt2, nI_ofInt3, mI_neg, wI_I, wI_setI, wI_setR, forall_eq, nI_add, pk_mul, pk_sub, pk_div, pk_rem, nI_clamp, nI_leI, nI_ltI, nI_eq, vin_iff, nar0, nar1, nF_ap, bF_ap, oF_ap, bI_0, bI_1, and255, bu_w, bu_p, bu_90, bu_9, row_w, row_at, nF_up, nI_ofIntm] <;> first | done | omega | (congr 1; omega)))
theorem cY_ab_skip (hS : shC S) (a : Nat) (ha : isY a) {l : List (Option Nat)} (hL : LyP I a l) (hl : yok l) {i : Nat} {x : Option Nat} {t : List (Option Nat)} (hd : l.drop i = x :: t) (v1 : Int32) : ∀ (m q : Nat) {v2 : Int32}, q + m = cont x t →
    fx_Go G (1, 13) mm_Y_attributeBytes 4 [(0, fx_r G a), (1, .int v1), (2, .int (nI (i + 1 + cont x t)))] [] (fx_wI S I) Q → v2 = nI (i + 1 + q) →
    fx_Go G (1, 13) mm_Y_attributeBytes 4 [(0, fx_r G a), (1, .int v1), (2, .int v2)] [] (fx_wI S I) Q := by
  have hdl := drop_len hd
  have hct := cont_le x t
  have hl1 := hl.1
  intro m
  induction m with
  | zero => intro q v2 hq h e2; subst e2; rw [show q = cont x t by omega]; exact h
  | succ m ih =>
    intro q v2 hq h e2
    subst e2
    have hs := srt_in hd (show q < cont x t by omega)
    refine bs_Y_attributeBytes_4 hS.w a _ _ ha ?_
    simp only [wI_I, hL.1]
    refine pk_le l.length (i + 1 + q) (fun z => absurd z (by omega)) (fun _ => ?_) rfl rfl (by omega) (by omega)
    refine cY_startsRun hS a ha hL hl (i + 1 + q) (by omega) ⟨hS, ?_⟩ rfl
    rw [hs]
    exact ⟨fun _ => ih (q + 1) (by omega) h (by first | rfl | (simp (disch := omega) only [nI_lit, nI_ofInt1, nI_ofInt4, nI_ofInt2, nI_ofInt3, mI_neg, wI_I, wI_setI, wI_setR, forall_eq, nI_add, pk_mul, pk_sub, pk_div, pk_rem, nI_clamp, nI_leI, nI_ltI, nI_eq, vin_iff, nar0, nar1, nF_ap, bF_ap, oF_ap, bI_0, bI_1, and255, bu_w, bu_p, bu_90, bu_9, row_w, row_at, nF_up, nI_ofIntm] <;> first | done | omega | (congr 1; omega))), fun z => absurd rfl z⟩
theorem cY_ab4 (hS : shC S) (a : Nat) (ha : isY a) {l : List (Option Nat)} (hL : LyP I a l) (hl : yok l) : ∀ (m i n : Nat) {v1 v2 : Int32}, l.length - i ≤ m → i ≤ l.length → (i < l.length → srt l i = true) → n ≤ 5 + 3 * i → F (nI (n + (rn 48 (l.drop i)).length)) (fx_wI S I) → v1 = nI n → v2 = nI i →
    fx_Go G (1, 13) mm_Y_attributeBytes 4 [(0, fx_r G a), (1, .int v1), (2, .int v2)] [] (fx_wI S I) (fx_qi F Q) := by
  have hl1 := hl.1
  intro m
  have fin : ∀ (i n : Nat) {v1 v2 : Int32}, i = l.length → F (nI (n + (rn 48 (l.drop i)).length)) (fx_wI S I) → v1 = nI n → v2 = nI i → fx_Go G (1, 13) mm_Y_attributeBytes 4 [(0, fx_r G a), (1, .int v1), (2, .int v2)] [] (fx_wI S I) (fx_qi F Q) := by
    intro i n v1 v2 hi h e1 e2
    subst e1 e2
    rw [List.drop_of_length_le (by omega)] at h
    refine bs_Y_attributeBytes_4 hS.w a _ _ ha ?_
    simp only [wI_I, hL.1]
    exact pk_le l.length i (fun _ => h) (fun z => absurd z (by omega)) rfl rfl (by omega) (by omega)
  induction m with
  | zero => intro i n v1 v2 hm hi hs hn h e1 e2; exact fin i n (by omega) h e1 e2
  | succ m ih =>
    intro i n v1 v2 hm hi hs hn h e1 e2
    by_cases hil : i = l.length
    · exact fin i n hil h e1 e2
    subst e1 e2
    obtain ⟨t, hd⟩ := drop_ex (show i < l.length by omega)
    have hdl := drop_len hd
    have hct := cont_le (go l i) t
    have hnx := tl_drop (c := cont (go l i) t) hd
    have hg : ∀ c, go l i = some c → c < 2 ^ 31 := fun c e => by have := hl.go i c e; omega
    have hLi := hL.2 i (by omega)
    generalize hx : go l i = x at *
    refine bs_Y_attributeBytes_4 hS.w a _ _ ha ?_
    simp only [wI_I, hL.1]
    refine pk_le l.length i (fun z => absurd z (by omega)) (fun _ => ?_) rfl rfl (by omega) (by omega)
    refine cY_startsRun hS a ha hL hl i (by omega) ⟨hS, ?_⟩ rfl
    rw [hs (by omega)]
    refine ⟨fun z => absurd z (by decide), fun _ => ⟨pk_in i 63 (by omega) rfl, ?_⟩⟩
    simp only [wI_I]
    rw [pk_cl i rfl (by omega), hLi, show ((-1 : Int32)) = mI from rfl, oI_m hg]
    refine ⟨fun z => ?_, fun z => ?_⟩
    · obtain ⟨c, e⟩ := Option.ne_none_iff_exists'.mp z
      subst e
      rw [hd, rn_some, hnx] at h
      simp only [List.length_cons] at h
      refine cY_ab_skip hS a ha hL hl hd _ (cont (some c) t) 0 (by omega) ?_ (by first | rfl | (simp (disch := omega) only [nI_lit, nI_ofInt1, nI_ofInt4, nI_ofInt2, nI_ofInt3, mI_neg, wI_I, wI_setI, wI_setR, forall_eq, nI_add, pk_mul, pk_sub, pk_div, pk_rem, nI_clamp, nI_leI, nI_ltI, nI_eq, vin_iff, nar0, nar1, nF_ap, bF_ap, oF_ap, bI_0, bI_1, and255, bu_w, bu_p, bu_90, bu_9, row_w, row_at, nF_up, nI_ofIntm] <;> first | done | omega | (congr 1; omega)))
      refine ih (i + 1 + cont (some c) t) (n + 3) (by omega) (by omega) (fun z => srt_stop hd (by omega)) (by omega) ?_ (by first | rfl | (simp (disch := omega) only [nI_lit, nI_ofInt1, nI_ofInt4, nI_ofInt2, nI_ofInt3, mI_neg, wI_I, wI_setI, wI_setR, forall_eq, nI_add, pk_mul, pk_sub, pk_div, pk_rem, nI_clamp, nI_leI, nI_ltI, nI_eq, vin_iff, nar0, nar1, nF_ap, bF_ap, oF_ap, bI_0, bI_1, and255, bu_w, bu_p, bu_90, bu_9, row_w, row_at, nF_up, nI_ofIntm] <;> first | done | omega | (congr 1; omega))) rfl
      rw [show i + 1 + cont (some c) t = i + cont (some c) t + 1 by omega, rn_b _ (l.drop (i + cont (some c) t + 1)) 48 c (Nat.le_refl _), show n + 3 + (rn c (l.drop (i + cont (some c) t + 1))).length = n + ((rn c (l.drop (i + cont (some c) t + 1))).length + 1 + 1 + 1) by omega]
      exact h
    · subst z
      rw [hd, rn_none, hnx] at h
      simp only [List.length_cons] at h
      refine cY_ab_skip hS a ha hL hl hd _ (cont none t) 0 (by omega) ?_ (by first | rfl | (simp (disch := omega) only [nI_lit, nI_ofInt1, nI_ofInt4, nI_ofInt2, nI_ofInt3, mI_neg, wI_I, wI_setI, wI_setR, forall_eq, nI_add, pk_mul, pk_sub, pk_div, pk_rem, nI_clamp, nI_leI, nI_ltI, nI_eq, vin_iff, nar0, nar1, nF_ap, bF_ap, oF_ap, bI_0, bI_1, and255, bu_w, bu_p, bu_90, bu_9, row_w, row_at, nF_up, nI_ofIntm] <;> first | done | omega | (congr 1; omega)))
      refine ih (i + 1 + cont none t) (n + 2) (by omega) (by omega) (fun z => srt_stop hd (by omega)) (by omega) ?_ (by first | rfl | (simp (disch := omega) only [nI_lit, nI_ofInt1, nI_ofInt4, nI_ofInt2, nI_ofInt3, mI_neg, wI_I, wI_setI, wI_setR, forall_eq, nI_add, pk_mul, pk_sub, pk_div, pk_rem, nI_clamp, nI_leI, nI_ltI, nI_eq, vin_iff, nar0, nar1, nF_ap, bF_ap, oF_ap, bI_0, bI_1, and255, bu_w, bu_p, bu_90, bu_9, row_w, row_at, nF_up, nI_ofIntm] <;> first | done | omega | (congr 1; omega))) rfl
      rw [show i + 1 + cont none t = i + cont none t + 1 by omega, show n + 2 + (rn 48 (l.drop (i + cont none t + 1))).length = n + ((rn 48 (l.drop (i + cont none t + 1))).length + 1 + 1) by omega]
      exact h
theorem cY_attributeBytes (hS : shC S) (a : Nat) (ha : isY a) {l : List (Option Nat)} (hL : LyP I a l) (hl : yok l) (h : F (nI (5 + (rn 48 l).length)) (fx_wI S I)) : fx_Go G (1, 13) mm_Y_attributeBytes 0 [(0, fx_r G a)] [] (fx_wI S I) (fx_qi F Q) := by
  refine bs_Y_attributeBytes_0 hS.w a ha ?_
  exact cY_ab4 hS a ha hL hl l.length 0 5 (by omega) (by omega) (fun _ => rfl) (by omega) (by rw [List.drop_zero]; exact h) rfl rfl
end CY2
