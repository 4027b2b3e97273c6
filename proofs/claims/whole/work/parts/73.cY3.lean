/-! The class's layouts: finding a run, appending, bytes. -/
def srch (v : Int32) : List (Option Nat × Nat) → Nat → Nat → Int32
  | [], _, _ => mI
  | q :: rs, n, i => if v = nI n then nI i else srch v rs (n + 1) (i + q.2)
def runO (x : Option Nat) (n : Nat) : List (Option Nat) := (List.range n).map (fun k => x.map (· + k))
theorem runO_s (x : Option Nat) (n : Nat) : runO x (n + 1) = runO x n ++ [x.map (· + n)] := by
  unfold runO
  rw [List.range_succ, List.map_append]
  rfl
theorem runO_len (x : Option Nat) (n : Nat) : (runO x n).length = n := by unfold runO; simp
theorem go_snoc (l : List (Option Nat)) (x : Option Nat) (k : Nat) : go (l ++ [x]) k = if k = l.length then x else go l k := by
  by_cases h : k < l.length
  · rw [go_l h, if_neg (by omega)]
  · rw [go_r (by omega)]
    by_cases h2 : k = l.length
    · rw [if_pos h2, h2, Nat.sub_self]; rfl
    · rw [if_neg h2, go_out (l := l) (by omega), go_out (by simp; omega)]
theorem rowO_snoc {I : Nat → Nat → Int32} {a : Nat} {l : List (Option Nat)} (h : rowO I a l) (x : Option Nat) : rowO (fx_w I a l.length (oI x)) a (l ++ [x]) := by
  intro k hk
  rw [List.length_append, List.length_singleton] at hk
  rw [go_snoc]
  by_cases h2 : k = l.length
  · subst h2; rw [if_pos rfl, fw_at]
  · rw [if_neg h2, fw_nj h2]
    exact h k (by omega)
section CY3
variable {G : fx_G} {S : fx_S} {I : Nat → Nat → Int32} {Q : fx_R → fx_S → Prop}
theorem cY_sr_skip (hS : shC S) (a : Nat) (ha : isY a) {l : List (Option Nat)} (hL : LyP I a l) (hl : yok l) {i : Nat} {x : Option Nat} {t : List (Option Nat)} (hd : l.drop i = x :: t) (v1 v2 : Int32) : ∀ (m q : Nat) {v3 : Int32}, q + m = cont x t →
    fx_Go G (1, 13) mm_Y_startOfRun 4 [(0, fx_r G a), (1, .int v1), (2, .int v2), (3, .int (nI (i + 1 + cont x t)))] [] (fx_wI S I) Q → v3 = nI (i + 1 + q) →
    fx_Go G (1, 13) mm_Y_startOfRun 4 [(0, fx_r G a), (1, .int v1), (2, .int v2), (3, .int v3)] [] (fx_wI S I) Q := by
  have hdl := drop_len hd
  have hct := cont_le x t
  have hl1 := hl.1
  intro m
  induction m with
  | zero => intro q v3 hq h e2; subst e2; rw [show q = cont x t by omega]; exact h
  | succ m ih =>
    intro q v3 hq h e2
    subst e2
    have hs := srt_in hd (show q < cont x t by omega)
    refine bs_Y_startOfRun_4 hS.w a _ _ _ ha ?_
    simp only [wI_I, hL.1]
    refine pk_le l.length (i + 1 + q) (fun z => absurd z (by omega)) (fun _ => ?_) rfl rfl (by omega) (by omega)
    refine cY_startsRun hS a ha hL hl (i + 1 + q) (by omega) ⟨hS, ?_⟩ rfl
    rw [hs]
    exact ⟨fun _ => ih (q + 1) (by omega) h (by first | rfl | (simp (disch := omega) only [nI_lit, nI_ofInt1, nI_ofInt4, nI_ofInt2, nI_ofInt3, mI_neg, wI_I, wI_setI, wI_setR, forall_eq, nI_add, pk_mul, pk_sub, pk_div, pk_rem, nI_clamp, nI_leI, nI_ltI, nI_eq, vin_iff, nar0, nar1, nF_ap, bF_ap, oF_ap, bI_0, bI_1, and255, bu_w, bu_p, bu_90, bu_9, row_w, row_at, nF_up, nI_ofIntm] <;> first | done | omega | (congr 1; omega))), fun z => absurd rfl z⟩
theorem cY_sr4 {F : Int32 → fx_S → Prop} (hS : shC S) (a : Nat) (ha : isY a) {l : List (Option Nat)} (hL : LyP I a l) (hl : yok l) (v1 : Int32) : ∀ (m i n : Nat) {v2 v3 : Int32}, l.length - i ≤ m → i ≤ l.length → (i < l.length → srt l i = true) → F (srch v1 (rls (l.drop i)) n i) (fx_wI S I) → v2 = nI n → v3 = nI i →
    fx_Go G (1, 13) mm_Y_startOfRun 4 [(0, fx_r G a), (1, .int v1), (2, .int v2), (3, .int v3)] [] (fx_wI S I) (fx_qi F Q) := by
  have hl1 := hl.1
  intro m
  have fin : ∀ (i n : Nat) {v2 v3 : Int32}, i = l.length → F (srch v1 (rls (l.drop i)) n i) (fx_wI S I) → v2 = nI n → v3 = nI i → fx_Go G (1, 13) mm_Y_startOfRun 4 [(0, fx_r G a), (1, .int v1), (2, .int v2), (3, .int v3)] [] (fx_wI S I) (fx_qi F Q) := by
    intro i n v2 v3 hi h e1 e2
    subst e1 e2
    rw [List.drop_of_length_le (by omega)] at h
    refine bs_Y_startOfRun_4 hS.w a _ _ _ ha ?_
    simp only [wI_I, hL.1]
    exact pk_le l.length i (fun _ => h) (fun z => absurd z (by omega)) rfl rfl (by omega) (by omega)
  induction m with
  | zero => intro i n v2 v3 hm hi hs h e1 e2; exact fin i n (by omega) h e1 e2
  | succ m ih =>
    intro i n v2 v3 hm hi hs h e1 e2
    by_cases hil : i = l.length
    · exact fin i n hil h e1 e2
    subst e1 e2
    obtain ⟨t, hd⟩ := drop_ex (show i < l.length by omega)
    have hdl := drop_len hd
    have hct := cont_le (go l i) t
    have hnx := tl_drop (c := cont (go l i) t) hd
    rw [hd, rls_cons, hnx] at h
    unfold srch at h
    refine bs_Y_startOfRun_4 hS.w a _ _ _ ha ?_
    simp only [wI_I, hL.1]
    refine pk_le l.length i (fun z => absurd z (by omega)) (fun _ => ?_) rfl rfl (by omega) (by omega)
    refine cY_startsRun hS a ha hL hl i (by omega) ⟨hS, ?_⟩ rfl
    rw [hs (by omega)]
    refine ⟨fun z => absurd z (by decide), fun _ => ⟨fun z => ?_, fun z => ?_⟩⟩
    · rw [if_neg (fun y => z y.symm)] at h
      refine cY_sr_skip hS a ha hL hl hd _ _ (cont (go l i) t) 0 (by omega) ?_ (by first | rfl | (simp (disch := omega) only [nI_lit, nI_ofInt1, nI_ofInt4, nI_ofInt2, nI_ofInt3, mI_neg, wI_I, wI_setI, wI_setR, forall_eq, nI_add, pk_mul, pk_sub, pk_div, pk_rem, nI_clamp, nI_leI, nI_ltI, nI_eq, vin_iff, nar0, nar1, nF_ap, bF_ap, oF_ap, bI_0, bI_1, and255, bu_w, bu_p, bu_90, bu_9, row_w, row_at, nF_up, nI_ofIntm] <;> first | done | omega | (congr 1; omega)))
      refine ih (i + 1 + cont (go l i) t) (n + 1) (by omega) (by omega) (fun z => srt_stop hd (by omega)) ?_ (nI_1 n) rfl
      rw [show i + 1 + cont (go l i) t = i + cont (go l i) t + 1 by omega]
      exact h
    · rw [if_pos z.symm] at h
      exact h
theorem cY_startOfRun {F : Int32 → fx_S → Prop} (hS : shC S) (a : Nat) (ha : isY a) {l : List (Option Nat)} (hL : LyP I a l) (hl : yok l) (v1 : Int32) (h : F (srch v1 (rls l) 0 0) (fx_wI S I)) : fx_Go G (1, 13) mm_Y_startOfRun 0 [(0, fx_r G a), (1, .int v1)] [] (fx_wI S I) (fx_qi F Q) := by
  refine bs_Y_startOfRun_0 hS.w a _ ha ?_
  exact cY_sr4 hS a ha hL hl v1 l.length 0 0 (by omega) (by omega) (fun _ => rfl) (by rw [List.drop_zero]; exact h) rfl rfl
theorem cY_append2 {F : fx_S → Prop} (hS : shC S) (a : Nat) (ha : isY a) (l : List (Option Nat)) (x : Option Nat) (n : Nat) (hx : ∀ c, x = some c → c < 256) (hn : l.length + n ≤ 63) : ∀ (m k : Nat) (I : Nat → Nat → Int32) {v1 v2 v3 : Int32}, k + m = n → LyP I a (l ++ runO x k) →
    (∀ I', FC [a, a + 1] I I' → LyP I' a (l ++ runO x n) → F (fx_wI S I')) → v1 = oI x → v2 = nI n → v3 = nI k →
    fx_Go G (0, 0) mm_Y_append 2 [(0, fx_r G a), (1, .int v1), (2, .int v2), (3, .int v3)] [] (fx_wI S I) (fx_qv F Q) := by
  intro m
  induction m with
  | zero =>
    intro k I v1 v2 v3 hk hL h e1 e2 e3
    subst e1 e2 e3
    have e : k = n := by omega
    subst e
    refine bs_Y_append_2 hS.w a _ _ _ ha ?_
    exact pk_le k k (fun _ => h I (FC.r _ _) hL) (fun z => absurd z (by omega)) rfl rfl (by omega) (by omega)
  | succ m ih =>
    intro k I v1 v2 v3 hk hL h e1 e2 e3
    subst e1 e2 e3
    have hlen : (l ++ runO x k).length = l.length + k := by rw [List.length_append, runO_len]
    have hln : fx_ln (fx_wI S I) (a + 1) = 63 := (shC.w (I := I) hS).lYl ha
    have hx' : ∀ c, x = some c → c < 2 ^ 31 := fun c e => by have := hx c e; omega
    have nx : ∀ y : Int32, y = oI (x.map (· + k)) → fx_Go G (0, 0) mm_Y_append 2 [(0, fx_r G a), (1, .int (oI x)), (2, .int (nI n)), (3, .int (nI k + Int32.ofInt 1))] [] (fx_wI S (fx_w (fx_w I (a + 1) (l.length + k) y) a 1 (fx_w I (a + 1) (l.length + k) y a 1 + 1))) (fx_qv F Q) := by
      intro y ey
      subst ey
      have e1 : fx_w I (a + 1) (l.length + k) (oI (x.map (· + k))) a 1 = nI (l.length + k) := by rw [fw_ne (by omega), hL.1, hlen]
      rw [e1, show nI (l.length + k) + 1 = nI (l.length + k + 1) from nI_1 _]
      refine ih (k + 1) _ (by omega) ⟨?_, ?_⟩ (fun I' hF => h I' (((FC.w [a, a + 1] I (a + 1) _ _ (by simp)).tr (FC.w [a, a + 1] _ a _ _ (by simp))).tr hF)) rfl rfl (by first | rfl | (simp (disch := omega) only [nI_lit, nI_ofInt1, nI_ofInt4, nI_ofInt2, nI_ofInt3, mI_neg, wI_I, wI_setI, wI_setR, forall_eq, nI_add, pk_mul, pk_sub, pk_div, pk_rem, nI_clamp, nI_leI, nI_ltI, nI_eq, vin_iff, nar0, nar1, nF_ap, bF_ap, oF_ap, bI_0, bI_1, and255, bu_w, bu_p, bu_90, bu_9, row_w, row_at, nF_up, nI_ofIntm] <;> first | done | omega | (congr 1; omega)))
      · rw [fw_at, runO_s, ← List.append_assoc, List.length_append, hlen]; rfl
      · rw [runO_s, ← List.append_assoc]
        have := rowO_snoc hL.2 (x.map (· + k))
        rw [hlen] at this
        exact this.cg (fw_ne (by omega))
    refine bs_Y_append_2 hS.w a _ _ _ ha ?_
    rw [hln]
    simp only [wI_I, hL.1, hlen, wI_setI, forall_eq]
    rw [pk_cl (l.length + k) rfl (by omega), show ((-1 : Int32)) = mI from rfl, oI_m hx']
    refine pk_le n k (fun z => absurd z (by omega)) (fun _ => ?_) rfl rfl (by omega) (by omega)
    refine pk_le 63 (l.length + k) (fun z => absurd z (by omega)) (fun _ => ?_) rfl rfl (by omega) (by omega)
    refine ⟨fun z => ⟨pk_in (l.length + k) 63 (by omega) rfl, nx _ ?_⟩, fun z => ⟨pk_in (l.length + k) 63 (by omega) rfl, nx _ ?_⟩⟩
    · obtain ⟨c, e⟩ := Option.ne_none_iff_exists'.mp z
      rw [e]
      exact nI_add c k
    · rw [z]; rfl
theorem cY_append {F : fx_S → Prop} (hS : shC S) (a : Nat) (ha : isY a) {l : List (Option Nat)} (hL : LyP I a l) (x : Option Nat) (n : Nat) (hx : ∀ c, x = some c → c < 256) (hn : l.length + n ≤ 63) {v1 v2 : Int32} (h : ∀ I', FC [a, a + 1] I I' → LyP I' a (l ++ runO x n) → F (fx_wI S I')) (e1 : v1 = oI x) (e2 : v2 = nI n) :
    fx_Go G (0, 0) mm_Y_append 0 [(0, fx_r G a), (1, .int v1), (2, .int v2)] [] (fx_wI S I) (fx_qv F Q) := by
  refine bs_Y_append_0 hS.w a _ _ ha ?_
  refine cY_append2 hS a ha l x n hx hn n 0 I (by omega) ?_ h e1 e2 rfl
  have : runO x 0 = [] := rfl
  rw [this, List.append_nil]
  exact hL
end CY3
