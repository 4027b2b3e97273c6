/-! The class's layouts: their bytes. -/
theorem putL_in (b : Nat → Nat) (p : Nat) (l : List Nat) (k : Nat) (h : p ≤ k) (h2 : k < p + l.length) (h3 : k < 64) : putL b p l k = gd l (k - p) := by unfold putL; rw [if_pos ⟨h, h2, h3⟩]
theorem putL_no (b : Nat → Nat) (p : Nat) (l : List Nat) (k : Nat) (h : k < p ∨ p + l.length ≤ k) : putL b p l k = b k := by unfold putL; rw [if_neg (by omega)]
theorem go_ext {a b : List (Option Nat)} (hl : a.length = b.length) (h : ∀ k, k < a.length → go a k = go b k) : a = b := by
  apply List.ext_getElem hl
  intro i h1 h2
  have := h i h1
  unfold go at this
  rw [List.getD_eq_getElem?_getD, List.getD_eq_getElem?_getD, List.getElem?_eq_getElem h1, List.getElem?_eq_getElem h2] at this
  exact this
theorem runO_go (x : Option Nat) (n i : Nat) (h : i < n) : go (runO x n) i = x.map (· + i) := by
  unfold go runO
  rw [List.getD_eq_getElem?_getD, List.getElem?_map, List.getElem?_range h]
  rfl
theorem runO_c (t : List (Option Nat)) (x : Option Nat) : runO x (cont x t + 1) = (x :: t).take (cont x t + 1) := by
  have hct := cont_le x t
  refine go_ext ?_ (fun i hi => ?_)
  · rw [runO_len, List.length_take, List.length_cons]; omega
  · rw [runO_len] at hi
    rw [runO_go _ _ _ hi, go_take _ _ _ hi]
    cases x with
    | none => exact (cont_none t i (by omega)).symm
    | some c => exact (cont_some c t i (by omega)).symm
section CY4
variable {G : fx_G} {S : fx_S} {I : Nat → Nat → Int32} {Q : fx_R → fx_S → Prop}
theorem cY_en92 (hS : shC S) (a v : Nat) (ha : isY a) (hv : isA v 64) (b : Nat → Nat) (hb : I v = nF b) {v3 v4 v5 v6 : Int32} (p i : Nat) (hp : p < 64) (e4 : v4 = nI p) (e6 : v6 = nI i)
    (h : fx_Go G (1, 13) mm_Y_encode 12 [(0, fx_r G a), (1, fx_r G v), (3, .int v3), (4, .int (nI p)), (5, .int v5), (6, .int (nI (i + 1)))] [] (fx_wI S (fx_row I v (nF (up b p (b p + 1))))) Q) :
    fx_Go G (1, 13) mm_Y_encode 92 [(0, fx_r G a), (1, fx_r G v), (3, .int v3), (4, .int v4), (5, .int v5), (6, .int v6)] [] (fx_wI S I) Q := by
  subst e4 e6
  refine bs_Y_encode_92 hS.w a v _ _ _ _ ha hv ?_
  simp only [wI_setI, forall_eq, wI_I]
  rw [pk_cl p rfl (by omega), hb]
  refine ⟨pk_in p 64 hp rfl, pk_in p 64 hp rfl, ?_⟩
  rw [nF_ap, show nI (b p) + 1 = nI (b p + 1) from nI_1 _, show nI i + Int32.ofInt 1 = nI (i + 1) from nI_1 i, ← row_self hb, row_w, nF_up]
  exact h
theorem cY_en_skip (hS : shC S) (a v : Nat) (ha : isY a) (hv : isA v 64) (hva : v ≠ a ∧ v ≠ a + 1) {l : List (Option Nat)} (hl : yok l) {i : Nat} {x : Option Nat} {t : List (Option Nat)} (hd : l.drop i = x :: t) (v3 v5 : Int32) (p : Nat) (hp : p < 64) : ∀ (m q : Nat) (b : Nat → Nat) (I : Nat → Nat → Int32) {v6 : Int32}, q + m = cont x t → LyP I a l → I v = nF b →
    fx_Go G (1, 13) mm_Y_encode 12 [(0, fx_r G a), (1, fx_r G v), (3, .int v3), (4, .int (nI p)), (5, .int v5), (6, .int (nI (i + 1 + cont x t)))] [] (fx_wI S (fx_row I v (nF (up b p (b p + m))))) Q → v6 = nI (i + 1 + q) →
    fx_Go G (1, 13) mm_Y_encode 12 [(0, fx_r G a), (1, fx_r G v), (3, .int v3), (4, .int (nI p)), (5, .int v5), (6, .int v6)] [] (fx_wI S I) Q := by
  have hdl := drop_len hd
  have hct := cont_le x t
  have hl1 := hl.1
  intro m
  induction m with
  | zero =>
    intro q b I v6 hq hL hb h e6
    subst e6
    have eu : up b p (b p + 0) = b := by
      funext j
      unfold up
      by_cases c : j = p
      · subst c; rw [if_pos rfl]; rfl
      · rw [if_neg c]
    rw [eu, row_self hb] at h
    rw [show q = cont x t by omega]
    exact h
  | succ m ih =>
    intro q b I v6 hq hL hb h e6
    subst e6
    have hs := srt_in hd (show q < cont x t by omega)
    refine bs_Y_encode_12 hS.w a v _ _ _ _ ha hv ?_
    simp only [wI_I, hL.1]
    refine pk_le l.length (i + 1 + q) (fun z => absurd z (by omega)) (fun _ => ?_) rfl rfl (by omega) (by omega)
    refine cY_startsRun hS a ha hL hl (i + 1 + q) (by omega) ⟨hS, ?_⟩ rfl
    rw [hs]
    refine ⟨fun _ => ?_, fun z => absurd rfl z⟩
    refine cY_en92 hS a v ha hv b hb p (i + 1 + q) hp rfl rfl ?_
    refine ih (q + 1) (up b p (b p + 1)) _ (by omega) (hL.cg (fx_row_ne _ _ (Ne.symm hva.1)) (fx_row_ne _ _ (Ne.symm hva.2))) (row_at _ _ _) ?_ (by congr 1)
    have eu : up (up b p (b p + 1)) p (up b p (b p + 1) p + m) = up b p (b p + (m + 1)) := by
      funext j
      unfold up
      by_cases c : j = p
      · subst c; simp; omega
      · simp [c]
    rw [row_row, eu]
    exact h
theorem cY_en12 {F : Int32 → fx_S → Prop} (hS : shC S) (a v : Nat) (ha : isY a) (hv : isA v 64) (hva : v ≠ a ∧ v ≠ a + 1) {l : List (Option Nat)} (hl : yok l) : ∀ (m i e w p0 : Nat) (b : Nat → Nat) (I : Nat → Nat → Int32) {v3 v4 v5 v6 : Int32}, l.length - i ≤ m → i ≤ l.length → (i < l.length → srt l i = true) → LyP I a l → I v = nF b → w < 256 → e + (rn w (l.drop i)).length < 64 → (∀ k, e ≤ k → k < 64 → b k = 0) →
    (∀ I', I' = fx_row I v (nF (putL b e (rn w (l.drop i)))) → F (nI (e + (rn w (l.drop i)).length)) (fx_wI S I')) → v3 = nI e → v4 = nI p0 → v5 = nI w → v6 = nI i →
    fx_Go G (1, 13) mm_Y_encode 12 [(0, fx_r G a), (1, fx_r G v), (3, .int v3), (4, .int v4), (5, .int v5), (6, .int v6)] [] (fx_wI S I) (fx_qi F Q) := by
  have hl1 := hl.1
  intro m
  have fin : ∀ (i e w p0 : Nat) (b : Nat → Nat) (I : Nat → Nat → Int32) {v3 v4 v5 v6 : Int32}, i = l.length → LyP I a l → I v = nF b → (∀ I', I' = fx_row I v (nF (putL b e (rn w (l.drop i)))) → F (nI (e + (rn w (l.drop i)).length)) (fx_wI S I')) → v3 = nI e → v4 = nI p0 → v5 = nI w → v6 = nI i →
      fx_Go G (1, 13) mm_Y_encode 12 [(0, fx_r G a), (1, fx_r G v), (3, .int v3), (4, .int v4), (5, .int v5), (6, .int v6)] [] (fx_wI S I) (fx_qi F Q) := by
    intro i e w p0 b I v3 v4 v5 v6 hi hL hb h e3 e4 e5 e6
    subst e3 e4 e5 e6
    rw [List.drop_of_length_le (by omega), rn_nil, putL_nil, row_self hb] at h
    refine bs_Y_encode_12 hS.w a v _ _ _ _ ha hv ?_
    simp only [wI_I, hL.1]
    exact pk_le l.length i (fun _ => h I rfl) (fun z => absurd z (by omega)) rfl rfl (by omega) (by omega)
  induction m with
  | zero => intro i e w p0 b I v3 v4 v5 v6 hm hi hs hL hb hw he hz h e3 e4 e5 e6; exact fin i e w p0 b I (by omega) hL hb h e3 e4 e5 e6
  | succ m ih =>
    intro i e w p0 b I v3 v4 v5 v6 hm hi hs hL hb hw he hz h e3 e4 e5 e6
    by_cases hil : i = l.length
    · exact fin i e w p0 b I hil hL hb h e3 e4 e5 e6
    subst e3 e4 e5 e6
    obtain ⟨t, hd⟩ := drop_ex (show i < l.length by omega)
    have hdl := drop_len hd
    have hct := cont_le (go l i) t
    have hnx := tl_drop (c := cont (go l i) t) hd
    have hg : ∀ c, go l i = some c → c < 256 := fun c e => hl.go i c e
    have hLi := hL.2 i (by omega)
    generalize hx : go l i = x at *
    have hg31 : ∀ c, x = some c → c < 2 ^ 31 := fun c e => by have := hg c e; omega
    refine bs_Y_encode_12 hS.w a v _ _ _ _ ha hv ?_
    simp only [wI_I, hL.1]
    refine pk_le l.length i (fun z => absurd z (by omega)) (fun _ => ?_) rfl rfl (by omega) (by omega)
    refine cY_startsRun hS a ha hL hl i (by omega) ⟨hS, ?_⟩ rfl
    rw [hs (by omega)]
    refine ⟨fun z => absurd z (by decide), fun _ => ⟨pk_in i 63 (by omega) rfl, ?_⟩⟩
    simp only [wI_I, wI_setI, forall_eq]
    rw [pk_cl i rfl (by omega), hLi, show ((-1 : Int32)) = mI from rfl, oI_m hg31]
    refine ⟨fun z => ?_, fun z => ?_⟩
    · obtain ⟨c, ec⟩ := Option.ne_none_iff_exists'.mp z
      subst ec
      have hc := hg c rfl
      rw [hd, rn_some, hnx] at h he
      simp only [List.length_cons] at h he
      have e2 : (nI e + 2).toNatClampNeg = e + 2 := pk_cl (e + 2) (by first | rfl | (simp (disch := omega) only [nI_lit, nI_ofInt1, nI_ofInt4, nI_ofInt2, nI_ofInt3, mI_neg, wI_I, wI_setI, wI_setR, forall_eq, nI_add, pk_mul, pk_sub, pk_div, pk_rem, nI_clamp, nI_leI, nI_ltI, nI_eq, vin_iff, nar0, nar1, nF_ap, bF_ap, oF_ap, bI_0, bI_1, and255, bu_w, bu_p, bu_90, bu_9, row_w, row_at, nF_up, nI_ofIntm] <;> first | done | omega | (congr 1; omega))) (by omega)
      have i6 : fx_w I v e 17 (a + 1) i = nI c := by rw [fw_ne (Ne.symm hva.2)]; exact hLi
      rw [pk_cl e rfl (by omega), e2, i6]
      have and2 : (nI c - nI w) &&& 255 = nI ((c + 256 - w) % 256) := and255s c w (by omega) (by omega)
      rw [and2]
      have i10 : fx_w (fx_w I v e 17) v (e + 2) (nI ((c + 256 - w) % 256)) (a + 1) i = nI c := by rw [fw_ne (Ne.symm hva.2)]; exact i6
      rw [i10]
      refine ⟨pk_in e 64 (by omega) rfl, pk_in i 63 (by omega) rfl, pk_in (e + 2) 64 (by omega) (by first | rfl | (simp (disch := omega) only [nI_lit, nI_ofInt1, nI_ofInt4, nI_ofInt2, nI_ofInt3, mI_neg, wI_I, wI_setI, wI_setR, forall_eq, nI_add, pk_mul, pk_sub, pk_div, pk_rem, nI_clamp, nI_leI, nI_ltI, nI_eq, vin_iff, nar0, nar1, nF_ap, bF_ap, oF_ap, bI_0, bI_1, and255, bu_w, bu_p, bu_90, bu_9, row_w, row_at, nF_up, nI_ofIntm] <;> first | done | omega | (congr 1; omega))), pk_in i 63 (by omega) rfl, ?_⟩
      have eI : fx_w (fx_w I v e 17) v (e + 2) (nI ((c + 256 - w) % 256)) = fx_row I v (nF (up (up b e 17) (e + 2) ((c + 256 - w) % 256))) := by
        rw [← row_self hb, show (17 : Int32) = nI 17 from rfl, row_w, nF_up, row_w, nF_up, row_row]
      rw [eI]
      refine cY_en92 hS a v ha hv _ (row_at _ _ _) (e + 1) i (by omega) (by first | rfl | (simp (disch := omega) only [nI_lit, nI_ofInt1, nI_ofInt4, nI_ofInt2, nI_ofInt3, mI_neg, wI_I, wI_setI, wI_setR, forall_eq, nI_add, pk_mul, pk_sub, pk_div, pk_rem, nI_clamp, nI_leI, nI_ltI, nI_eq, vin_iff, nar0, nar1, nF_ap, bF_ap, oF_ap, bI_0, bI_1, and255, bu_w, bu_p, bu_90, bu_9, row_w, row_at, nF_up, nI_ofIntm] <;> first | done | omega | (congr 1; omega))) rfl ?_
      rw [row_row]
      refine cY_en_skip hS a v ha hv hva hl hd _ _ (e + 1) (by omega) (cont (some c) t) 0 _ _ (by omega) (hL.cg (fx_row_ne _ _ (Ne.symm hva.1)) (fx_row_ne _ _ (Ne.symm hva.2))) (row_at _ _ _) ?_ rfl
      rw [row_row]
      have eb : up (up (up (up b e 17) (e + 2) ((c + 256 - w) % 256)) (e + 1) (up (up b e 17) (e + 2) ((c + 256 - w) % 256) (e + 1) + 1)) (e + 1) (up (up (up b e 17) (e + 2) ((c + 256 - w) % 256)) (e + 1) (up (up b e 17) (e + 2) ((c + 256 - w) % 256) (e + 1) + 1) (e + 1) + cont (some c) t) = putL b e [17, cont (some c) t + 1, (c + 256 - w) % 256] := by
        have hz1 := hz (e + 1) (by omega) (by omega)
        funext j
        by_cases j0 : j = e
        · subst j0
          rw [putL_in _ _ _ _ (by omega) (by simp) (by omega), Nat.sub_self]
          simp [up, gd]
        by_cases j1 : j = e + 1
        · subst j1
          rw [putL_in _ _ _ _ (by omega) (by simp) (by omega), show e + 1 - e = 1 by omega]
          simp [up, gd, hz1]
          omega
        by_cases j2 : j = e + 2
        · subst j2
          rw [putL_in _ _ _ _ (by omega) (by simp) (by omega), show e + 2 - e = 2 by omega]
          simp [up, gd]
        · rw [putL_no _ _ _ _ (by simp; omega)]
          simp [up, j0, j1, j2]
      rw [eb]
      refine ih (i + 1 + cont (some c) t) (e + 3) c (e + 1) (putL b e [17, cont (some c) t + 1, (c + 256 - w) % 256]) _ (by omega) (by omega) (fun z => srt_stop hd (by omega)) (hL.cg (fx_row_ne _ _ (Ne.symm hva.1)) (fx_row_ne _ _ (Ne.symm hva.2))) (row_at _ _ _) hc ?_ (fun k h1 h2 => ?_) (fun I' eI' => ?_) (by first | rfl | (simp (disch := omega) only [nI_lit, nI_ofInt1, nI_ofInt4, nI_ofInt2, nI_ofInt3, mI_neg, wI_I, wI_setI, wI_setR, forall_eq, nI_add, pk_mul, pk_sub, pk_div, pk_rem, nI_clamp, nI_leI, nI_ltI, nI_eq, vin_iff, nar0, nar1, nF_ap, bF_ap, oF_ap, bI_0, bI_1, and255, bu_w, bu_p, bu_90, bu_9, row_w, row_at, nF_up, nI_ofIntm] <;> first | done | omega | (congr 1; omega))) rfl rfl rfl
      · rw [show i + 1 + cont (some c) t = i + cont (some c) t + 1 by omega]; omega
      · rw [putL_no _ _ _ _ (by simp; omega)]; exact hz k (by omega) h2
      · rw [show i + 1 + cont (some c) t = i + cont (some c) t + 1 by omega] at eI' ⊢
        rw [row_row] at eI'
        have ep := putL_app b e [17, cont (some c) t + 1, (c + 256 - w) % 256] (rn c (l.drop (i + cont (some c) t + 1)))
        rw [show e + [17, cont (some c) t + 1, (c + 256 - w) % 256].length = e + 3 from rfl] at ep
        rw [ep] at eI'
        rw [show e + 3 + (rn c (l.drop (i + cont (some c) t + 1))).length = e + ((rn c (l.drop (i + cont (some c) t + 1))).length + 1 + 1 + 1) by omega]
        exact h I' eI'
    · subst z
      rw [hd, rn_none, hnx] at h he
      simp only [List.length_cons] at h he
      rw [pk_cl e rfl (by omega)]
      refine ⟨pk_in e 64 (by omega) rfl, ?_⟩
      have eI : fx_w I v e 1 = fx_row I v (nF (up b e 1)) := by
        rw [← row_self hb, show (1 : Int32) = nI 1 from rfl, row_w, nF_up, row_row]
      rw [eI]
      refine cY_en92 hS a v ha hv _ (row_at _ _ _) (e + 1) i (by omega) (by first | rfl | (simp (disch := omega) only [nI_lit, nI_ofInt1, nI_ofInt4, nI_ofInt2, nI_ofInt3, mI_neg, wI_I, wI_setI, wI_setR, forall_eq, nI_add, pk_mul, pk_sub, pk_div, pk_rem, nI_clamp, nI_leI, nI_ltI, nI_eq, vin_iff, nar0, nar1, nF_ap, bF_ap, oF_ap, bI_0, bI_1, and255, bu_w, bu_p, bu_90, bu_9, row_w, row_at, nF_up, nI_ofIntm] <;> first | done | omega | (congr 1; omega))) rfl ?_
      rw [row_row]
      refine cY_en_skip hS a v ha hv hva hl hd _ _ (e + 1) (by omega) (cont none t) 0 _ _ (by omega) (hL.cg (fx_row_ne _ _ (Ne.symm hva.1)) (fx_row_ne _ _ (Ne.symm hva.2))) (row_at _ _ _) ?_ rfl
      rw [row_row]
      have eb : up (up (up b e 1) (e + 1) (up b e 1 (e + 1) + 1)) (e + 1) (up (up b e 1) (e + 1) (up b e 1 (e + 1) + 1) (e + 1) + cont none t) = putL b e [1, cont none t + 1] := by
        have hz1 := hz (e + 1) (by omega) (by omega)
        funext j
        by_cases j0 : j = e
        · subst j0
          rw [putL_in _ _ _ _ (by omega) (by simp) (by omega), Nat.sub_self]
          simp [up, gd]
        by_cases j1 : j = e + 1
        · subst j1
          rw [putL_in _ _ _ _ (by omega) (by simp) (by omega), show e + 1 - e = 1 by omega]
          simp [up, gd, hz1]
          omega
        · rw [putL_no _ _ _ _ (by simp; omega)]
          simp [up, j0, j1]
      rw [eb]
      refine ih (i + 1 + cont none t) (e + 2) w (e + 1) (putL b e [1, cont none t + 1]) _ (by omega) (by omega) (fun z => srt_stop hd (by omega)) (hL.cg (fx_row_ne _ _ (Ne.symm hva.1)) (fx_row_ne _ _ (Ne.symm hva.2))) (row_at _ _ _) hw ?_ (fun k h1 h2 => ?_) (fun I' eI' => ?_) (by first | rfl | (simp (disch := omega) only [nI_lit, nI_ofInt1, nI_ofInt4, nI_ofInt2, nI_ofInt3, mI_neg, wI_I, wI_setI, wI_setR, forall_eq, nI_add, pk_mul, pk_sub, pk_div, pk_rem, nI_clamp, nI_leI, nI_ltI, nI_eq, vin_iff, nar0, nar1, nF_ap, bF_ap, oF_ap, bI_0, bI_1, and255, bu_w, bu_p, bu_90, bu_9, row_w, row_at, nF_up, nI_ofIntm] <;> first | done | omega | (congr 1; omega))) rfl rfl rfl
      · rw [show i + 1 + cont none t = i + cont none t + 1 by omega]; omega
      · rw [putL_no _ _ _ _ (by simp; omega)]; exact hz k (by omega) h2
      · rw [show i + 1 + cont none t = i + cont none t + 1 by omega] at eI' ⊢
        rw [row_row] at eI'
        have ep := putL_app b e [1, cont none t + 1] (rn w (l.drop (i + cont none t + 1)))
        rw [show e + [1, cont none t + 1].length = e + 2 from rfl] at ep
        rw [ep] at eI'
        rw [show e + 2 + (rn w (l.drop (i + cont none t + 1))).length = e + ((rn w (l.drop (i + cont none t + 1))).length + 1 + 1) by omega]
        exact h I' eI'
end CY4
