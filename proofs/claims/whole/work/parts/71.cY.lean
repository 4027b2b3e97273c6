/-! The class's layouts. -/
def LyP (I : Nat → Nat → Int32) (a : Nat) (l : List (Option Nat)) : Prop := I a 1 = nI l.length ∧ rowO I (a + 1) l
theorem LyP.cg {I I' : Nat → Nat → Int32} {a : Nat} {l : List (Option Nat)} (h : LyP I a l) (e : I' a = I a) (e' : I' (a + 1) = I (a + 1)) : LyP I' a l := ⟨by rw [e]; exact h.1, h.2.cg e'⟩
theorem LyP.fc {cs : List Nat} {I I' : Nat → Nat → Int32} {a : Nat} {l : List (Option Nat)} (h : LyP I a l) (hF : FC cs I I') (h1 : a ∉ cs) (h2 : a + 1 ∉ cs) : LyP I' a l := h.cg (hF a h1) (hF (a + 1) h2)
/-- layouts as they can be -/
def yok (l : List (Option Nat)) : Prop := l.length ≤ 63 ∧ ∀ c, some c ∈ l → c < 256
theorem yok.go {l : List (Option Nat)} (h : yok l) (i c : Nat) (e : go l i = some c) : c < 256 := by
  refine h.2 c (e ▸ go_mem ?_)
  cases Nat.lt_or_ge i l.length with
  | inl h => exact h
  | inr h' => rw [go_out h'] at e; cases e
def fol : Option Nat → Option Nat → Bool
  | none, none => true
  | some c, some e => decide (e = c + 1)
  | _, _ => false
def srt (l : List (Option Nat)) (i : Nat) : Bool := decide (i = 0) || !fol (go l (i - 1)) (go l i)
theorem cont_cons (x y : Option Nat) (t : List (Option Nat)) : cont x (y :: t) = if fol x y = true then cont y t + 1 else 0 := by
  cases x with
  | none => cases y <;> simp [cont, fol]
  | some c =>
    cases y with
    | none => simp [cont, fol]
    | some e => simp only [cont, fol, decide_eq_true_eq]
theorem fol_in : ∀ (t : List (Option Nat)) (x : Option Nat) (j : Nat), j < cont x t → fol (go (x :: t) j) (go t j) = true
  | [], x, j, h => by cases x <;> simp [cont] at h
  | y :: t, x, j, h => by
    rw [cont_cons] at h
    split at h
    · rename_i hf
      cases j with
      | zero => exact hf
      | succ j => rw [go_s, go_s]; exact fol_in t y j (by omega)
    · omega
theorem fol_stop : ∀ (t : List (Option Nat)) (x : Option Nat), cont x t < t.length → fol (go (x :: t) (cont x t)) (go t (cont x t)) = false
  | [], x, h => by simp at h
  | y :: t, x, h => by
    rw [cont_cons] at h ⊢
    by_cases hf : fol x y = true
    · rw [if_pos hf] at h ⊢
      rw [go_s, go_s]
      exact fol_stop t y (by simpa using h)
    · rw [if_neg hf, go_0, go_0]
      simpa using hf
theorem srt_in {l t : List (Option Nat)} {x : Option Nat} {i j : Nat} (hd : l.drop i = x :: t) (hj : j < cont x t) : srt l (i + 1 + j) = false := by
  have h1 : go l (i + j) = go (x :: t) j := by rw [← hd, go_drop]
  have h2 : go l (i + 1 + j) = go t j := by
    have := go_drop l i (j + 1)
    rw [hd, go_s] at this
    rw [this]
    congr 1
    omega
  unfold srt
  rw [decide_eq_false (by omega), show i + 1 + j - 1 = i + j by omega, h1, h2, fol_in t x j hj]
  rfl
theorem srt_stop {l t : List (Option Nat)} {x : Option Nat} {i : Nat} (hd : l.drop i = x :: t) (hj : cont x t < t.length) : srt l (i + 1 + cont x t) = true := by
  have h1 : go l (i + cont x t) = go (x :: t) (cont x t) := by rw [← hd, go_drop]
  have h2 : go l (i + 1 + cont x t) = go t (cont x t) := by
    have := go_drop l i (cont x t + 1)
    rw [hd, go_s] at this
    rw [this]
    congr 1
    omega
  unfold srt
  rw [decide_eq_false (by omega), show i + 1 + cont x t - 1 = i + cont x t by omega, h1, h2, fol_stop t x hj]
  rfl
theorem oI_m {o : Option Nat} (h : ∀ c, o = some c → c < 2 ^ 31) : (oI o = mI) ↔ o = none := by
  cases o with
  | none => exact ⟨fun _ => rfl, fun _ => rfl⟩
  | some c => exact ⟨fun q => absurd q.symm (mI_ne c (h c rfl)), fun q => by cases q⟩
theorem oI_eq {o p : Option Nat} (h : ∀ c, o = some c → c < 2 ^ 31) (h' : ∀ c, p = some c → c < 2 ^ 31) : (oI o = oI p) ↔ o = p := by
  cases p with
  | none => exact oI_m h
  | some c => exact oI_n h c (h' c rfl)
section CY
variable {G : fx_G} {S : fx_S} {I : Nat → Nat → Int32} {Q : fx_R → fx_S → Prop} {F : Int32 → fx_S → Prop}
theorem cY_placeOf (hS : shC S) (a : Nat) (ha : isY a) {l : List (Option Nat)} (hL : LyP I a l) (hl : l.length ≤ 63) {v1 : Int32} (i : Nat) (hi : i < 2 ^ 30) (h : F (oI (go l i)) (fx_wI S I)) (e1 : v1 = nI i) :
    fx_Go G (0, 0) mm_Y_placeOf 0 [(0, fx_r G a), (1, .int v1)] [] (fx_wI S I) (fx_qi F Q) := by
  subst e1
  refine bs_Y_placeOf_0 hS.w a _ ha ?_
  simp only [wI_I, hL.1]
  refine ⟨fun q => absurd q (nI_pos (by omega)), fun _ => ?_⟩
  refine pk_le l.length i (fun q => ?_) (fun q => ⟨pk_in i 63 (by omega) rfl, ?_⟩) rfl rfl (by omega) (by omega)
  · rw [go_out q] at h; exact h
  · rw [pk_cl i rfl (by omega), hL.2 i q]; exact h
theorem cY_startsRun (hS : shC S) (a : Nat) (ha : isY a) {l : List (Option Nat)} (hL : LyP I a l) (hl : yok l) {v1 : Int32} (i : Nat) (hi : i < l.length) (h : F (bI (srt l i)) (fx_wI S I)) (e1 : v1 = nI i) :
    fx_Go G (0, 0) mm_Y_startsRun 0 [(0, fx_r G a), (1, .int v1)] [] (fx_wI S I) (fx_qi F Q) := by
  subst e1
  have hl1 := hl.1
  have hg : ∀ j c, go l j = some c → c < 2 ^ 31 := fun j c e => by have := hl.go j c e; omega
  have hq : ∀ b, b = srt l i → fx_qi F Q (.inl (some (.int (bI b)))) (fx_wI S I) := by
    intro b hb; rw [hb]; exact h
  unfold srt at hq
  have go28 : ∀ i0 : i ≠ 0, (go l i = none ∨ go l (i - 1) = none) → fx_Go G (0, 0) mm_Y_startsRun 28 [(0, fx_r G a), (1, .int (nI i))] [] (fx_wI S I) (fx_qi F Q) := by
    intro i0 hn
    refine bs_Y_startsRun_28 hS.w a _ ha ?_
    have e1 : nI i - 1 = nI (i - 1) := by rw [show (1 : Int32) = nI 1 from rfl, pk_sub (by omega)]
    simp only [wI_I]
    rw [e1, pk_cl i rfl (by omega), pk_cl (i - 1) rfl (by omega), hL.2 i hi, hL.2 (i - 1) (by omega), oI_eq (hg i) (hg (i - 1))]
    rw [decide_eq_false i0] at hq
    refine ⟨pk_in i 63 (by omega) rfl, pk_in (i - 1) 63 (by omega) rfl, fun q => hq false ?_, fun q => hq true ?_⟩
    · rcases hn with hn | hn
      · rw [← q, hn]; rfl
      · rw [q, hn]; rfl
    · rcases hn with hn | hn
      · rw [hn] at q ⊢
        cases hx : go l (i - 1) with
        | none => exact absurd hx.symm q
        | some c => rfl
      · rw [hn] at q ⊢
        cases hx : go l i with
        | none => exact absurd hx q
        | some c => rfl
  refine bs_Y_startsRun_0 hS.w a _ ha ?_
  refine ne_pair (pk_eq i 0 (fun q => hq true (by rw [decide_eq_true q]; rfl)) (fun q => ⟨pk_in i 63 (by omega) rfl, ?_⟩) rfl rfl (by omega) (by omega))
  have e1 : nI i - 1 = nI (i - 1) := by rw [show (1 : Int32) = nI 1 from rfl, pk_sub (by omega)]
  simp only [wI_I]
  rw [e1, pk_cl i rfl (by omega), pk_cl (i - 1) rfl (by omega), hL.2 i hi, hL.2 (i - 1) (by omega)]
  rw [show ((-1 : Int32)) = mI from rfl, oI_m (hg i), oI_m (hg (i - 1))]
  refine ⟨fun q2 => go28 q (Or.inl q2), fun q2 => ⟨pk_in (i - 1) 63 (by omega) rfl, fun q3 => ⟨pk_in i 63 (by omega) rfl, pk_in (i - 1) 63 (by omega) rfl, ?_⟩, fun q3 => go28 q (Or.inr q3)⟩⟩
  obtain ⟨c, ec⟩ := Option.ne_none_iff_exists'.mp q2
  obtain ⟨e, ee⟩ := Option.ne_none_iff_exists'.mp q3
  have hc := hl.go i c ec
  have he := hl.go (i - 1) e ee
  rw [decide_eq_false q, ec, ee] at hq
  rw [ec, ee]
  simp only [oI]
  refine pk_eq c (e + 1) (fun z => hq false ?_) (fun z => hq true ?_) rfl (nI_1 e) (by omega) (by omega)
  · show false = !(decide (c = e + 1)); rw [decide_eq_true z]; rfl
  · show true = !(decide (c = e + 1)); rw [decide_eq_false z]; rfl
theorem cY_copyFrom {F : fx_S → Prop} (hS : shC S) (a b : Nat) (ha : isY a) (hb : isY b) (hab : b + 1 < a ∨ a + 1 < b) {l : List (Option Nat)} (hL : LyP I b l) (hl : l.length ≤ 63) (h : ∀ I', FC [a, a + 1] I I' → LyP I' a l → F (fx_wI S I')) :
    fx_Go G (1, 18) mm_Y_copyFrom 0 [(0, fx_r G a), (1, fx_r G b)] [] (fx_wI S I) (fx_qv F Q) := by
  refine bs_Y_copyFrom_0 hS.w a b ha hb ?_
  simp only [wI_setR, wI_setI, forall_eq, wI_I, hL.1]
  rw [show (0 : Int32).toNatClampNeg = 0 from rfl, pk_cl l.length rfl (by omega)]
  have e1 : fx_row I (a + 1) (va_cpy (I (b + 1)) (I (a + 1)) 0 0 l.length) b 1 = nI l.length := by rw [fx_row_ne _ _ (by omega)]; exact hL.1
  rw [e1]
  refine ⟨⟨by decide, by decide, nI_pos (by omega), by rw [nI_clamp (by omega)]; show 0 + l.length ≤ 63; omega, by rw [nI_clamp (by omega)]; show 0 + l.length ≤ 63; omega⟩, ?_⟩
  refine h _ ((FC.row [a, a + 1] I (a + 1) _ (by simp)).tr (FC.w [a, a + 1] _ a _ _ (by simp))) ⟨fw_at _ _ _ _, fun k hk => ?_⟩
  rw [fw_ne (by omega), row_at, pk_cpy_in (Nat.zero_le _) (by omega), Nat.sub_zero, Nat.zero_add]
  exact hL.2 k hk
end CY
