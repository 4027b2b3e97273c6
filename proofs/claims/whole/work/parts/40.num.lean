/-! Numbers of the pure part. -/
theorem nI_lit (n : Nat) : (OfNat.ofNat n : Int32) = nI n := rfl
theorem nI_ofInt1 : Int32.ofInt 1 = nI 1 := rfl
theorem nI_ofInt4 : Int32.ofInt 4 = nI 4 := rfl
theorem nI_ofInt2 : Int32.ofInt 2 = nI 2 := rfl
theorem nI_ofInt3 : Int32.ofInt 3 = nI 3 := rfl
def mI : Int32 := -1
theorem mI_neg : - nI 1 = mI := rfl
def bI (b : Bool) : Int32 := if b = true then 1 else 0
def oI (o : Option Nat) : Int32 := match o with
  | some c => nI c
  | none => mI
def nF (f : Nat → Nat) : Nat → Int32 := fun k => nI (f k)
def bF (f : Nat → Bool) : Nat → Int32 := fun k => bI (f k)
def oF (f : Nat → Option Nat) : Nat → Int32 := fun k => oI (f k)
theorem nar0 : vp_nar .boolean (nI 0) = nI 0 := rfl
theorem nar1 : vp_nar .boolean (nI 1) = nI 1 := rfl
theorem vin_iff {n N : Nat} (hN : N < 2 ^ 31) (hn : n < 2 ^ 31) : vp_in (nI n) N ↔ n < N := by
  constructor
  · intro h
    have := vin_lt h
    rwa [nI_clamp hn] at this
  · intro h
    exact vp_in_nI h hN
def up {α : Type} (f : Nat → α) (k : Nat) (x : α) : Nat → α := fun j => if j = k then x else f j
theorem nF_up (f : Nat → Nat) (k x : Nat) : upd (nF f) k (nI x) = nF (up f k x) := by
  funext j
  by_cases h : j = k <;> simp [upd, nF, up, h]
theorem bF_up (f : Nat → Bool) (k : Nat) (b : Bool) : upd (bF f) k (bI b) = bF (up f k b) := by
  funext j
  by_cases h : j = k <;> simp [upd, bF, up, h]
theorem oF_up (f : Nat → Option Nat) (k : Nat) (b : Option Nat) : upd (oF f) k (oI b) = oF (up f k b) := by
  funext j
  by_cases h : j = k <;> simp [upd, oF, up, h]
theorem b0 {b : Bool} {A B : Prop} (f : b = false → A) (g : b = true → B) : (bI b = 0 → A) ∧ (¬ bI b = 0 → B) := by
  cases b
  · exact ⟨fun _ => f rfl, fun h => absurd rfl h⟩
  · exact ⟨fun h => absurd h (by decide), fun _ => g rfl⟩
theorem b1 {b : Bool} {A B : Prop} (f : b = true → A) (g : b = false → B) : (¬ bI b = 0 → A) ∧ (bI b = 0 → B) := ⟨(b0 g f).2, (b0 g f).1⟩
theorem ne_pair {x y : Int32} {A B : Prop} (h : (x = y → A) ∧ (¬ x = y → B)) : (¬ x = y → B) ∧ (x = y → A) := ⟨h.2, h.1⟩
theorem shM.w {S : fx_S} {I : Nat → Nat → Int32} (h : shM S) : shM (fx_wI S I) := h
theorem shC.w {S : fx_S} {I : Nat → Nat → Int32} (h : shC S) : shC (fx_wI S I) := h
theorem nF_ap (f : Nat → Nat) (k : Nat) : nF f k = nI (f k) := rfl
theorem bF_ap (f : Nat → Bool) (k : Nat) : bF f k = bI (f k) := rfl
theorem oF_ap (f : Nat → Option Nat) (k : Nat) : oF f k = oI (f k) := rfl
theorem bI_0 (b : Bool) : (bI b = nI 0) = (b = false) := by cases b <;> decide
theorem bI_1 (b : Bool) : (bI b = nI 1) = (b = true) := by cases b <;> decide
theorem bI_t : bI true = nI 1 := rfl
theorem bI_f : bI false = nI 0 := rfl
theorem mI_lt (a : Nat) (h : a < 2 ^ 31) : mI < nI a := by
  rw [Int32.lt_iff_toInt_lt, nI_toInt h]
  show (-1 : Int) < a
  omega
theorem mI_nle (a : Nat) (h : a < 2 ^ 31) : ¬ nI a ≤ mI := by
  rw [Int32.le_iff_toInt_le, nI_toInt h]
  show ¬ (a : Int) ≤ -1
  omega
theorem mI_ne (a : Nat) (h : a < 2 ^ 31) : ¬ mI = nI a := fun e => by
  have h1 := mI_lt a h
  rw [e] at h1
  exact absurd h1 (by rw [Int32.lt_iff_toInt_lt]; omega)
theorem nI_ofIntm : Int32.ofInt (-1) = mI := rfl
theorem row_at {α : Type} (f : Nat → Nat → α) (a : Nat) (g : Nat → α) : fx_row f a g a = g := fx_row_self f a g
theorem row_w (I : Nat → Nat → Int32) (a k : Nat) (g : Nat → Int32) (x : Int32) : fx_w (fx_row I a g) a k x = fx_row I a (upd g k x) := by
  funext b
  by_cases h : b = a
  · subst h; simp [fx_w, fx_row]
  · simp [fx_w, fx_row, h]
theorem row_row {α : Type} (I : Nat → Nat → α) (a : Nat) (g g' : Nat → α) : fx_row (fx_row I a g) a g' = fx_row I a g' := by
  funext b
  by_cases h : b = a
  · subst h; simp [fx_row]
  · simp [fx_row, h]
theorem row_self {α : Type} {I : Nat → Nat → α} {a : Nat} {g : Nat → α} (h : I a = g) : fx_row I a g = I := by
  funext b
  by_cases hb : b = a
  · subst hb; simp [fx_row, h]
  · simp [fx_row, hb]
theorem row_comm {α : Type} (I : Nat → Nat → α) {a b : Nat} (g h : Nat → α) (n : a ≠ b) : fx_row (fx_row I a g) b h = fx_row (fx_row I b h) a g := by
  funext c
  by_cases ha : c = a
  · subst ha; simp [fx_row, n]
  · by_cases hb : c = b
    · subst hb; simp [fx_row, ha]
    · simp [fx_row, ha, hb]
theorem nF_surj (g : Nat → Int32) : ∃ b : Nat → Nat, g = nF b := by
  refine ⟨fun k => (g k).toBitVec.toNat, ?_⟩
  funext k
  show g k = Int32.ofNat _
  apply Int32.toBitVec_inj.mp
  simp [Int32.ofNat]
theorem nI_surj (x : Int32) : ∃ n : Nat, x = nI n := by
  obtain ⟨b, h⟩ := nF_surj (fun _ => x)
  exact ⟨b 0, congrFun h 0⟩
/-- the buffer and its place -/
def bufS (I : Nat → Nat → Int32) (b : Nat → Nat) (p : Nat) : Nat → Nat → Int32 := fx_w (fx_row I 90 (nF b)) 85 9 (nI p)
theorem bu_w (I : Nat → Nat → Int32) (b : Nat → Nat) (p k x : Nat) : fx_w (bufS I b p) 90 k (nI x) = bufS I (up b k x) p := by
  funext c j
  by_cases hc : c = 90
  · subst hc; simp [bufS, fx_w, fx_row, nF_up]
  · by_cases h5 : c = 85
    · subst h5; simp [bufS, fx_w, fx_row]
    · simp [bufS, fx_w, fx_row, hc, h5]
theorem bu_p (I : Nat → Nat → Int32) (b : Nat → Nat) (p q : Nat) : fx_w (bufS I b p) 85 9 (nI q) = bufS I b q := by
  funext c j
  by_cases h5 : c = 85
  · subst h5
    by_cases hj : j = 9
    · subst hj; simp [bufS, fx_w, fx_row, upd]
    · simp [bufS, fx_w, fx_row, upd, hj]
  · simp [bufS, fx_w, fx_row, h5]
theorem bu_90 (I : Nat → Nat → Int32) (b : Nat → Nat) (p : Nat) : bufS I b p 90 = nF b := rfl
theorem bu_9 (I : Nat → Nat → Int32) (b : Nat → Nat) (p : Nat) : bufS I b p 85 9 = nI p := rfl
theorem bu_self {I : Nat → Nat → Int32} {b : Nat → Nat} {p : Nat} (h : I 90 = nF b) (hp : I 85 9 = nI p) : bufS I b p = I := by
  funext c j
  by_cases h5 : c = 85
  · subst h5
    by_cases hj : j = 9
    · subst hj; simp [bufS, fx_w, fx_row, upd, hp]
    · simp [bufS, fx_w, fx_row, upd, hj]
  · by_cases h9 : c = 90
    · subst h9; simp [bufS, fx_w, fx_row, h]
    · simp [bufS, fx_w, fx_row, h5, h9]
theorem and255 (n : Nat) (h : n < 2 ^ 32) : nI n &&& nI 255 = nI (n % 256) := pk_andN h 8 (m := nI 255) (by decide)
