/-! Numbers of the pure part. -/
theorem nI_lit (n : Nat) : (OfNat.ofNat n : Int32) = nI n := rfl
theorem nI_ofInt1 : Int32.ofInt 1 = nI 1 := rfl
theorem nI_ofInt4 : Int32.ofInt 4 = nI 4 := rfl
def mI : Int32 := -1
theorem mI_neg : - nI 1 = mI := rfl
def bI (b : Bool) : Int32 := if b = true then 1 else 0
def oI (o : Option Nat) : Int32 := match o with
  | some c => nI c
  | none => mI
def nF (f : Nat → Nat) : Nat → Int32 := fun k => nI (f k)
def bF (f : Nat → Bool) : Nat → Int32 := fun k => bI (f k)
def oF (f : Nat → Option Nat) : Nat → Int32 := fun k => oI (f k)
theorem nar0 : vp_nar .boolean (nI 0) = nI 0 := rfl
theorem nar1 : vp_nar .boolean (nI 1) = nI 1 := rfl
theorem vin_iff {n N : Nat} (hN : N < 2 ^ 31) (hn : n < 2 ^ 31) : vp_in (nI n) N ↔ n < N := by
  constructor
  · intro h
    have := vin_lt h
    rwa [nI_clamp hn] at this
  · intro h
    exact vp_in_nI h hN
def up {α : Type} (f : Nat → α) (k : Nat) (x : α) : Nat → α := fun j => if j = k then x else f j
theorem nF_up (f : Nat → Nat) (k x : Nat) : upd (nF f) k (nI x) = nF (up f k x) := by
  funext j
  by_cases h : j = k <;> simp [upd, nF, up, h]
theorem bF_up (f : Nat → Bool) (k : Nat) (b : Bool) : upd (bF f) k (bI b) = bF (up f k b) := by
  funext j
  by_cases h : j = k <;> simp [upd, bF, up, h]
theorem oF_up (f : Nat → Option Nat) (k : Nat) (b : Option Nat) : upd (oF f) k (oI b) = oF (up f k b) := by
  funext j
  by_cases h : j = k <;> simp [upd, oF, up, h]
theorem b0 {b : Bool} {A B : Prop} (f : b = false → A) (g : b = true → B) : (bI b = 0 → A) ∧ (¬ bI b = 0 → B) := by
  cases b
  · exact ⟨fun _ => f rfl, fun h => absurd rfl h⟩
  · exact ⟨fun h => absurd h (by decide), fun _ => g rfl⟩
theorem b1 {b : Bool} {A B : Prop} (f : b = true → A) (g : b = false → B) : (¬ bI b = 0 → A) ∧ (bI b = 0 → B) := ⟨(b0 g f).2, (b0 g f).1⟩
theorem ne_pair {x y : Int32} {A B : Prop} (h : (x = y → A) ∧ (¬ x = y → B)) : (¬ x = y → B) ∧ (x = y → A) := ⟨h.2, h.1⟩
theorem shM.w {S : fx_S} {I : Nat → Nat → Int32} (h : shM S) : shM (fx_wI S I) := h
theorem shC.w {S : fx_S} {I : Nat → Nat → Int32} (h : shC S) : shC (fx_wI S I) := h
theorem nF_ap (f : Nat → Nat) (k : Nat) : nF f k = nI (f k) := rfl
theorem bF_ap (f : Nat → Bool) (k : Nat) : bF f k = bI (f k) := rfl
theorem oF_ap (f : Nat → Option Nat) (k : Nat) : oF f k = oI (f k) := rfl
theorem bI_0 (b : Bool) : (bI b = nI 0) = (b = false) := by cases b <;> decide
theorem bI_1 (b : Bool) : (bI b = nI 1) = (b = true) := by cases b <;> decide
theorem bI_t : bI true = nI 1 := rfl
theorem bI_f : bI false = nI 0 := rfl
theorem mI_lt (a : Nat) (h : a < 2 ^ 31) : mI < nI a := by
  rw [Int32.lt_iff_toInt_lt, nI_toInt h]
  show (-1 : Int) < a
  omega
theorem mI_nle (a : Nat) (h : a < 2 ^ 31) : ¬ nI a ≤ mI := by
  rw [Int32.le_iff_toInt_le, nI_toInt h]
  show ¬ (a : Int) ≤ -1
  omega
theorem mI_ne (a : Nat) (h : a < 2 ^ 31) : ¬ mI = nI a := fun e => by
  have h1 := mI_lt a h
  rw [e] at h1
  exact absurd h1 (by rw [Int32.lt_iff_toInt_lt]; omega)
