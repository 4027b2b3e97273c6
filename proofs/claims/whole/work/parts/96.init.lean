/-! The constructors. -/
def Bd (S : fx_S) (n k : Nat) (P : Nat → Nat → Option Nat) (I0 : Nat → Nat → Int32) : Prop := fx_m S = n ∧ fx_x S = 0 ∧ fx_k S = k ∧ (∀ i, i < n → S.2.1 i = sh_kd i) ∧ (∀ i, i < n → fx_I S i = I0 i) ∧ ∀ i, i < n → fx_P S i = P i
section BD
variable {S : fx_S} {n k : Nat} {P : Nat → Nat → Option Nat} {I0 : Nat → Nat → Int32}
theorem Bd.room (h : Bd S n k P I0) (N : Nat) (h1 : n + 1 ≤ 2000) (h2 : k + N ≤ 20000) : fx_room S N := by
  obtain ⟨b1, b2, b3, _⟩ := h
  exact ⟨b2, by rw [b1, b2]; omega, by rw [b3]; exact h2⟩
theorem Bd.is (h : Bd S n k P I0) {a c : Nat} (ha : a < n) (hc : (sh_kd a).1 = c) : fx_is S a c := ⟨by rw [h.1]; exact ha, by unfold fx_kd; rw [h.2.2.2.1 a ha]; exact hc⟩
theorem Bd.ln (h : Bd S n k P I0) {a c : Nat} (ha : a < n) (hc : (sh_kd a).2 = c) : fx_ln S a = c := by unfold fx_ln; rw [h.2.2.2.1 a ha]; exact hc
theorem Bd.new (h : Bd S n k P I0) (c ln sl : Nat) (hk : sh_kd n = (c, ln)) (hP : P n = fun _ => none) (hI : I0 n = fun _ => 0) : Bd (fx_new S c ln sl) (n + 1) (k + sl) P I0 := by
  obtain ⟨b1, b2, b3, b4, b5, b6⟩ := h
  have e1 : S.1.1 = n := b1
  refine ⟨by show S.1.1 + 1 = n + 1; rw [e1], b2, by show S.1.2.2 + sl = k + sl; rw [show S.1.2.2 = k from b3], fun i hi => ?_, fun i hi => ?_, fun i hi => ?_⟩
  · show (if i = S.1.1 then (c, ln) else S.2.1 i) = sh_kd i
    rw [e1]
    by_cases e : i = n
    · rw [if_pos e, e, hk]
    · rw [if_neg e]
      exact b4 i (by omega)
  · show fx_row S.2.2.1 S.1.1 (fun _ => 0) i = I0 i
    rw [e1]
    by_cases e : i = n
    · rw [e, fx_row_self, hI]
    · rw [fx_row_ne _ _ e]
      exact b5 i (by omega)
  · show fx_row S.2.2.2.1 S.1.1 (fun _ => none) i = P i
    rw [e1]
    by_cases e : i = n
    · rw [e, fx_row_self, hP]
    · rw [fx_row_ne _ _ e]
      exact b6 i (by omega)
theorem Bd.setP (h : Bd S n k P I0) (a j : Nat) (r : Option Nat) (ha : a < n) : Bd (fx_setP S a j r) n k (fx_row P a (va_up (P a) j r)) I0 := by
  obtain ⟨b1, b2, b3, b4, b5, b6⟩ := h
  refine ⟨b1, b2, b3, b4, b5, fun i hi => ?_⟩
  show fx_row S.2.2.2.1 a (va_up (fx_P S a) j r) i = _
  by_cases e : i = a
  · rw [e, fx_row_self, fx_row_self, b6 a ha]
  · rw [fx_row_ne _ _ e, fx_row_ne _ _ e]
    exact b6 i hi
theorem Bd.cg (h : Bd S n k P I0) {P' : Nat → Nat → Option Nat} (hP : ∀ i, i < n → P i = P' i) : Bd S n k P' I0 := ⟨h.1, h.2.1, h.2.2.1, h.2.2.2.1, h.2.2.2.2.1, fun i hi => (h.2.2.2.2.2 i hi).trans (hP i hi)⟩
theorem Bd.cgI (h : Bd S n k P I0) {I1 : Nat → Nat → Int32} (hI : ∀ i, i < n → I0 i = I1 i) : Bd S n k P I1 := ⟨h.1, h.2.1, h.2.2.1, h.2.2.2.1, fun i hi => (h.2.2.2.2.1 i hi).trans (hI i hi), h.2.2.2.2.2⟩
end BD
section INI
variable {G : fx_G} {S : fx_S} {Q : fx_R → fx_S → Prop} {n k : Nat} {P : Nat → Nat → Option Nat} {I0 : Nat → Nat → Int32}
theorem i_N {F : fx_S → Prop} (hb : Bd S n k P I0) (a : Nat) (ha : a < n) (hka : (sh_kd a).1 = 2) (hk : sh_kd n = (100, 8)) (hP : P n = fun _ => none) (hI : I0 n = fun _ => 0) (h1 : n + 1 ≤ 2000) (h2 : k + 8 ≤ 20000) (hF : ∀ S', Bd S' (n + 1) (k + 8) (fx_row P a (va_up (P a) 0 (some n))) I0 → F S') :
    fx_Go G (1, 12) mm_N_init 0 [(0, fx_r G a)] [] S (fx_qv F Q) := by
  refine bk_N_init_0 a ⟨hb.room 8 h1 h2, fun S1 e1 => ?_⟩
  subst e1
  have hb1 := hb.new 100 8 8 hk hP hI
  refine ⟨hb1.is (by omega) hka, fun S4 e4 => ?_⟩
  subst e4
  rw [hb.1]
  exact hF _ (hb1.setP a 0 (some n) (by omega))
theorem i_Y {F : fx_S → Prop} (hb : Bd S n k P I0) (a : Nat) (ha : a < n) (hka : (sh_kd a).1 = 1) (hk : sh_kd n = (100, 63)) (hP : P n = fun _ => none) (hI : I0 n = fun _ => 0) (h1 : n + 1 ≤ 2000) (h2 : k + 63 ≤ 20000) (hF : ∀ S', Bd S' (n + 1) (k + 63) (fx_row P a (va_up (P a) 0 (some n))) I0 → F S') :
    fx_Go G (1, 12) mm_Y_init 0 [(0, fx_r G a)] [] S (fx_qv F Q) := by
  refine bk_Y_init_0 a ⟨hb.room 63 h1 h2, fun S1 e1 => ?_⟩
  subst e1
  have hb1 := hb.new 100 63 63 hk hP hI
  refine ⟨hb1.is (by omega) hka, fun S4 e4 => ?_⟩
  subst e4
  rw [hb.1]
  exact hF _ (hb1.setP a 0 (some n) (by omega))
theorem kd_sh (r t : Nat) (hr : r < 12) (ht : t < 6) : sh_kd (4 + 6 * r + t) = (if t = 0 then (3, 0) else if t = 1 then (2, 0) else if t = 2 then (100, 8) else if t = 3 then (100, 54) else if t = 4 then (1, 0) else (100, 63)) := by
  unfold sh_kd
  rw [if_neg (by omega), if_pos (by omega), show (4 + 6 * r + t - 4) % 6 = t by omega]
  have : t = 0 ∨ t = 1 ∨ t = 2 ∨ t = 3 ∨ t = 4 ∨ t = 5 := by omega
  rcases this with e | e | e | e | e | e <;> subst e <;> rfl
def hRow (P : Nat → Nat → Option Nat) (h : Nat) : Nat → Nat → Option Nat :=
  let P1 := fx_row P (h + 1) (va_up (P (h + 1)) 0 (some (h + 2)))
  let P2 := fx_row P1 h (va_up (P1 h) 5 (some (h + 1)))
  let P3 := fx_row P2 h (va_up (P2 h) 6 (some (h + 3)))
  let P4 := fx_row P3 (h + 4) (va_up (P3 (h + 4)) 0 (some (h + 5)))
  fx_row P4 h (va_up (P4 h) 7 (some (h + 4)))
theorem i_H {F : fx_S → Prop} (r : Nat) (hr : r < 12) (hb : Bd S (4 + 6 * r + 1) k P I0) (hP : ∀ t, 1 ≤ t → t < 6 → P (4 + 6 * r + t) = fun _ => none) (hI : ∀ t, 1 ≤ t → t < 6 → I0 (4 + 6 * r + t) = fun _ => 0) (h2 : k + 200 ≤ 20000) (hF : ∀ S', Bd S' (4 + 6 * r + 6) (k + 129) (hRow P (4 + 6 * r)) I0 → F S') :
    fx_Go G (2, 26) mm_H_init 0 [(0, fx_r G (4 + 6 * r))] [] S (fx_qv F Q) := by
  have q : ∀ {f : Nat → Nat → Option Nat} {a b : Nat} (g : Nat → Option Nat), b ≠ a → fx_row f a g b = f b := fun g h => fx_row_ne _ _ h
  have k0 := kd_sh r 0 hr (by omega)
  have k1 := kd_sh r 1 hr (by omega)
  have k2 := kd_sh r 2 hr (by omega)
  have k3 := kd_sh r 3 hr (by omega)
  have k4 := kd_sh r 4 hr (by omega)
  have k5 := kd_sh r 5 hr (by omega)
  rw [Nat.add_zero] at k0
  refine bk_H_init_0 (4 + 6 * r) ⟨hb.room 2 (by omega) (by omega), fun S1 e1 => ?_⟩
  subst e1
  rw [hb.1]
  have hb1 := hb.new 2 0 2 k1 (hP 1 (by omega) (by omega)) (hI 1 (by omega) (by omega))
  refine i_N hb1 (4 + 6 * r + 1) (by omega) (by rw [k1]; rfl) k2 (hP 2 (by omega) (by omega)) (hI 2 (by omega) (by omega)) (by omega) (by omega) (fun S3 hb3 => ⟨hb3.is (by omega) (by rw [k0]; rfl), fun S5 e5 => ?_⟩)
  subst e5
  have hb5 := hb3.setP (4 + 6 * r) 5 (some (4 + 6 * r + 1)) (by omega)
  refine ⟨hb5.room 54 (by omega) (by omega), fun S6 e6 => ?_⟩
  subst e6
  have hb6 := hb5.new 100 54 54 k3 (by rw [q _ (by omega), q _ (by omega)]; exact hP 3 (by omega) (by omega)) (hI 3 (by omega) (by omega))
  refine ⟨hb6.is (by omega) (by rw [k0]; rfl), fun S9 e9 => ?_⟩
  subst e9
  rw [hb5.1]
  have hb9 := hb6.setP (4 + 6 * r) 6 (some (4 + 6 * r + 1 + 1 + 1)) (by omega)
  refine ⟨hb9.room 2 (by omega) (by omega), fun S10 e10 => ?_⟩
  subst e10
  rw [hb9.1]
  have hb10 := hb9.new 1 0 2 k4 (by rw [q _ (by omega), q _ (by omega), q _ (by omega)]; exact hP 4 (by omega) (by omega)) (hI 4 (by omega) (by omega))
  refine i_Y hb10 (4 + 6 * r + 4) (by omega) (by rw [k4]; rfl) k5 (by rw [q _ (by omega), q _ (by omega), q _ (by omega)]; exact hP 5 (by omega) (by omega)) (hI 5 (by omega) (by omega)) (by omega) (by omega) (fun S12 hb12 => ⟨hb12.is (by omega) (by rw [k0]; rfl), fun S14 e14 => ?_⟩)
  subst e14
  have hb14 := hb12.setP (4 + 6 * r) 7 (some (4 + 6 * r + 4)) (by omega)
  rw [show k + 2 + 8 + 54 + 2 + 63 = k + 129 by omega] at hb14
  exact hF _ hb14
def PV (r i j : Nat) : Option Nat := if i = 0 then (if j = 0 then some 1 else if j = 1 then some 3 else none) else if i = 1 then (if j = 0 then some 2 else none) else if i = 3 then (if j < r then some (4 + 6 * j) else none) else if 4 ≤ i ∧ i < 4 + 6 * r then sh_P i j else none
theorem PV_hi (r i : Nat) (h : 4 + 6 * r ≤ i) : PV r i = fun _ => none := by
  funext j
  unfold PV
  rw [if_neg (by omega), if_neg (by omega), if_neg (by omega), if_neg (by omega)]
theorem shP_t (r t j : Nat) (hr : r < 12) (ht : t < 6) : sh_P (4 + 6 * r + t) j = (if t = 0 then (if j = 5 then some (4 + 6 * r + 1) else if j = 6 then some (4 + 6 * r + 3) else if j = 7 then some (4 + 6 * r + 4) else none) else if t = 1 then (if j = 0 then some (4 + 6 * r + 2) else none) else if t = 4 then (if j = 0 then some (4 + 6 * r + 5) else none) else none) := by
  unfold sh_P
  rw [if_neg (by omega), if_neg (by omega), if_neg (by omega), if_pos (by omega), show (4 + 6 * r + t - 4) % 6 = t by omega]
  have : t = 0 ∨ t = 1 ∨ t = 2 ∨ t = 3 ∨ t = 4 ∨ t = 5 := by omega
  rcases this with e | e | e | e | e | e <;> subst e <;> rfl
theorem PV_step (r : Nat) (hr : r < 12) : ∀ i, i < 4 + 6 * r + 6 → fx_row (hRow (PV r) (4 + 6 * r)) 3 (va_up (hRow (PV r) (4 + 6 * r) 3) r (some (4 + 6 * r))) i = PV (r + 1) i := by
  have q : ∀ {f : Nat → Nat → Option Nat} {a b : Nat} (g : Nat → Option Nat), b ≠ a → fx_row f a g b = f b := fun g h => fx_row_ne _ _ h
  intro i hi
  have h3 : hRow (PV r) (4 + 6 * r) 3 = PV r 3 := by
    unfold hRow
    rw [q _ (by omega), q _ (by omega), q _ (by omega), q _ (by omega), q _ (by omega)]
  by_cases e3 : i = 3
  · subst e3
    rw [fx_row_self, h3]
    funext j
    show (if j = r then some (4 + 6 * r) else (if j < r then some (4 + 6 * j) else none)) = (if j < r + 1 then some (4 + 6 * j) else none)
    by_cases ej : j = r
    · rw [if_pos ej, ej, if_pos (by omega)]
    · rw [if_neg ej]
      by_cases ej2 : j < r
      · rw [if_pos ej2, if_pos (by omega)]
      · rw [if_neg ej2, if_neg (by omega)]
  · rw [q _ e3]
    unfold hRow
    have hn : ∀ t j, t < 6 → PV r (4 + 6 * r + t) j = none := fun t j _ => by rw [PV_hi _ _ (by omega)]
    have hs : ∀ t j, t < 6 → PV (r + 1) (4 + 6 * r + t) j = sh_P (4 + 6 * r + t) j := by
      intro t j ht
      unfold PV
      rw [if_neg (by omega), if_neg (by omega), if_neg (by omega), if_pos (by omega)]
    by_cases e0 : i = 4 + 6 * r
    · subst e0
      rw [fx_row_self, q _ (by omega), fx_row_self, fx_row_self, q _ (by omega)]
      funext j
      have this : PV (r + 1) (4 + 6 * r) j = sh_P (4 + 6 * r) j := hs 0 j (by omega)
      have hsh : sh_P (4 + 6 * r) j = (if j = 5 then some (4 + 6 * r + 1) else if j = 6 then some (4 + 6 * r + 3) else if j = 7 then some (4 + 6 * r + 4) else none) := shP_t r 0 j hr (by omega)
      have hn0 : PV r (4 + 6 * r) j = none := hn 0 j (by omega)
      rw [this, hsh]
      unfold va_up
      by_cases j7 : j = 7
      · rw [if_pos j7, if_neg (by omega), if_neg (by omega), if_pos j7]
      · rw [if_neg j7]
        by_cases j6 : j = 6
        · rw [if_pos j6, if_neg (by omega), if_pos j6]
        · rw [if_neg j6]
          by_cases j5 : j = 5
          · rw [if_pos j5, if_pos j5]
          · rw [if_neg j5, if_neg j5, if_neg j6, if_neg j7, hn0]
    · by_cases e4 : i = 4 + 6 * r + 4
      · subst e4
        rw [q _ (by omega), fx_row_self, q _ (by omega), q _ (by omega), q _ (by omega)]
        funext j
        rw [hs 4 j (by omega), shP_t r 4 j hr (by omega)]
        unfold va_up
        by_cases j0 : j = 0
        · rw [if_pos j0, if_neg (by omega), if_neg (by omega), if_pos rfl, if_pos j0]
        · rw [if_neg j0, if_neg (by omega), if_neg (by omega), if_pos rfl, if_neg j0, hn 4 j (by omega)]
      · by_cases e1 : i = 4 + 6 * r + 1
        · subst e1
          rw [q _ (by omega), q _ (by omega), q _ (by omega), q _ (by omega), fx_row_self]
          funext j
          rw [hs 1 j (by omega), shP_t r 1 j hr (by omega)]
          unfold va_up
          by_cases j0 : j = 0
          · rw [if_pos j0, if_neg (by omega), if_pos rfl, if_pos j0]
          · rw [if_neg j0, if_neg (by omega), if_pos rfl, if_neg j0, hn 1 j (by omega)]
        · rw [q _ e0, q _ e4, q _ e0, q _ e0, q _ e1]
          funext j
          by_cases hlt : i < 4 + 6 * r
          · unfold PV
            by_cases i0 : i = 0
            · rw [if_pos i0, if_pos i0]
            · rw [if_neg i0, if_neg i0]
              by_cases i1 : i = 1
              · rw [if_pos i1, if_pos i1]
              · rw [if_neg i1, if_neg i1, if_neg e3, if_neg e3]
                by_cases i4 : 4 ≤ i
                · rw [if_pos ⟨i4, hlt⟩, if_pos ⟨i4, by omega⟩]
                · rw [if_neg (by omega), if_neg (by omega)]
          · obtain ⟨t, ht⟩ : ∃ t, i = 4 + 6 * r + t := ⟨i - (4 + 6 * r), by omega⟩
            subst ht
            rw [hn t j (by omega), hs t j (by omega), shP_t r t j hr (by omega), if_neg (by omega), if_neg (by omega), if_neg (by omega)]
end INI
