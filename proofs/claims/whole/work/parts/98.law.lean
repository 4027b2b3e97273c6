/-! The law, whole. -/
def fx_S0 : fx_S := ((0, 0, 0), (fun _ => (0, 0)), (fun _ _ => 0), (fun _ _ => none), fun _ _ => 0)
theorem wh_law (G : fx_G) {b Ln : Nat} {xs : Nat → Int32} (hL : Ln ≤ 2560) (hX : va_X b Ln xs G.1 G.1.heap) (hb : b < fx_B G) : fx_Go G (11, 154) mm_L_law 0 [(0, .ref b)] [] fx_S0 (fun o _ => o = .inl (some (.int 1))) := by
  have hb0 : Bd fx_S0 0 0 (fun _ _ => none) Z0 := ⟨rfl, rfl, rfl, fun i hi => absurd hi (Nat.not_lt_zero _), fun i hi => absurd hi (Nat.not_lt_zero _), fun i hi => absurd hi (Nat.not_lt_zero _)⟩
  refine bk_L_law_0 hX hb ⟨hb0.room 9 (by omega) (by omega), fun S1 e1 => ?_⟩
  subst e1
  have hb1 := hb0.new 4 0 9 rfl rfl rfl
  refine i_V hb1 (fun S3 I3 hS3 hm3 hx3 hk3 hC3 => ?_)
  have hr3 : fx_room (fx_wI S3 I3) 17 := ⟨hx3, by show fx_m S3 + fx_x S3 + 1 ≤ 2000; omega, by show fx_k S3 + 17 ≤ 20000; omega⟩
  refine ⟨hr3, fun S4 e4 => ?_⟩
  have em3 : fx_m (fx_wI S3 I3) = 85 := hm3
  rw [em3]
  have hb3 : Bd (fx_wI S3 I3) 85 (fx_k S3) PM (fun i => if i < 85 then I3 i else fun _ => 0) := by
    refine ⟨hm3, hx3, rfl, hS3.2.1, fun i hi => ?_, fun i hi => ?_⟩
    · show I3 i = _
      simp only [if_pos hi]
    · have := hS3.2.2 i hi
      refine this.trans ?_
      funext j
      unfold PM
      rw [if_pos hi]
  have hb4 := hb3.new 5 0 17 rfl (by funext j; unfold PM; rw [if_neg (by omega)]) rfl
  rw [← e4] at hb4
  refine i_M hb4 (fun i hi => by simp only [if_neg (show ¬ i < 85 by omega)]) (by omega) (fun S6 I6 hC6 hM6 hm6 hx6 hk6 hI6 hMS6 => ?_)
  have hr6 : fx_room (fx_wI S6 I6) 1 := ⟨hx6, by show fx_m S6 + fx_x S6 + 1 ≤ 2000; omega, by show fx_k S6 + 1 ≤ 20000; omega⟩
  refine ⟨hr6, fun S7 e7 => ?_⟩
  have em6 : fx_m (fx_wI S6 I6) = 95 := hm6
  rw [em6]
  have hC6' : CS I6 A00 := hC3.k (fun a ha => by rw [hI6 a ha]; simp only [if_pos ha])
  have e61 : S6.1.1 = 95 := hm6
  have eI : fx_new (fx_wI S6 I6) 103 1 1 = fx_wI (fx_new (fx_wI S6 I6) 103 1 1) (fx_row I6 95 (fun _ => 0)) := by
    have h0 : fx_new (fx_wI S6 I6) 103 1 1 = fx_wI (fx_new (fx_wI S6 I6) 103 1 1) (fx_row I6 S6.1.1 (fun _ => 0)) := rfl
    rw [e61] at h0
    exact h0
  have hLS : LwS (fx_new (fx_wI S6 I6) 103 1 1) 0 := by
    have kd : ∀ i, i < 95 → (fx_new (fx_wI S6 I6) 103 1 1).2.1 i = S6.2.1 i := fun i hi => by
      show (if i = S6.1.1 then (103, 1) else S6.2.1 i) = S6.2.1 i
      rw [if_neg (by omega)]
    have pp : ∀ i, i < 95 → fx_P (fx_new (fx_wI S6 I6) 103 1 1) i = fx_P S6 i := fun i hi => by
      show fx_row S6.2.2.2.1 S6.1.1 (fun _ => none) i = S6.2.2.2.1 i
      rw [fx_row_ne _ _ (by omega)]
    refine ⟨⟨?_, fun i hi => ?_, fun i hi => ?_⟩, ⟨?_, fun i h1 h2 => ?_, fun i h1 h2 => ?_⟩, ?_, ?_, ?_, ?_⟩
    · show 85 ≤ S6.1.1 + 1
      omega
    · rw [kd i (by omega)]
      exact hC6.2.1 i hi
    · rw [pp i (by omega)]
      exact hC6.2.2 i hi
    · show 95 ≤ S6.1.1 + 1
      omega
    · rw [kd i h2]
      exact hM6.2.1 i h1 h2
    · rw [pp i h2]
      exact hM6.2.2 i h1 h2
    · show (if 95 = S6.1.1 then (103, 1) else S6.2.1 95) = (103, 1)
      rw [if_pos e61.symm]
    · show S6.1.1 + 1 = 96
      omega
    · show S6.1.2.1 ≤ 0
      have : S6.1.2.1 = 0 := hx6
      omega
    · show S6.1.2.2 + 1 ≤ 11000 + 6 * 0
      have : S6.1.2.2 ≤ fx_k S3 + 17 + 1000 + 2048 := hk6
      omega
  rw [e7, eI]
  generalize fx_new (fx_wI S6 I6) 103 1 1 = S8 at hLS ⊢
  have hrow : ∀ a, a ≠ 95 → fx_row I6 95 (fun _ => 0) a = I6 a := fun a ha => fx_row_ne _ _ ha
  refine law_loop hL hX hb 513 0 S8 _ A00 (by omega) hLS (hC6'.k (fun a ha => hrow a (by omega))) ?_ A00_inv rfl
  obtain ⟨h1, h2, h3, h4, h5, U, T, h6, h7, h8⟩ := hMS6
  exact ⟨by rw [hrow 86 (by omega)]; exact h1, by rw [hrow 85 (by omega)]; exact h2, by rw [hrow 85 (by omega)]; exact h3, h4.cg (hrow 89 (by omega)), by rw [hrow 85 (by omega)]; exact h5, U, T, by rw [hrow 87 (by omega)]; exact h6, by rw [hrow 88 (by omega)]; exact h7, h8⟩
