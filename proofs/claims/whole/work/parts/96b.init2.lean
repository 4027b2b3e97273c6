/-! The constructors of the class and of the reference. -/
def Z0 : Nat → Nat → Int32 := fun _ _ => 0
def AZ : VS := (fun _ => 0, 0, [], true, fun _ => false, fun _ => frA 0, fun _ => false)
def A00 : VS := stA AZ 0 rootS
section INJ
variable {G : fx_G} {S : fx_S} {Q : fx_R → fx_S → Prop} {k : Nat}
theorem Bd.hC {I0 : Nat → Nat → Int32} (h : Bd S 85 k sh_P I0) : shC S := ⟨by rw [h.1]; exact Nat.le_refl _, h.2.2.2.1, h.2.2.2.2.2⟩
theorem va_hi {f : Nat → Option Nat} {j i : Nat} {r : Option Nat} (h : i ≠ j) : va_up f j r i = f i := by
  unfold va_up
  rw [if_neg h]
def PW (P : Nat → Nat → Option Nat) : Nat → Nat → Option Nat :=
  let P1 := fx_row P 0 (va_up (P 0) 2 (some 76))
  let P2 := fx_row P1 77 (va_up (P1 77) 0 (some 78))
  let P3 := fx_row P2 0 (va_up (P2 0) 3 (some 77))
  let P4 := fx_row P3 79 (va_up (P3 79) 0 (some 80))
  let P5 := fx_row P4 0 (va_up (P4 0) 5 (some 79))
  let P6 := fx_row P5 81 (va_up (P5 81) 0 (some 82))
  let P7 := fx_row P6 0 (va_up (P6 0) 6 (some 81))
  let P8 := fx_row P7 0 (va_up (P7 0) 7 (some 83))
  fx_row P8 0 (va_up (P8 0) 8 (some 84))
theorem PW_ok : ∀ i, i < 85 → PW (PV 12) i = sh_P i := by
  intro i hi
  funext j
  by_cases i0 : i = 0
  · subst i0
    show (if j = 8 then some 84 else if j = 7 then some 83 else if j = 6 then some 81 else if j = 5 then some 79 else if j = 3 then some 77 else if j = 2 then some 76 else if j = 0 then some 1 else if j = 1 then some 3 else none) = sh_P 0 j
    by_cases hj : j < 9
    · have : ∀ j, j < 9 → (if j = 8 then some 84 else if j = 7 then some 83 else if j = 6 then some 81 else if j = 5 then some 79 else if j = 3 then some 77 else if j = 2 then some 76 else if j = 0 then some 1 else if j = 1 then some 3 else none) = sh_P 0 j := by decide
      exact this j hj
    · rw [if_neg (by omega), if_neg (by omega), if_neg (by omega), if_neg (by omega), if_neg (by omega), if_neg (by omega), if_neg (by omega), if_neg (by omega)]
      obtain ⟨t, ht⟩ : ∃ t, j = t + 9 := ⟨j - 9, by omega⟩
      subst ht
      rfl
  · by_cases i77 : i = 77
    · subst i77
      show (if j = 0 then some 78 else PV 12 77 j) = sh_P 77 j
      rw [PV_hi 12 77 (by omega)]
      rfl
    · by_cases i79 : i = 79
      · subst i79
        show (if j = 0 then some 80 else PV 12 79 j) = sh_P 79 j
        rw [PV_hi 12 79 (by omega)]
        rfl
      · by_cases i81 : i = 81
        · subst i81
          show (if j = 0 then some 82 else PV 12 81 j) = sh_P 81 j
          rw [PV_hi 12 81 (by omega)]
          rfl
        · have e : PW (PV 12) i = PV 12 i := by
            unfold PW
            rw [fx_row_ne _ _ i0, fx_row_ne _ _ i0, fx_row_ne _ _ i0, fx_row_ne _ _ i81, fx_row_ne _ _ i0, fx_row_ne _ _ i79, fx_row_ne _ _ i0, fx_row_ne _ _ i77, fx_row_ne _ _ i0]
          rw [e]
          unfold PV
          rw [if_neg i0]
          by_cases i1 : i = 1
          · rw [if_pos i1, i1]
            rfl
          · rw [if_neg i1]
            by_cases i3 : i = 3
            · rw [if_pos i3, i3]
              rfl
            · rw [if_neg i3]
              by_cases i4 : 4 ≤ i ∧ i < 4 + 6 * 12
              · rw [if_pos i4]
              · rw [if_neg i4]
                unfold sh_P
                rw [if_neg i0, if_neg i1, if_neg i3, if_neg (by omega), if_neg (by omega), if_neg (by omega)]
theorem i_Vend {F : fx_S → Prop} (hb : Bd S 76 k (PV 12) Z0) (hk : k + 1000 ≤ 20000) (hF : ∀ S' I', shC S' → fx_m S' = 85 → fx_x S' = 0 → fx_k S' ≤ k + 1000 → CS I' A00 → F (fx_wI S' I')) {v1 : Int32} (e1 : v1 = nI 12) :
    fx_Go G (4, 60) mm_V_init 26 [(0, fx_r G 0), (1, .int v1)] [] S (fx_qv F Q) := by
  subst e1
  have pz : ∀ i, 76 ≤ i → PV 12 i = fun _ => none := fun i hi => PV_hi 12 i hi
  have q : ∀ {f : Nat → Nat → Option Nat} {a b : Nat} (g : Nat → Option Nat), b ≠ a → fx_row f a g b = f b := fun g h => fx_row_ne _ _ h
  refine bk_V_init_26 0 _ ?_
  refine ⟨fun _ => ?_, fun z => absurd (by decide) z⟩
  refine ⟨hb.room 128 (by omega) (by omega), fun S1 e1 => ?_⟩
  subst e1
  rw [hb.1]
  have hb1 := hb.new 101 128 128 rfl (pz 76 (by omega)) rfl
  refine ⟨hb1.is (by omega) rfl, fun S4 e4 => ?_⟩
  subst e4
  have hb4 := hb1.setP 0 2 (some 76) (by omega)
  refine ⟨hb4.room 2 (by omega) (by omega), fun S5 e5 => ?_⟩
  subst e5
  rw [hb4.1]
  have hb5 := hb4.new 2 0 2 rfl (by rw [q _ (by omega)]; exact pz 77 (by omega)) rfl
  refine i_N hb5 77 (by omega) rfl rfl (by rw [q _ (by omega)]; exact pz 78 (by omega)) rfl (by omega) (by omega) (fun S7 hb7 => ⟨hb7.is (by omega) rfl, fun S9 e9 => ?_⟩)
  subst e9
  have hb9 := hb7.setP 0 3 (some 77) (by omega)
  refine ⟨hb9.room 2 (by omega) (by omega), fun S10 e10 => ?_⟩
  subst e10
  rw [hb9.1]
  have hb10 := hb9.new 2 0 2 rfl (by rw [q _ (by omega), q _ (by omega), q _ (by omega)]; exact pz 79 (by omega)) rfl
  refine i_N hb10 79 (by omega) rfl rfl (by rw [q _ (by omega), q _ (by omega), q _ (by omega)]; exact pz 80 (by omega)) rfl (by omega) (by omega) (fun S12 hb12 => ⟨hb12.is (by omega) rfl, fun S14 e14 => ?_⟩)
  subst e14
  have hb14 := hb12.setP 0 5 (some 79) (by omega)
  refine ⟨hb14.room 2 (by omega) (by omega), fun S15 e15 => ?_⟩
  subst e15
  rw [hb14.1]
  have hb15 := hb14.new 1 0 2 rfl (by rw [q _ (by omega), q _ (by omega), q _ (by omega), q _ (by omega), q _ (by omega)]; exact pz 81 (by omega)) rfl
  refine i_Y hb15 81 (by omega) rfl rfl (by rw [q _ (by omega), q _ (by omega), q _ (by omega), q _ (by omega), q _ (by omega)]; exact pz 82 (by omega)) rfl (by omega) (by omega) (fun S17 hb17 => ⟨hb17.is (by omega) rfl, fun S19 e19 => ?_⟩)
  subst e19
  have hb19 := hb17.setP 0 6 (some 81) (by omega)
  refine ⟨hb19.room 64 (by omega) (by omega), fun S20 e20 => ?_⟩
  subst e20
  rw [hb19.1]
  have hb20 := hb19.new 100 64 64 rfl (by rw [q _ (by omega), q _ (by omega), q _ (by omega), q _ (by omega), q _ (by omega), q _ (by omega), q _ (by omega)]; exact pz 83 (by omega)) rfl
  refine ⟨hb20.is (by omega) rfl, fun S23 e23 => ?_⟩
  subst e23
  have hb23 := hb20.setP 0 7 (some 83) (by omega)
  refine ⟨hb23.room 12 (by omega) (by omega), fun S24 e24 => ?_⟩
  subst e24
  rw [hb23.1]
  have hb24 := hb23.new 100 12 12 rfl (by rw [q _ (by omega), q _ (by omega), q _ (by omega), q _ (by omega), q _ (by omega), q _ (by omega), q _ (by omega), q _ (by omega)]; exact pz 84 (by omega)) rfl
  refine ⟨hb24.is (by omega) rfl, fun S27 e27 => ?_⟩
  have hb27 := hb24.setP 0 8 (some 84) (by omega)
  rw [← e27] at hb27
  have hbS : Bd S27 85 (k + 128 + 2 + 8 + 2 + 8 + 2 + 63 + 64 + 12) sh_P Z0 := hb27.cg PW_ok
  clear hb27 e27 hb24
  have hS := hbS.hC
  have hI : ∀ i, i < 85 → fx_I S27 i = Z0 i := hbS.2.2.2.2.1
  have i0 : fx_is S27 0 4 := hbS.is (by omega) rfl
  have i3 : fx_is S27 3 104 := hbS.is (by omega) rfl
  have i4 : fx_is S27 4 3 := hbS.is (by omega) rfl
  have i1 : fx_is S27 1 0 := hbS.is (by omega) rfl
  have p01 : fx_P S27 0 1 = some 3 := by rw [hbS.2.2.2.2.2 0 (by omega)]; rfl
  have p00 : fx_P S27 0 0 = some 1 := by rw [hbS.2.2.2.2.2 0 (by omega)]; rfl
  have p07 : fx_P S27 0 7 = some 83 := by rw [hbS.2.2.2.2.2 0 (by omega)]; rfl
  have p30 : fx_P S27 3 0 = some 4 := by rw [hbS.2.2.2.2.2 3 (by omega)]; rfl
  have l3 : vp_in 0 (fx_ln S27 3) := by rw [hbS.ln (c := 12) (by omega) rfl]; exact pk_in 0 12 (by omega) rfl
  have hm : fx_m S27 = 85 := hbS.1
  have hx : fx_x S27 = 0 := hbS.2.1
  have hkk : fx_k S27 ≤ k + 1000 := by rw [hbS.2.2.1]; omega
  have hI0 : ∀ i, i < 85 → ∀ j, fx_I S27 i j = nI 0 := fun i hi j => by rw [hI i hi]; rfl
  clear hbS
  generalize hII : fx_I S27 = II at hI0
  have eS : S27 = fx_wI S27 II := by rw [← hII]; rfl
  rw [eS]
  refine ⟨3, p01, i3, l3, 4, p30, i4, ?_⟩
  refine cH_become hS 4 (isH_at 0 (by omega)) 2 0 0 (by omega) (hI0 4 (by omega) 2) (fun I1 hF1 hP1 => ⟨i0, 3, p01, i3, l3, 4, p30, i4, ?_⟩) rfl rfl
  refine cH_takeNextNumber hS 4 (isH_at 0 (by omega)) hP1 (by show 0 < 65536; omega) (fun I2 hF2 hP2 => ⟨i0, 3, p01, i3, l3, 4, p30, 83, p07, i4, ?_⟩)
  change ShP I2 4 (setN rootS 1) at hP2
  have hsok : sok (setN rootS 1) := (rootS_wf (n := 1) (by omega)).sok
  refine cH_encode hS 4 (isH_at 0 (by omega)) (by omega) hP2 hsok (fun I3 b hF3 hb3 hbe => ⟨i0, 1, p00, 83, p07, i1, ?_⟩)
  have hF13 : FC [4, 5, 8, 83] II I3 := ((hF1.mono (fun a ha => by simp at ha ⊢ <;> omega)).tr (hF2.mono (fun a ha => by simp at ha ⊢ <;> omega))).tr (hF3.mono (fun a ha => by simp at ha ⊢ <;> omega))
  have hD3 : I3 2 = nF (fun _ => 0) := by
    rw [hF13 2 (by simp <;> omega)]
    funext j
    exact hI0 2 (by omega) j
  refine cD_laySector hS hD3 hb3 0 0 (by omega) (by omega) ⟨i0, 1, p00, 83, p07, i1, ?_⟩ rfl rfl
  refine cD_laySector hS (row_at _ _ _) (by rw [fx_row_ne _ _ (by decide)]; exact hb3) 0 1 (by omega) (by omega) ⟨i0, ?_⟩ rfl rfl
  rw [row_row]
  simp only [wI_setI, forall_eq]
  have eD : secD (secD (fun _ => 0) 0 0 b) 0 1 b = vD A00 := stD_cg (D := fun _ => 0) (r := 0) (t := 0) (b := b) (b' := encB rootS 1) hbe
  rw [eD]
  have hF4 : FC [0, 2, 4, 5, 8, 83] II (fx_w (fx_row I3 2 (nF (vD A00))) 0 4 1) := ((hF13.mono (fun a ha => by simp at ha ⊢ <;> omega)).tr (FC.row [0, 2, 4, 5, 8, 83] _ 2 _ (by simp))).tr (FC.w [0, 2, 4, 5, 8, 83] _ 0 _ _ (by simp))
  have hF34 : FC [0, 2] I3 (fx_w (fx_row I3 2 (nF (vD A00))) 0 4 1) := (FC.row [0, 2] _ 2 _ (by simp)).tr (FC.w [0, 2] _ 0 _ _ (by simp))
  refine hF S27 _ hS hm hx hkk ⟨⟨?_, ?_, ?_, ?_⟩, fw_at _ _ _ _, fun _ => ⟨fun r hr => ?_, fun c hc => ?_⟩⟩
  · rw [fw_ne (by decide), row_at]
  · rw [hF4 1 (by simp <;> omega)]
    exact hI0 1 (by omega) 1
  · rw [hF4 77 (by simp <;> omega)]
    exact hI0 77 (by omega) 1
  · exact fun j hj => absurd hj (Nat.not_lt_zero _)
  · by_cases er : r = 0
    · rw [er]
      exact (hP2.fc hF3 (fun a a1 a2 => by simp <;> omega)).fc hF34 (fun a a1 a2 => by simp <;> omega)
    · have e : vf A00 r = frA 0 := (stA_f er).1
      rw [e]
      have hz : ∀ a, 10 ≤ a → a < 76 → ∀ j, fx_w (fx_row I3 2 (nF (vD A00))) 0 4 1 a j = nI 0 := fun a a1 a2 j => by
        rw [hF4 a (by simp <;> omega)]
        exact hI0 a (by omega) j
      exact ⟨hz _ (by omega) (by omega) _, hz _ (by omega) (by omega) _, hz _ (by omega) (by omega) _, hz _ (by omega) (by omega) _, hz _ (by omega) (by omega) _, ⟨hz _ (by omega) (by omega) _, fun j hj => absurd hj (Nat.not_lt_zero _)⟩, fun j hj => absurd hj (Nat.not_lt_zero _), ⟨hz _ (by omega) (by omega) _, fun j hj => absurd hj (Nat.not_lt_zero _)⟩⟩
  · rw [hF4 76 (by simp <;> omega)]
    exact hI0 76 (by omega) c
theorem i_Vloop {F : fx_S → Prop} (hF : ∀ S' I', shC S' → fx_m S' = 85 → fx_x S' = 0 → fx_k S' ≤ 6000 → CS I' A00 → F (fx_wI S' I')) : ∀ (m r : Nat) (S : fx_S) {v1 : Int32}, r + m = 12 → Bd S (4 + 6 * r) (2071 + 137 * r) (PV r) Z0 → v1 = nI r →
    fx_Go G (4, 60) mm_V_init 26 [(0, fx_r G 0), (1, .int v1)] [] S (fx_qv F Q) := by
  intro m
  induction m with
  | zero =>
    intro r S v1 hr hb e1
    have : r = 12 := by omega
    subst this
    exact i_Vend hb (by omega) (fun S' I' h1 h2 h3 h4 h5 => hF S' I' h1 h2 h3 (by omega) h5) e1
  | succ m ih =>
    intro r S v1 hr hb e1
    subst e1
    have hr' : r < 12 := by omega
    have k0 : sh_kd (4 + 6 * r) = (3, 0) := kd_sh r 0 hr' (by omega)
    refine bk_V_init_26 0 _ ?_
    refine pk_le 12 r (fun z => by omega) (fun _ => ?_) rfl rfl (by omega) (by omega)
    have p01 : fx_P S 0 1 = some 3 := by rw [hb.2.2.2.2.2 0 (by omega)]; rfl
    refine ⟨hb.is (by omega) rfl, 3, p01, hb.room 8 (by omega) (by omega), fun S1 e1 => ?_⟩
    subst e1
    rw [hb.1]
    have hb1 := hb.new 3 0 8 k0 (PV_hi r _ (by omega)) rfl
    refine i_H r hr' hb1 (fun t _ _ => PV_hi r _ (by omega)) (fun t _ _ => rfl) (by omega) (fun S2 hb2 => ⟨hb2.is (by omega) rfl, hb2.is (by omega) (by rw [k0]), ?_, fun S3 e3 => ?_⟩)
    · rw [hb2.ln (c := 12) (by omega) rfl]
      exact pk_in r 12 hr' rfl
    · subst e3
      rw [nI_clamp (by omega)]
      have hb3 := (hb2.setP 3 r (some (4 + 6 * r)) (by omega)).cg (PV_step r hr')
      refine ih (r + 1) _ (by omega) ?_ (by first | rfl | (simp (disch := omega) only [nI_lit, nI_ofInt1, nI_ofInt4, nI_ofInt2, nI_ofInt3, mI_neg, wI_I, wI_setI, wI_setR, forall_eq, nI_add, pk_mul, pk_sub, pk_div, pk_rem, nI_clamp, nI_leI, nI_ltI, nI_eq, vin_iff, nar0, nar1, nF_ap, bF_ap, oF_ap, bI_0, bI_1, and255, bu_w, bu_p, bu_90, bu_9, row_w, row_at, nF_up, nI_ofIntm] <;> first | done | omega | (congr 1; omega)))
      rw [show 4 + 6 * (r + 1) = 4 + 6 * r + 6 by omega]
      obtain ⟨g1, g2, g3, g4⟩ := hb3
      exact ⟨g1, g2, by rw [g3]; omega, g4⟩
end INJ
