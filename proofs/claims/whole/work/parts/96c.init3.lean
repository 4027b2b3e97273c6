/-! The constructors, to the law's loop. -/
section INK
variable {G : fx_G} {S : fx_S} {Q : fx_R → fx_S → Prop} {k : Nat}
theorem i_V {F : fx_S → Prop} (hb : Bd S 1 9 (fun _ _ => none) Z0) (hF : ∀ S' I', shC S' → fx_m S' = 85 → fx_x S' = 0 → fx_k S' ≤ 6000 → CS I' A00 → F (fx_wI S' I')) :
    fx_Go G (4, 60) mm_V_init 0 [(0, fx_r G 0)] [] S (fx_qv F Q) := by
  have q : ∀ {f : Nat → Nat → Option Nat} {a b : Nat} (g : Nat → Option Nat), b ≠ a → fx_row f a g b = f b := fun g h => fx_row_ne _ _ h
  refine bk_V_init_0 0 ⟨hb.room 2 (by omega) (by omega), fun S1 e1 => ?_⟩
  subst e1
  rw [hb.1]
  have hb1 := hb.new 0 0 2 rfl rfl rfl
  refine bk_D_init_0 1 ⟨hb1.room 2048 (by omega) (by omega), fun S2 e2 => ?_⟩
  subst e2
  rw [hb1.1]
  have hb2 := hb1.new 100 2048 2048 rfl rfl rfl
  refine ⟨hb2.is (by omega) rfl, fun S3 e3 => ?_⟩
  subst e3
  have hb3 := hb2.setP 1 0 (some 2) (by omega)
  refine ⟨hb3.is (by omega) rfl, fun S5 e5 => ?_⟩
  subst e5
  have hb5 := hb3.setP 0 0 (some 1) (by omega)
  refine ⟨hb5.room 12 (by omega) (by omega), fun S6 e6 => ?_⟩
  subst e6
  rw [hb5.1]
  have hb6 := hb5.new 104 12 12 rfl (by rw [q _ (by omega), q _ (by omega)]) rfl
  refine ⟨hb6.is (by omega) rfl, fun S9 e9 => ?_⟩
  subst e9
  have hb9 := hb6.setP 0 1 (some 3) (by omega)
  refine i_Vloop hF 12 0 _ (by omega) (hb9.cg (fun i hi => ?_)) rfl
  have hc : i = 0 ∨ i = 1 ∨ i = 2 ∨ i = 3 := by omega
  rcases hc with e | e | e | e
  · subst e
    funext j
    show (if j = 1 then some 3 else if j = 0 then some 1 else none) = (if j = 0 then some 1 else if j = 1 then some 3 else none)
    by_cases j0 : j = 0
    · rw [if_pos j0, if_neg (by omega), if_pos j0]
    · rw [if_neg j0, if_neg j0]
  · subst e
    rfl
  · subst e
    rfl
  · subst e
    rfl
theorem Bd.hM {P : Nat → Nat → Option Nat} {I0 : Nat → Nat → Int32} (h : Bd S 95 k P I0) (hP : ∀ i, 85 ≤ i → i < 95 → P i = sh_P i) : shM S := ⟨by rw [h.1]; exact Nat.le_refl _, fun i _ h2 => h.2.2.2.1 i h2, fun i h1 h2 => (h.2.2.2.2.2 i h2).trans (hP i h1 h2)⟩
theorem Bd.hC2 {P : Nat → Nat → Option Nat} {n : Nat} {I0 : Nat → Nat → Int32} (h : Bd S n k P I0) (hn : 85 ≤ n) (hP : ∀ i, i < 85 → P i = sh_P i) : shC S := ⟨by rw [h.1]; exact hn, fun i h2 => h.2.2.2.1 i (by omega), fun i h2 => (h.2.2.2.2.2 i (by omega)).trans (hP i h2)⟩
def MP (P : Nat → Nat → Option Nat) : Nat → Nat → Option Nat :=
  let P1 := fx_row P 85 (va_up (P 85) 1 (some 86))
  let P2 := fx_row P1 85 (va_up (P1 85) 2 (some 87))
  let P3 := fx_row P2 85 (va_up (P2 85) 3 (some 88))
  let P4 := fx_row P3 85 (va_up (P3 85) 7 (some 89))
  let P5 := fx_row P4 85 (va_up (P4 85) 8 (some 90))
  let P6 := fx_row P5 85 (va_up (P5 85) 11 (some 91))
  let P7 := fx_row P6 85 (va_up (P6 85) 12 (some 92))
  let P8 := fx_row P7 85 (va_up (P7 85) 13 (some 93))
  fx_row P8 85 (va_up (P8 85) 15 (some 94))
def PM (i j : Nat) : Option Nat := if i < 85 then sh_P i j else none
theorem MP_ok : ∀ i, i < 95 → MP PM i = sh_P i := by
  intro i hi
  funext j
  by_cases i85 : i = 85
  · subst i85
    show (if j = 15 then some 94 else if j = 13 then some 93 else if j = 12 then some 92 else if j = 11 then some 91 else if j = 8 then some 90 else if j = 7 then some 89 else if j = 3 then some 88 else if j = 2 then some 87 else if j = 1 then some 86 else none) = sh_P 85 j
    by_cases hj : j < 16
    · have : ∀ j, j < 16 → (if j = 15 then some 94 else if j = 13 then some 93 else if j = 12 then some 92 else if j = 11 then some 91 else if j = 8 then some 90 else if j = 7 then some 89 else if j = 3 then some 88 else if j = 2 then some 87 else if j = 1 then some 86 else none) = sh_P 85 j := by decide
      exact this j hj
    · rw [if_neg (by omega), if_neg (by omega), if_neg (by omega), if_neg (by omega), if_neg (by omega), if_neg (by omega), if_neg (by omega), if_neg (by omega), if_neg (by omega)]
      obtain ⟨t, ht⟩ : ∃ t, j = t + 16 := ⟨j - 16, by omega⟩
      subst ht
      rfl
  · have e : MP PM i = PM i := by
      unfold MP
      rw [fx_row_ne _ _ i85, fx_row_ne _ _ i85, fx_row_ne _ _ i85, fx_row_ne _ _ i85, fx_row_ne _ _ i85, fx_row_ne _ _ i85, fx_row_ne _ _ i85, fx_row_ne _ _ i85, fx_row_ne _ _ i85]
    rw [e]
    unfold PM
    by_cases h85 : i < 85
    · rw [if_pos h85]
    · rw [if_neg h85]
      unfold sh_P
      rw [if_neg (by omega), if_neg (by omega), if_neg (by omega), if_neg (by omega), if_neg (by omega), if_neg i85]
theorem i_M80 {F : fx_S → Prop} (hS : shM S) {I : Nat → Nat → Int32} (h86 : I 86 = nF (fun _ => 0)) (h5 : I 85 5 = nI 0) (h6 : I 85 6 = nI 0) (h4 : I 85 4 = bI false) (h14 : I 85 14 = nI 0) (h88 : I 88 = bF (fun _ => false)) (hF : ∀ I', K85 I I' → MS I' A00 → F (fx_wI S I')) : ∀ (m c : Nat) (J : Nat → Nat → Int32) {v1 : Int32}, c + m = 12 → Fr [87] [] I J → J 87 = bF (fun _ => false) → v1 = nI c →
    fx_Go G (2, 31) mm_M_init 80 [(0, fx_r G 85), (1, .int v1)] [] (fx_wI S J) (fx_qv F Q) := by
  intro m
  induction m with
  | zero =>
    intro c J v1 hc hJ h87 e1
    subst e1
    have : c = 12 := by omega
    subst this
    refine bk_M_init_80 85 _ ?_
    refine ⟨fun _ => ?_, fun z => absurd (by decide) z⟩
    have i85 : ∀ J', fx_is (fx_wI S J') 85 5 := fun J' => hS.is (by omega) rfl
    refine ⟨i85 _, ?_⟩
    refine cM_begin hS 2 0 (fun b hb => ⟨i85 _, ?_⟩) rfl rfl
    refine cM_putList hS (ml := []) (by rw [hJ.2 14 (by simp)]; exact h14) (fun k hk => absurd hk (Nat.not_lt_zero _)) (by simp) (by omega) ⟨i85 _, ?_⟩
    have hMC : MC J (vD AZ) (vt AZ) (vU AZ) := ⟨by rw [hJ.1 86 (by decide) (by simp)]; exact h86, by rw [hJ.2 5 (by simp)]; exact h5, h87⟩
    refine cM_storeC hS hMC (fun k => by show 0 < 256; omega) (by show 0 ≤ 20; omega) (on := false) (by rw [hJ.2 4 (by simp)]; exact h4) (s := rootS) 0 (by omega) (by show 2 ≤ 2; omega) (by show 2 ≤ 54; omega) (fun j hj _ => putL_bfr (s := rootS) hb j hj) (fun I4 hF4 hM4 h44 => ⟨i85 _, ?_⟩) rfl rfl
    simp only [wI_setI, forall_eq]
    have hk : K85 I (fx_w I4 85 4 1) := fun a ha => by
      rw [fw_ne (by omega), hF4.1 a (by omega) (by simp <;> omega), hJ.1 a (by omega) (by simp <;> omega)]
    refine hF _ hk ⟨?_, ?_, ?_, fun j hj => absurd hj (Nat.not_lt_zero _), fw_at _ _ _ _, vU A00, fun _ => false, ?_, ?_, fun _ => ⟨rfl, rfl⟩⟩
    · rw [fw_ne (by decide)]
      exact hM4.1
    · rw [fw_nj (by decide)]
      exact hM4.2.1
    · rw [fw_nj (by decide), hF4.2 6 (by simp), hJ.2 6 (by simp)]
      exact h6
    · rw [fw_ne (by decide)]
      exact hM4.2.2
    · rw [fw_ne (by decide), hF4.1 88 (by decide) (by simp), hJ.1 88 (by decide) (by simp)]
      exact h88
  | succ m ih =>
    intro c J v1 hc hJ h87 e1
    subst e1
    refine bk_M_init_80 85 _ ?_
    refine pk_le 12 c (fun z => by omega) (fun _ => ?_) rfl rfl (by omega) (by omega)
    refine ⟨hS.is (by omega) rfl, 87, hS.P (by omega) rfl, hS.is (by omega) rfl, ?_, fun S14 e14 => ?_⟩
    · rw [hS.ln (N := 12) (by omega) rfl]
      exact pk_in c 12 (by omega) rfl
    · subst e14
      rw [wI_setI, nI_clamp (by omega)]
      have hw : Fr [87] [] J (fx_w J 87 c (vp_nar .boolean 0)) := Fr.w [87] [] J 87 _ _ (by simp) (by decide)
      refine ih (c + 1) _ (by omega) (hJ.tr hw (fun _ h => ⟨h, h⟩) (fun _ h => ⟨h, h⟩)) ?_ (by first | rfl | (simp (disch := omega) only [nI_lit, nI_ofInt1, nI_ofInt4, nI_ofInt2, nI_ofInt3, mI_neg, wI_I, wI_setI, wI_setR, forall_eq, nI_add, pk_mul, pk_sub, pk_div, pk_rem, nI_clamp, nI_leI, nI_ltI, nI_eq, vin_iff, nar0, nar1, nF_ap, bF_ap, oF_ap, bI_0, bI_1, and255, bu_w, bu_p, bu_90, bu_9, row_w, row_at, nF_up, nI_ofIntm] <;> first | done | omega | (congr 1; omega)))
      show fx_row J 87 (upd (J 87) c (vp_nar .boolean 0)) 87 = _
      rw [fx_row_self, h87, show vp_nar .boolean 0 = bI false from rfl, bF_up]
      congr 1
      funext x
      unfold up
      split <;> rfl
theorem i_M {F : fx_S → Prop} {I0 : Nat → Nat → Int32} (hb : Bd S 86 k PM I0) (hI : ∀ i, 85 ≤ i → I0 i = fun _ => 0) (hk : k + 1000 + 2048 ≤ 20000) (hF : ∀ S' I', shC S' → shM S' → fx_m S' = 95 → fx_x S' = 0 → fx_k S' ≤ k + 1000 + 2048 → (∀ a, a < 85 → I' a = I0 a) → MS I' A00 → F (fx_wI S' I')) :
    fx_Go G (2, 31) mm_M_init 0 [(0, fx_r G 85)] [] S (fx_qv F Q) := by
  have q : ∀ {f : Nat → Nat → Option Nat} {a b : Nat} (g : Nat → Option Nat), b ≠ a → fx_row f a g b = f b := fun g h => fx_row_ne _ _ h
  have pn : ∀ i, 85 ≤ i → PM i = fun _ => none := fun i hi => by
    funext j
    unfold PM
    rw [if_neg (by omega)]
  refine bk_M_init_0 85 ⟨hb.room 2048 (by omega) (by omega), fun S1 e1 => ?_⟩
  subst e1
  rw [hb.1]
  have hb1 := hb.new 100 2048 2048 rfl (pn 86 (by omega)) (hI 86 (by omega))
  refine ⟨hb1.is (by omega) rfl, fun S4 e4 => ?_⟩
  subst e4
  have hb4 := hb1.setP 85 1 (some 86) (by omega)
  refine ⟨hb4.room 12 (by omega) (by omega), fun S5 e5 => ?_⟩
  subst e5
  rw [hb4.1]
  have hb5 := hb4.new 101 12 12 rfl (by rw [q _ (by omega)]; exact pn 87 (by omega)) (hI 87 (by omega))
  refine ⟨hb5.is (by omega) rfl, fun S8 e8 => ?_⟩
  subst e8
  have hb8 := hb5.setP 85 2 (some 87) (by omega)
  refine ⟨hb8.room 128 (by omega) (by omega), fun S9 e9 => ?_⟩
  subst e9
  rw [hb8.1]
  have hb9 := hb8.new 101 128 128 rfl (by rw [q _ (by omega), q _ (by omega)]; exact pn 88 (by omega)) (hI 88 (by omega))
  refine ⟨hb9.is (by omega) rfl, fun S12 e12 => ?_⟩
  subst e12
  have hb12 := hb9.setP 85 3 (some 88) (by omega)
  refine ⟨hb12.room 8 (by omega) (by omega), fun S13 e13 => ?_⟩
  subst e13
  rw [hb12.1]
  have hb13 := hb12.new 102 8 8 rfl (by rw [q _ (by omega), q _ (by omega), q _ (by omega)]; exact pn 89 (by omega)) (hI 89 (by omega))
  refine ⟨hb13.is (by omega) rfl, fun S16 e16 => ?_⟩
  subst e16
  have hb16 := hb13.setP 85 7 (some 89) (by omega)
  refine ⟨hb16.room 64 (by omega) (by omega), fun S17 e17 => ?_⟩
  subst e17
  rw [hb16.1]
  have hb17 := hb16.new 100 64 64 rfl (by rw [q _ (by omega), q _ (by omega), q _ (by omega), q _ (by omega)]; exact pn 90 (by omega)) (hI 90 (by omega))
  refine ⟨hb17.is (by omega) rfl, fun S20 e20 => ?_⟩
  subst e20
  have hb20 := hb17.setP 85 8 (some 90) (by omega)
  refine ⟨hb20.room 64 (by omega) (by omega), fun S21 e21 => ?_⟩
  subst e21
  rw [hb20.1]
  have hb21 := hb20.new 100 64 64 rfl (by rw [q _ (by omega), q _ (by omega), q _ (by omega), q _ (by omega), q _ (by omega)]; exact pn 91 (by omega)) (hI 91 (by omega))
  refine ⟨hb21.is (by omega) rfl, fun S24 e24 => ?_⟩
  subst e24
  have hb24 := hb21.setP 85 11 (some 91) (by omega)
  refine ⟨hb24.room 64 (by omega) (by omega), fun S25 e25 => ?_⟩
  subst e25
  rw [hb24.1]
  have hb25 := hb24.new 101 64 64 rfl (by rw [q _ (by omega), q _ (by omega), q _ (by omega), q _ (by omega), q _ (by omega), q _ (by omega)]; exact pn 92 (by omega)) (hI 92 (by omega))
  refine ⟨hb25.is (by omega) rfl, fun S28 e28 => ?_⟩
  subst e28
  have hb28 := hb25.setP 85 12 (some 92) (by omega)
  refine ⟨hb28.room 64 (by omega) (by omega), fun S29 e29 => ?_⟩
  subst e29
  rw [hb28.1]
  have hb29 := hb28.new 100 64 64 rfl (by rw [q _ (by omega), q _ (by omega), q _ (by omega), q _ (by omega), q _ (by omega), q _ (by omega), q _ (by omega)]; exact pn 93 (by omega)) (hI 93 (by omega))
  refine ⟨hb29.is (by omega) rfl, fun S32 e32 => ?_⟩
  subst e32
  have hb32 := hb29.setP 85 13 (some 93) (by omega)
  refine ⟨hb32.room 12 (by omega) (by omega), fun S33 e33 => ?_⟩
  subst e33
  rw [hb32.1]
  have hb33 := hb32.new 100 12 12 rfl (by rw [q _ (by omega), q _ (by omega), q _ (by omega), q _ (by omega), q _ (by omega), q _ (by omega), q _ (by omega), q _ (by omega)]; exact pn 94 (by omega)) (hI 94 (by omega))
  refine ⟨hb33.is (by omega) rfl, fun S36 e36 => ?_⟩
  have hb36 := hb33.setP 85 15 (some 94) (by omega)
  rw [← e36] at hb36
  have hbS := hb36.cg MP_ok
  clear hb36 e36 hb33
  have hM := hbS.hM (fun _ _ _ => rfl)
  have hCc := hbS.hC2 (by omega) (fun _ _ => rfl)
  have hII : ∀ i, i < 95 → fx_I S36 i = I0 i := hbS.2.2.2.2.1
  have hz : ∀ i, 85 ≤ i → i < 95 → fx_I S36 i = fun _ => 0 := fun i h1 h2 => (hII i h2).trans (hI i h1)
  have eS : S36 = fx_wI S36 (fx_I S36) := rfl
  have hm : fx_m S36 = 95 := hbS.1
  have hx : fx_x S36 = 0 := hbS.2.1
  have hkk : fx_k S36 ≤ k + 1000 + 2048 := by rw [hbS.2.2.1]; omega
  rw [eS]
  refine i_M80 hM (I := fx_I S36) ?_ ?_ ?_ ?_ ?_ ?_ (fun I' hK hMS => hF S36 I' hCc hM hm hx hkk (fun a ha => (hK a ha).trans (hII a (by omega))) hMS) 12 0 _ (by omega) (Fr.rfl' _ _ _) ?_ rfl
  · rw [hz 86 (by omega) (by omega)]; rfl
  · rw [hz 85 (by omega) (by omega)]; rfl
  · rw [hz 85 (by omega) (by omega)]; rfl
  · rw [hz 85 (by omega) (by omega)]; rfl
  · rw [hz 85 (by omega) (by omega)]; rfl
  · rw [hz 88 (by omega) (by omega)]; rfl
  · rw [hz 87 (by omega) (by omega)]; rfl
end INK
theorem A00_inv : INV 1 A00 := by
  have hz : ∀ p, wrd (vD AZ) p = 0 := fun _ => rfl
  have hu : ∀ r, inU (vD AZ) r = false := fun _ => rfl
  have hJ : OJ 0 AZ := ⟨⟨⟨fun k => by show 0 < 256; omega, by show 0 ≤ 20; omega, by show 0 ≤ 8; omega, fun x hx => by cases hx⟩, fun x hx => (by cases hx), fun r _ => ⟨by rw [hz, hz]; omega, by rw [hz]; omega⟩, fun r _ h => (by rw [hu r] at h; cases h), fun r _ _ => rfl, fun r r' i j c _ _ h => (by rw [hu r] at h; cases h)⟩, fun r _ => rfl⟩
  have h2 := hJ.st 0 (by omega) rootS (by omega) (fun _ => ⟨rootS_wf (nN_lt hJ.1.1.1 0), fun x hx => (by cases hx), fun _ => ⟨rfl, rfl, rfl⟩, fun z => absurd rfl z⟩) (fun z => absurd z ne20) (hJ.dd.ls (fun x hx' hu' => by
    by_cases e : x = 0
    · rw [e, up_at]
      exact Or.inl rfl
    · rw [up_ne _ _ e] at hu'
      cases hu'))
  have hJ1 : OJ 1 A00 := h2.1 rfl
  have ux : ∀ x, x ≠ 0 → vU A00 x = false := fun x hx => (stA_f hx).2
  have u0 : ∀ x, vU A00 x = true → x = 0 := fun x hx => Decidable.byContradiction (fun z => by rw [ux x z] at hx; cases hx)
  refine INV.on hJ1 (OI.mk hJ1 rfl ⟨fun r _ hr => ?_, fun r _ hr => ?_⟩ (fun d hd hud _ => ?_) (fun c _ => ⟨fun z => by (cases z), fun z => ?_⟩))
  · rw [u0 r hr]
    exact ⟨rfl, rfl⟩
  · exact Or.inl (u0 r hr)
  · rw [u0 d hud]
    refine ⟨List.nodup_nil, fun x => ⟨fun z => by (cases z), fun z => ?_⟩⟩
    have := u0 x z.2.2.1
    omega
  · obtain ⟨r, _, r2, r3⟩ := z
    rw [u0 r r2] at r3
    cases r3
