/-! The reference's runs: reading and writing them. -/
theorem tl_drop {α : Type} {l t : List α} {x : α} {a c : Nat} (h : l.drop a = x :: t) : t.drop c = l.drop (a + c + 1) := by
  have : t = l.drop (a + 1) := by
    have := congrArg (List.drop 1) h
    rw [List.drop_drop] at this
    simpa using this.symm
  rw [this, List.drop_drop]
  congr 1
  omega
theorem cont_stop_n : ∀ (t : List (Option Nat)), cont none t < t.length → go t (cont none t) ≠ none
  | none :: t, h => by
    simp only [cont, List.length_cons] at h ⊢
    rw [go_s]
    exact cont_stop_n t (by omega)
  | some c :: t, _ => by simp [cont, go_0]
  | [], h => by simp at h
theorem cont_stop_s : ∀ (c : Nat) (t : List (Option Nat)), cont (some c) t < t.length → go t (cont (some c) t) ≠ some (c + cont (some c) t + 1)
  | c, some e :: t, h => by
    simp only [cont, List.length_cons] at h ⊢
    by_cases he : e = c + 1
    · rw [if_pos he] at h ⊢
      rw [go_s]
      have := cont_stop_s e t (by omega)
      intro q
      apply this
      rw [q, he]
      congr 1
      omega
    · rw [if_neg he, go_0]
      intro q
      apply he
      simpa using q
  | c, none :: t, _ => by simp [cont, go_0]
  | c, [], h => by simp at h
theorem oI_n {o : Option Nat} (h : ∀ c, o = some c → c < 2 ^ 31) (e : Nat) (he : e < 2 ^ 31) : (oI o = nI e) ↔ o = some e := by
  cases o with
  | none => exact ⟨fun q => absurd q (mI_ne e he), fun q => by cases q⟩
  | some c =>
    show nI c = nI e ↔ _
    rw [nI_eq (h c rfl) he]
    exact ⟨fun q => by rw [q], fun q => by cases q; rfl⟩
section MLOAD
variable {G : fx_G} {S : fx_S} {I : Nat → Nat → Int32} {Q : fx_R → fx_S → Prop} {D : Nat → Nat}
theorem cM_load82 (hS : shM S) (g : Nat → Option Nat) (hole : Bool) (a n p l r : Nat) (ha : a + n ≤ 64) (hp : p < 100) (hl : l < 1000) (hg : ∀ j, a ≤ j → j < a + n → g j = if hole = true then none else some (l + (j - a))) : ∀ (m k : Nat) (I : Nat → Nat → Int32) {v1 v2 v3 v4 v5 v6 : Int32}, k + m = n → I 85 10 = nI a → (∀ j, j < a + k → I 91 j = oI (g j)) →
    (∀ I', Fr [91] [10] I I' → I' 85 10 = nI (a + n) → (∀ j, j < a + n → I' 91 j = oI (g j)) → fx_Go G (2, 32) mm_M_loadMap 23 [(0, fx_r G 85), (1, .int (nI r)), (2, .int (nI (p + if hole = true then 2 else 3))), (3, .int (nI l))] [] (fx_wI S I') Q) →
    v1 = nI r → v2 = nI p → v3 = nI l → v4 = bI hole → v5 = nI n → v6 = nI k →
    fx_Go G (2, 32) mm_M_loadMap 82 [(0, fx_r G 85), (1, .int v1), (2, .int v2), (3, .int v3), (4, .int v4), (5, .int v5), (6, .int v6)] [] (fx_wI S I) Q := by
  intro m
  induction m with
  | zero =>
    intro k I v1 v2 v3 v4 v5 v6 hk hc hrow h e1 e2 e3 e4 e5 e6
    subst e1 e2 e3 e4 e5 e6
    have := h (fx_w I 85 10 (nI (a + n))) (Fr.w5 _ _ _ _ _ (by decide)) rfl (fun j hj => hrow j (by omega))
    refine bs_M_loadMap_82 hS.w _ _ _ _ _ _ ?_
    simp (disch := omega) only [nI_lit, nI_ofInt1, nI_ofInt4, nI_ofInt2, nI_ofInt3, mI_neg, wI_I, wI_setI, wI_setR, forall_eq, nI_add, pk_mul, pk_sub, pk_div, pk_rem, nI_clamp, nI_leI, nI_ltI, nI_eq, vin_iff, nar0, nar1, nF_ap, bF_ap, oF_ap, bI_0, bI_1, and255, bu_w, bu_p, bu_90, bu_9, row_w, row_at, nF_up, nI_ofIntm, hc]
    refine ⟨fun _ => ⟨fun q => ?_, fun q => ?_⟩, fun q => absurd (by omega) q⟩
    · rw [q] at this; exact this
    · rw [show hole = true by simpa using q] at this; exact this
  | succ m ih =>
    intro k I v1 v2 v3 v4 v5 v6 hk hc hrow h e1 e2 e3 e4 e5 e6
    subst e1 e2 e3 e4 e5 e6
    have hgk := hg (a + k) (by omega) (by omega)
    refine bs_M_loadMap_82 hS.w _ _ _ _ _ _ ?_
    simp (disch := omega) only [nI_lit, nI_ofInt1, nI_ofInt4, nI_ofInt2, nI_ofInt3, mI_neg, wI_I, wI_setI, wI_setR, forall_eq, nI_add, pk_mul, pk_sub, pk_div, pk_rem, nI_clamp, nI_leI, nI_ltI, nI_eq, vin_iff, nar0, nar1, nF_ap, bF_ap, oF_ap, bI_0, bI_1, and255, bu_w, bu_p, bu_90, bu_9, row_w, row_at, nF_up, nI_ofIntm, hc]
    refine ⟨fun q => absurd q (by omega), fun _ => ⟨fun q => ⟨by omega, ?_⟩, fun q => ⟨by omega, ?_⟩⟩⟩
    · refine ih (k + 1) _ (by omega) hc (fun j hj => ?_) (fun I' hF => h I' ((Fr.w [91] [10] I 91 _ _ (by decide) (by decide)).tr hF (fun _ h => ⟨h, h⟩) (fun _ h => ⟨h, h⟩))) rfl rfl rfl rfl rfl rfl
      by_cases c : j = a + k
      · subst c
        rw [fw_at, hgk, q]
        show nI (l + k) = nI (l + (a + k - a))
        congr 1
        omega
      · rw [fw_nj c]; exact hrow j (by omega)
    · refine ih (k + 1) _ (by omega) hc (fun j hj => ?_) (fun I' hF => h I' ((Fr.w [91] [10] I 91 _ _ (by decide) (by decide)).tr hF (fun _ h => ⟨h, h⟩) (fun _ h => ⟨h, h⟩))) rfl rfl rfl rfl rfl rfl
      by_cases c : j = a + k
      · subst c
        rw [fw_at, hgk, if_pos (show hole = true by simpa using q)]
        rfl
      · rw [fw_nj c]; exact hrow j (by omega)
theorem cM_load23 {F : fx_S → Prop} (hS : shM S) {s : AS} (r : Nat) (hR : Rec D r s) (hr : r < 12) (hpl : (aL s).length ≤ 64) (hx : ∀ c, some c ∈ aL s → c < 128) : ∀ (n a p l : Nat) (I : Nat → Nat → Int32) {v1 v2 v3 : Int32}, I 86 = nF D → (aL s).length - a ≤ n → a ≤ (aL s).length → l < 128 → p + (rn l ((aL s).drop a)).length < 64 → (∀ i, i ≤ (rn l ((aL s).drop a)).length → rv s (p + i) = gd (rn l ((aL s).drop a) ++ [0]) i) →
    I 85 10 = nI a → (∀ j, j < a → I 91 j = oI (go (aL s) j)) → (∀ I', Fr [91] [10] I I' → I' 85 10 = nI (aL s).length → rowO I' 91 (aL s) → F (fx_wI S I')) → v1 = nI r → v2 = nI p → v3 = nI l →
    fx_Go G (2, 32) mm_M_loadMap 23 [(0, fx_r G 85), (1, .int v1), (2, .int v2), (3, .int v3)] [] (fx_wI S I) (fx_qv F Q) := by
  intro n
  induction n with
  | zero =>
    intro a p l I v1 v2 v3 hD hn ha hl hp hb hc hrow h e1 e2 e3
    subst e1 e2 e3
    have hnil : (aL s).drop a = [] := List.drop_of_length_le (by omega)
    rw [hnil] at hb
    have h0 := hb 0 (Nat.zero_le _)
    refine bs_M_loadMap_23 hS.w _ _ _ ?_
    refine cM_byteR hS hD r p hR hr (by omega) ⟨hS, ?_⟩ rfl rfl
    rw [show rv s p = 0 from h0]
    simp (disch := omega) only [nI_lit, nI_ofInt1, nI_ofInt4, nI_ofInt2, nI_ofInt3, mI_neg, wI_I, wI_setI, wI_setR, forall_eq, nI_add, pk_mul, pk_sub, pk_div, pk_rem, nI_clamp, nI_leI, nI_ltI, nI_eq, vin_iff, nar0, nar1, nF_ap, bF_ap, oF_ap, bI_0, bI_1, and255, bu_w, bu_p, bu_90, bu_9, row_w, row_at, nF_up, nI_ofIntm]
    refine ⟨fun _ => h I (Fr.rfl' _ _ _) (by rw [hc, show a = (aL s).length by omega]) (fun j hj => hrow j (by omega)), fun q => absurd trivial q⟩
  | succ n ih =>
    intro a p l I v1 v2 v3 hD hn ha hl hp hb hc hrow h e1 e2 e3
    subst e1 e2 e3
    by_cases hal : a = (aL s).length
    · have hnil : (aL s).drop a = [] := List.drop_of_length_le (by omega)
      rw [hnil] at hb
      have h0 := hb 0 (Nat.zero_le _)
      refine bs_M_loadMap_23 hS.w _ _ _ ?_
      refine cM_byteR hS hD r p hR hr (by omega) ⟨hS, ?_⟩ rfl rfl
      rw [show rv s p = 0 from h0]
      simp (disch := omega) only [nI_lit, nI_ofInt1, nI_ofInt4, nI_ofInt2, nI_ofInt3, mI_neg, wI_I, wI_setI, wI_setR, forall_eq, nI_add, pk_mul, pk_sub, pk_div, pk_rem, nI_clamp, nI_leI, nI_ltI, nI_eq, vin_iff, nar0, nar1, nF_ap, bF_ap, oF_ap, bI_0, bI_1, and255, bu_w, bu_p, bu_90, bu_9, row_w, row_at, nF_up, nI_ofIntm]
      refine ⟨fun _ => h I (Fr.rfl' _ _ _) (by rw [hc, hal]) (fun j hj => hrow j (by omega)), fun q => absurd trivial q⟩
    · have hd : (aL s).drop a = go (aL s) a :: (aL s).drop (a + 1) := dropO _ _ (by omega)
      generalize ht : (aL s).drop (a + 1) = t at hd
      have htl : t.length = (aL s).length - (a + 1) := by rw [← ht, List.length_drop]
      generalize hx0 : go (aL s) a = x at hd
      have hct := cont_le x t
      have hgo : ∀ j, a ≤ j → go (aL s) j = go (x :: t) (j - a) := by
        intro j hj
        rw [← hd, go_drop]
        congr 1
        omega
      have hnx := tl_drop (c := cont x t) hd
      refine bs_M_loadMap_23 hS.w _ _ _ ?_
      cases x with
      | none =>
        rw [hd, rn_none] at hb hp
        simp only [List.length_cons] at hp hb
        have b0 : rv s p = 1 := hb 0 (by omega)
        have b1 : rv s (p + 1) = cont none t + 1 := hb 1 (by omega)
        refine cM_byteR hS hD r p hR hr (by omega) ⟨hS, ?_⟩ rfl rfl
        rw [b0]
        simp (disch := omega) only [nI_lit, nI_ofInt1, nI_ofInt4, nI_ofInt2, nI_ofInt3, mI_neg, wI_I, wI_setI, wI_setR, forall_eq, nI_add, pk_mul, pk_sub, pk_div, pk_rem, nI_clamp, nI_leI, nI_ltI, nI_eq, vin_iff, nar0, nar1, nF_ap, bF_ap, oF_ap, bI_0, bI_1, and255, bu_w, bu_p, bu_90, bu_9, row_w, row_at, nF_up, nI_ofIntm]
        refine ⟨fun q => absurd q (by omega), fun _ => ?_⟩
        refine cM_byteR hS hD r p hR hr (by omega) ⟨hS, ?_⟩ rfl rfl
        rw [b0]
        simp (disch := omega) only [nI_lit, nI_ofInt1, nI_ofInt4, nI_ofInt2, nI_ofInt3, mI_neg, wI_I, wI_setI, wI_setR, forall_eq, nI_add, pk_mul, pk_sub, pk_div, pk_rem, nI_clamp, nI_leI, nI_ltI, nI_eq, vin_iff, nar0, nar1, nF_ap, bF_ap, oF_ap, bI_0, bI_1, and255, bu_w, bu_p, bu_90, bu_9, row_w, row_at, nF_up, nI_ofIntm]
        refine ⟨fun q => absurd trivial q, fun _ => ?_⟩
        refine bs_M_loadMap_47 hS.w _ _ _ _ ?_
        refine cM_byteR hS hD r (p + 1) hR hr (by omega) ⟨hS, ?_⟩ rfl (by first | rfl | (simp (disch := omega) only [nI_lit, nI_ofInt1, nI_ofInt4, nI_ofInt2, nI_ofInt3, mI_neg, wI_I, wI_setI, wI_setR, forall_eq, nI_add, pk_mul, pk_sub, pk_div, pk_rem, nI_clamp, nI_leI, nI_ltI, nI_eq, vin_iff, nar0, nar1, nF_ap, bF_ap, oF_ap, bI_0, bI_1, and255, bu_w, bu_p, bu_90, bu_9, row_w, row_at, nF_up, nI_ofIntm] <;> first | done | omega | (congr 1; omega)))
        rw [b1]
        refine ⟨fun _ => ?_, fun q => absurd q (by decide)⟩
        refine cM_load82 hS (go (aL s)) true a (cont none t + 1) p l r (by omega) (by omega) (by omega) (fun j h1 h2 => ?_) (cont none t + 1) 0 I (by omega) hc hrow (fun I' hF hc' hr' => ?_) rfl rfl rfl rfl rfl rfl
        · rw [hgo j h1, if_pos rfl]; exact cont_none t _ (by omega)
        · rw [hnx] at hb hp
          refine ih (a + (cont none t + 1)) (p + 2) l I' (by rw [hF.1 86 (by decide) (by decide)]; exact hD) (by omega) (by omega) hl ?_ (fun i hi => ?_) hc' hr' (fun I'' hF' => h I'' (hF.tr hF' (fun _ h => ⟨h, h⟩) (fun _ h => ⟨h, h⟩))) rfl rfl rfl
          · exact Nat.lt_of_le_of_lt (by rw [show a + (cont none t + 1) = a + cont none t + 1 by omega]; omega) hp
          · rw [show a + (cont none t + 1) = a + cont none t + 1 by omega] at hi ⊢
            rw [show p + 2 + i = p + (i + 2) by omega, hb (i + 2) (by omega)]
            rfl
      | some c =>
        have hc128 : c < 128 := hx c (hx0 ▸ go_mem (show a < (aL s).length by omega))
        rw [hd, rn_some] at hb hp
        simp only [List.length_cons] at hp hb
        have b0 : rv s p = 17 := hb 0 (by omega)
        have b1 : rv s (p + 1) = cont (some c) t + 1 := hb 1 (by omega)
        have b2 : rv s (p + 2) = (c + 256 - l) % 256 := hb 2 (by omega)
        refine cM_byteR hS hD r p hR hr (by omega) ⟨hS, ?_⟩ rfl rfl
        rw [b0]
        simp (disch := omega) only [nI_lit, nI_ofInt1, nI_ofInt4, nI_ofInt2, nI_ofInt3, mI_neg, wI_I, wI_setI, wI_setR, forall_eq, nI_add, pk_mul, pk_sub, pk_div, pk_rem, nI_clamp, nI_leI, nI_ltI, nI_eq, vin_iff, nar0, nar1, nF_ap, bF_ap, oF_ap, bI_0, bI_1, and255, bu_w, bu_p, bu_90, bu_9, row_w, row_at, nF_up, nI_ofIntm]
        refine ⟨fun q => absurd q (by omega), fun _ => ?_⟩
        refine cM_byteR hS hD r p hR hr (by omega) ⟨hS, ?_⟩ rfl rfl
        rw [b0]
        simp (disch := omega) only [nI_lit, nI_ofInt1, nI_ofInt4, nI_ofInt2, nI_ofInt3, mI_neg, wI_I, wI_setI, wI_setR, forall_eq, nI_add, pk_mul, pk_sub, pk_div, pk_rem, nI_clamp, nI_leI, nI_ltI, nI_eq, vin_iff, nar0, nar1, nF_ap, bF_ap, oF_ap, bI_0, bI_1, and255, bu_w, bu_p, bu_90, bu_9, row_w, row_at, nF_up, nI_ofIntm]
        refine ⟨fun _ => ?_, fun q => absurd q (by omega)⟩
        refine bs_M_loadMap_47 hS.w _ _ _ _ ?_
        refine cM_byteR hS hD r (p + 1) hR hr (by omega) ⟨hS, ?_⟩ rfl (by first | rfl | (simp (disch := omega) only [nI_lit, nI_ofInt1, nI_ofInt4, nI_ofInt2, nI_ofInt3, mI_neg, wI_I, wI_setI, wI_setR, forall_eq, nI_add, pk_mul, pk_sub, pk_div, pk_rem, nI_clamp, nI_leI, nI_ltI, nI_eq, vin_iff, nar0, nar1, nF_ap, bF_ap, oF_ap, bI_0, bI_1, and255, bu_w, bu_p, bu_90, bu_9, row_w, row_at, nF_up, nI_ofIntm] <;> first | done | omega | (congr 1; omega)))
        rw [b1]
        refine ⟨fun q => absurd rfl q, fun _ => ?_⟩
        refine cM_byteR hS hD r (p + 2) hR hr (by omega) ⟨hS, ?_⟩ rfl (by first | rfl | (simp (disch := omega) only [nI_lit, nI_ofInt1, nI_ofInt4, nI_ofInt2, nI_ofInt3, mI_neg, wI_I, wI_setI, wI_setR, forall_eq, nI_add, pk_mul, pk_sub, pk_div, pk_rem, nI_clamp, nI_leI, nI_ltI, nI_eq, vin_iff, nar0, nar1, nF_ap, bF_ap, oF_ap, bI_0, bI_1, and255, bu_w, bu_p, bu_90, bu_9, row_w, row_at, nF_up, nI_ofIntm] <;> first | done | omega | (congr 1; omega)))
        rw [b2]
        simp (disch := omega) only [nI_lit, nI_ofInt1, nI_ofInt4, nI_ofInt2, nI_ofInt3, mI_neg, wI_I, wI_setI, wI_setR, forall_eq, nI_add, pk_mul, pk_sub, pk_div, pk_rem, nI_clamp, nI_leI, nI_ltI, nI_eq, vin_iff, nar0, nar1, nF_ap, bF_ap, oF_ap, bI_0, bI_1, and255, bu_w, bu_p, bu_90, bu_9, row_w, row_at, nF_up, nI_ofIntm]
        rw [show (l + (c + 256 - l) % 256) % 256 = c by omega]
        refine cM_load82 hS (go (aL s)) false a (cont (some c) t + 1) p c r (by omega) (by omega) (by omega) (fun j h1 h2 => ?_) (cont (some c) t + 1) 0 I (by omega) hc hrow (fun I' hF hc' hr' => ?_) rfl rfl rfl rfl rfl rfl
        · rw [hgo j h1]; exact cont_some c t _ (by omega)
        · rw [hnx] at hb hp
          refine ih (a + (cont (some c) t + 1)) (p + 3) c I' (by rw [hF.1 86 (by decide) (by decide)]; exact hD) (by omega) (by omega) hc128 ?_ (fun i hi => ?_) hc' hr' (fun I'' hF' => h I'' (hF.tr hF' (fun _ h => ⟨h, h⟩) (fun _ h => ⟨h, h⟩))) rfl rfl rfl
          · exact Nat.lt_of_le_of_lt (by rw [show a + (cont (some c) t + 1) = a + cont (some c) t + 1 by omega]; omega) hp
          · rw [show a + (cont (some c) t + 1) = a + cont (some c) t + 1 by omega] at hi ⊢
            rw [show p + 3 + i = p + (i + 3) by omega, hb (i + 3) (by omega)]
            rfl
theorem wf.pl {s : AS} (h : wf s) : (aL s).length ≤ 63 ∧ ∀ c, some c ∈ aL s → 48 ≤ c ∧ c < 128 := by
  by_cases h3 : aK s = 3
  · have := h.2.2.2.2.2.2.2.2.2 h3
    exact ⟨by omega, this.2.2.2.2⟩
  · rw [h.2.2.2.2.2.2.2.2.1 h3]
    exact ⟨Nat.zero_le _, fun c q => by simp at q⟩
theorem cM_loadMap {F : fx_S → Prop} (hS : shM S) (hD : I 86 = nF D) {s : AS} {v1 : Int32} (r : Nat) (hR : Rec D r s) (hr : r < 12) (hw : wf s)
    (h : ∀ I', Fr [91] [10] I I' → I' 85 10 = nI (aL s).length → rowO I' 91 (aL s) → F (fx_wI S I')) (e1 : v1 = nI r) : fx_Go G (2, 32) mm_M_loadMap 0 [(0, fx_r G 85), (1, .int v1)] [] (fx_wI S I) (fx_qv F Q) := by
  subst e1
  have hp := hw.pl
  refine bs_M_loadMap_0 hS.w _ ?_
  simp (disch := omega) only [nI_lit, nI_ofInt1, nI_ofInt4, nI_ofInt2, nI_ofInt3, mI_neg, wI_I, wI_setI, wI_setR, forall_eq, nI_add, pk_mul, pk_sub, pk_div, pk_rem, nI_clamp, nI_leI, nI_ltI, nI_eq, vin_iff, nar0, nar1, nF_ap, bF_ap, oF_ap, bI_0, bI_1, and255, bu_w, bu_p, bu_90, bu_9, row_w, row_at, nF_up, nI_ofIntm]
  refine cM_attribute hS (I := fx_w I 85 10 (nI 0)) hD r 3 hR hr hw (by omega) ⟨hS, ?_⟩ rfl rfl
  have hF0 : Fr [91] [10] I (fx_w I 85 10 (nI 0)) := Fr.w5 _ _ _ _ _ (by decide)
  by_cases h3 : aK s = 3
  · have hl := hw.l3 h3
    rw [atR_e hw h3]
    simp (disch := omega) only [nI_lit, nI_ofInt1, nI_ofInt4, nI_ofInt2, nI_ofInt3, mI_neg, wI_I, wI_setI, wI_setR, forall_eq, nI_add, pk_mul, pk_sub, pk_div, pk_rem, nI_clamp, nI_leI, nI_ltI, nI_eq, vin_iff, nar0, nar1, nF_ap, bF_ap, oF_ap, bI_0, bI_1, and255, bu_w, bu_p, bu_90, bu_9, row_w, row_at, nF_up, nI_ofIntm]
    refine ⟨fun _ => ?_, fun q => absurd (by omega) q⟩
    refine cM_load23 hS r hR hr (by omega) (fun c q => (hp.2 c q).2) (aL s).length 0 (10 + (nmA (aM s)).length + 4) 48 _ hD (by omega) (by omega) (by omega) ?_ (fun i hi => ?_) rfl (fun j hj => absurd hj (by omega)) (fun I' hF hc hr' => h I' (hF0.tr hF (fun _ h => ⟨h, h⟩) (fun _ h => ⟨h, h⟩)) hc hr') rfl rfl rfl
    · rw [List.drop_zero]; omega
    · rw [List.drop_zero]; exact rv_3 s h3 i
  · rw [atR_n (by omega) (fun e => h3 e.symm)]
    refine ⟨fun q => absurd q mI_n0, fun _ => ?_⟩
    have hnil : aL s = [] := hw.2.2.2.2.2.2.2.2.1 h3
    rw [hnil] at h
    exact h _ hF0 rfl (fun j hj => absurd hj (Nat.not_lt_zero _))
theorem cM_runsOf18 {F : Int32 → fx_S → Prop} (hS : shM S) (hD : I 86 = nF D) {s : AS} (r : Nat) (hR : Rec D r s) (hr : r < 12) : ∀ (n : Nat) (rest : List (Option Nat)) (p l k : Nat) {v1 v2 v3 : Int32}, rest.length ≤ n → k + n < 1000 → p + (rn l rest).length < 64 → (∀ i, i ≤ (rn l rest).length → rv s (p + i) = gd (rn l rest ++ [0]) i) →
    F (nI (k + (rls rest).length)) (fx_wI S I) → v1 = nI r → v2 = nI p → v3 = nI k → fx_Go G (2, 32) mm_M_runsOf 18 [(0, fx_r G 85), (1, .int v1), (2, .int v2), (3, .int v3)] [] (fx_wI S I) (fx_qi F Q) := by
  intro n
  induction n with
  | zero =>
    intro rest p l k v1 v2 v3 hn hk hp hb h e1 e2 e3
    subst e1 e2 e3
    have hnil : rest = [] := List.eq_nil_of_length_eq_zero (by omega)
    subst hnil
    have h0 : rv s p = 0 := hb 0 (Nat.zero_le _)
    refine bs_M_runsOf_18 hS.w _ _ _ ?_
    refine cM_byteR hS hD r p hR hr (by omega) ⟨hS, ?_⟩ rfl rfl
    rw [h0]
    exact ⟨fun _ => h, fun q => absurd rfl q⟩
  | succ n ih =>
    intro rest p l k v1 v2 v3 hn hk hp hb h e1 e2 e3
    subst e1 e2 e3
    refine bs_M_runsOf_18 hS.w _ _ _ ?_
    cases rest with
    | nil =>
      have h0 : rv s p = 0 := hb 0 (Nat.zero_le _)
      refine cM_byteR hS hD r p hR hr (by omega) ⟨hS, ?_⟩ rfl rfl
      rw [h0]
      exact ⟨fun _ => h, fun q => absurd rfl q⟩
    | cons x t =>
      have hct := cont_le x t
      rw [rls_cons, List.length_cons] at h
      simp only [List.length_cons] at hn
      cases x with
      | none =>
        rw [rn_none] at hb hp
        simp only [List.length_cons] at hp hb
        have b0 : rv s p = 1 := hb 0 (by omega)
        refine cM_byteR hS hD r p hR hr (by omega) ⟨hS, ?_⟩ rfl rfl
        rw [b0]
        refine ⟨fun q => absurd q (by decide), fun _ => ?_⟩
        refine cM_byteR hS hD r p hR hr (by omega) ⟨hS, ?_⟩ rfl rfl
        rw [b0]
        refine ⟨fun q => absurd rfl q, fun _ => ?_⟩
        refine ih (t.drop (cont none t)) (p + 2) l (k + 1) (by rw [List.length_drop]; omega) (by omega) (by omega) (fun i hi => ?_) ?_ rfl (by first | rfl | (simp (disch := omega) only [nI_lit, nI_ofInt1, nI_ofInt4, nI_ofInt2, nI_ofInt3, mI_neg, wI_I, wI_setI, wI_setR, forall_eq, nI_add, pk_mul, pk_sub, pk_div, pk_rem, nI_clamp, nI_leI, nI_ltI, nI_eq, vin_iff, nar0, nar1, nF_ap, bF_ap, oF_ap, bI_0, bI_1, and255, bu_w, bu_p, bu_90, bu_9, row_w, row_at, nF_up, nI_ofIntm] <;> first | done | omega | (congr 1; omega))) (by first | rfl | (simp (disch := omega) only [nI_lit, nI_ofInt1, nI_ofInt4, nI_ofInt2, nI_ofInt3, mI_neg, wI_I, wI_setI, wI_setR, forall_eq, nI_add, pk_mul, pk_sub, pk_div, pk_rem, nI_clamp, nI_leI, nI_ltI, nI_eq, vin_iff, nar0, nar1, nF_ap, bF_ap, oF_ap, bI_0, bI_1, and255, bu_w, bu_p, bu_90, bu_9, row_w, row_at, nF_up, nI_ofIntm] <;> first | done | omega | (congr 1; omega)))
        · rw [show p + 2 + i = p + (i + 2) by omega, hb (i + 2) (by omega)]; rfl
        · rw [show k + 1 + (rls (t.drop (cont none t))).length = k + ((rls (t.drop (cont none t))).length + 1) by omega]; exact h
      | some c =>
        rw [rn_some] at hb hp
        simp only [List.length_cons] at hp hb
        have b0 : rv s p = 17 := hb 0 (by omega)
        refine cM_byteR hS hD r p hR hr (by omega) ⟨hS, ?_⟩ rfl rfl
        rw [b0]
        refine ⟨fun q => absurd q (by decide), fun _ => ?_⟩
        refine cM_byteR hS hD r p hR hr (by omega) ⟨hS, ?_⟩ rfl rfl
        rw [b0]
        refine ⟨fun _ => ?_, fun q => absurd q (by decide)⟩
        refine ih (t.drop (cont (some c) t)) (p + 3) c (k + 1) (by rw [List.length_drop]; omega) (by omega) (by omega) (fun i hi => ?_) ?_ rfl (by first | rfl | (simp (disch := omega) only [nI_lit, nI_ofInt1, nI_ofInt4, nI_ofInt2, nI_ofInt3, mI_neg, wI_I, wI_setI, wI_setR, forall_eq, nI_add, pk_mul, pk_sub, pk_div, pk_rem, nI_clamp, nI_leI, nI_ltI, nI_eq, vin_iff, nar0, nar1, nF_ap, bF_ap, oF_ap, bI_0, bI_1, and255, bu_w, bu_p, bu_90, bu_9, row_w, row_at, nF_up, nI_ofIntm] <;> first | done | omega | (congr 1; omega))) (by first | rfl | (simp (disch := omega) only [nI_lit, nI_ofInt1, nI_ofInt4, nI_ofInt2, nI_ofInt3, mI_neg, wI_I, wI_setI, wI_setR, forall_eq, nI_add, pk_mul, pk_sub, pk_div, pk_rem, nI_clamp, nI_leI, nI_ltI, nI_eq, vin_iff, nar0, nar1, nF_ap, bF_ap, oF_ap, bI_0, bI_1, and255, bu_w, bu_p, bu_90, bu_9, row_w, row_at, nF_up, nI_ofIntm] <;> first | done | omega | (congr 1; omega)))
        · rw [show p + 3 + i = p + (i + 3) by omega, hb (i + 3) (by omega)]; rfl
        · rw [show k + 1 + (rls (t.drop (cont (some c) t))).length = k + ((rls (t.drop (cont (some c) t))).length + 1) by omega]; exact h
theorem cM_runsOf {F : Int32 → fx_S → Prop} (hS : shM S) (hD : I 86 = nF D) {s : AS} {v1 : Int32} (r : Nat) (hR : Rec D r s) (hr : r < 12) (hw : wf s) (h : F (nI (rls (aL s)).length) (fx_wI S I)) (e1 : v1 = nI r) :
    fx_Go G (2, 32) mm_M_runsOf 0 [(0, fx_r G 85), (1, .int v1)] [] (fx_wI S I) (fx_qi F Q) := by
  subst e1
  have hp := hw.pl
  refine bs_M_runsOf_0 hS.w _ ?_
  refine cM_attribute hS hD r 3 hR hr hw (by omega) ⟨hS, ?_⟩ rfl rfl
  by_cases h3 : aK s = 3
  · have hl := hw.l3 h3
    rw [atR_e hw h3]
    simp (disch := omega) only [nI_lit, nI_ofInt1, nI_ofInt4, nI_ofInt2, nI_ofInt3, mI_neg, wI_I, wI_setI, wI_setR, forall_eq, nI_add, pk_mul, pk_sub, pk_div, pk_rem, nI_clamp, nI_leI, nI_ltI, nI_eq, vin_iff, nar0, nar1, nF_ap, bF_ap, oF_ap, bI_0, bI_1, and255, bu_w, bu_p, bu_90, bu_9, row_w, row_at, nF_up, nI_ofIntm]
    refine ⟨fun _ => ?_, fun q => absurd (by omega) q⟩
    exact cM_runsOf18 hS hD r hR hr (aL s).length (aL s) (10 + (nmA (aM s)).length + 4) 48 0 (Nat.le_refl _) (by omega) (by omega) (fun i _ => rv_3 s h3 i) (by rw [Nat.zero_add]; exact h) rfl rfl rfl
  · rw [atR_n (by omega) (fun e => h3 e.symm)]
    refine ⟨fun q => absurd q mI_n0, fun _ => ?_⟩
    have hnil : aL s = [] := hw.2.2.2.2.2.2.2.2.1 h3
    rw [hnil] at h
    exact h
end MLOAD
