/-! The reference's store. -/
def secP (D : Nat → Nat) (r k n : Nat) (b : Nat → Nat) : Nat → Nat := fun q => if 64 * r + k ≤ q ∧ q < 64 * r + k + n then b (q - 64 * r) else D q
theorem secP_0 (D : Nat → Nat) (r k : Nat) (b : Nat → Nat) : secP D r k 0 b = D := by
  funext q
  unfold secP
  rw [if_neg (by omega)]
theorem secP_s (D : Nat → Nat) (r k n : Nat) (b : Nat → Nat) : secP (up D (64 * r + k) (b k)) r (k + 1) n b = secP D r k (n + 1) b := by
  funext q
  unfold secP up
  by_cases h1 : q = 64 * r + k
  · subst h1
    rw [if_neg (by omega), if_pos rfl, if_pos (by omega)]
    congr 1
    omega
  · by_cases h2 : 64 * r + (k + 1) ≤ q ∧ q < 64 * r + (k + 1) + n
    · rw [if_pos h2, if_pos (by omega)]
    · rw [if_neg h2, if_neg h1, if_neg (by omega)]
/-- a sector put on the disk -/
def secD (D : Nat → Nat) (r w : Nat) (b : Nat → Nat) : Nat → Nat := secP D r (32 * w) 32 b
/-- the buffer as it is written -/
def fixB (b : Nat → Nat) (n l : Nat) : Nat → Nat := fun k =>
  if k = 8 then l else if k = 4 then b 30 else if k = 5 then b 31 else if k = 6 then b 62 else if k = 7 then b 63
  else if k = 2 ∨ k = 30 ∨ k = 62 then n % 256 else if k = 3 ∨ k = 31 ∨ k = 63 then n / 256 else b k
def nxt (n : Nat) : Nat := if n = 65535 then 1 else n + 1
theorem nxt_lt {n : Nat} (h : n < 65536) : nxt n < 65536 := by unfold nxt; split <;> omega
def stOk (t : Nat) : Bool := !(decide (t = 1) || decide (t = 2))
def stD (D : Nat → Nat) (r : Nat) (b : Nat → Nat) (t : Nat) : Nat → Nat := if t = 1 then D else if t = 2 then secD D r 0 b else secD (secD D r 0 b) r 1 b
/-- off these cells, and of the reference's object off these fields, nothing has changed -/
def Fr (cs js : List Nat) (I I' : Nat → Nat → Int32) : Prop := (∀ a, a ≠ 85 → a ∉ cs → I' a = I a) ∧ ∀ j, j ∉ js → I' 85 j = I 85 j
theorem Fr.rfl' (cs js : List Nat) (I : Nat → Nat → Int32) : Fr cs js I I := ⟨fun _ _ _ => rfl, fun _ _ => rfl⟩
theorem Fr.tr {cs js cs' js' cs'' js'' : List Nat} {I I' I'' : Nat → Nat → Int32} (h : Fr cs js I I') (h' : Fr cs' js' I' I'') (hc : ∀ a, a ∉ cs'' → a ∉ cs ∧ a ∉ cs') (hj : ∀ a, a ∉ js'' → a ∉ js ∧ a ∉ js') : Fr cs'' js'' I I'' :=
  ⟨fun a h5 ha => (h'.1 a h5 (hc a ha).2).trans (h.1 a h5 (hc a ha).1), fun j ha => (h'.2 j (hj j ha).2).trans (h.2 j (hj j ha).1)⟩
theorem Fr.w5 (cs js : List Nat) (I : Nat → Nat → Int32) (j : Nat) (x : Int32) (hj : j ∈ js) : Fr cs js I (fx_w I 85 j x) :=
  ⟨fun a h5 _ => fw_ne h5, fun i hi => fw_nj (fun e => hi (by rw [e]; exact hj))⟩
theorem Fr.row (cs js : List Nat) (I : Nat → Nat → Int32) (c : Nat) (g : Nat → Int32) (hc : c ∈ cs) (h5 : c ≠ 85) : Fr cs js I (fx_row I c g) :=
  ⟨fun a _ ha => fx_row_ne _ _ (fun e => ha (by rw [e]; exact hc)), fun i _ => by rw [fx_row_ne _ _ (Ne.symm h5)]⟩
theorem Fr.w (cs js : List Nat) (I : Nat → Nat → Int32) (c j : Nat) (x : Int32) (hc : c ∈ cs) (h5 : c ≠ 85) : Fr cs js I (fx_w I c j x) := Fr.row cs js I c _ hc h5
theorem Fr.buf (cs js : List Nat) (I : Nat → Nat → Int32) (b : Nat → Nat) (p : Nat) (hc : 90 ∈ cs) (hj : 9 ∈ js) : Fr cs js I (bufS I b p) :=
  (Fr.row cs js I 90 (nF b) hc (by decide)).tr (Fr.w5 cs js _ 9 (nI p) hj) (fun _ h => ⟨h, h⟩) (fun _ h => ⟨h, h⟩)
section MSTORE
variable {G : fx_G} {S : fx_S} {I : Nat → Nat → Int32} {Q : fx_R → fx_S → Prop} {F : Int32 → fx_S → Prop} {D : Nat → Nat} {b : Nat → Nat}
theorem cM_sectorL (hS : shM S) (r w : Nat) (hr : r < 12) (hw : w < 2) (hb : I 90 = nF b) : ∀ (n k : Nat) (D : Nat → Nat) {v1 v2 v3 : Int32}, k + n = 32 * w + 32 → F (bI true) (fx_wI S (fx_row I 86 (nF (secP D r k n b)))) → v1 = nI r → v2 = nI w → v3 = nI k →
    fx_Go G (0, 0) mm_M_sector 46 [(0, fx_r G 85), (1, .int v1), (2, .int v2), (3, .int v3)] [] (fx_wI S (fx_row I 86 (nF D))) (fx_qi F Q) := by
  intro n
  induction n with
  | zero =>
    intro k D v1 v2 v3 hk h e1 e2 e3
    subst e1 e2 e3
    refine bs_M_sector_46 hS.w _ _ _ ?_
    simp (disch := omega) only [nI_lit, nI_ofInt1, nI_ofInt4, nI_ofInt2, nI_ofInt3, mI_neg, wI_I, wI_setI, wI_setR, forall_eq, nI_add, pk_mul, pk_sub, pk_div, pk_rem, nI_clamp, nI_leI, nI_ltI, nI_eq, vin_iff, nar0, nar1, nF_ap, bF_ap, oF_ap, bI_0, bI_1, and255, bu_w, bu_p, bu_90, bu_9, row_w, row_at, nF_up, nI_ofIntm]
    refine ⟨fun _ => ?_, fun q => absurd (by omega) q⟩
    rw [secP_0] at h
    exact h
  | succ n ih =>
    intro k D v1 v2 v3 hk h e1 e2 e3
    subst e1 e2 e3
    refine bs_M_sector_46 hS.w _ _ _ ?_
    simp only [wI_I, show fx_row I 86 (nF D) 90 = I 90 from rfl, hb]
    simp (disch := omega) only [nI_lit, nI_ofInt1, nI_ofInt4, nI_ofInt2, nI_ofInt3, mI_neg, wI_I, wI_setI, wI_setR, forall_eq, nI_add, pk_mul, pk_sub, pk_div, pk_rem, nI_clamp, nI_leI, nI_ltI, nI_eq, vin_iff, nar0, nar1, nF_ap, bF_ap, oF_ap, bI_0, bI_1, and255, bu_w, bu_p, bu_90, bu_9, row_w, row_at, nF_up, nI_ofIntm]
    refine ⟨fun q => absurd q (by omega), fun _ => ⟨by omega, by omega, ?_⟩⟩
    refine ih (k + 1) _ (by omega) ?_ rfl rfl rfl
    rw [secP_s]
    exact h
theorem cM_sector (hS : shM S) (hD : I 86 = nF D) (hb : I 90 = nF b) {v1 v2 : Int32} (r w t : Nat) (hr : r < 12) (hw : w < 2) (ht : I 85 5 = nI t) (ht2 : t < 1000) (h1 : t = 1 → F (bI false) (fx_wI S (fx_w (fx_w I 85 5 (nI 0)) 85 4 (nI 0))))
    (h2 : t ≠ 1 → F (bI true) (fx_wI S (fx_row (fx_w I 85 5 (nI (t - 1))) 86 (nF (secD D r w b))))) (e1 : v1 = nI r) (e2 : v2 = nI w) :
    fx_Go G (0, 0) mm_M_sector 0 [(0, fx_r G 85), (1, .int v1), (2, .int v2)] [] (fx_wI S I) (fx_qi F Q) := by
  subst e1 e2
  refine bs_M_sector_0 hS.w _ _ ?_
  simp only [wI_I, ht]
  simp (disch := omega) only [nI_lit, nI_ofInt1, nI_ofInt4, nI_ofInt2, nI_ofInt3, mI_neg, wI_I, wI_setI, wI_setR, forall_eq, nI_add, pk_mul, pk_sub, pk_div, pk_rem, nI_clamp, nI_leI, nI_ltI, nI_eq, vin_iff, nar0, nar1, nF_ap, bF_ap, oF_ap, bI_0, bI_1, and255, bu_w, bu_p, bu_90, bu_9, row_w, row_at, nF_up, nI_ofIntm]
  have hrow : ∀ x : Nat, fx_w I 85 5 (nI x) = fx_row (fx_w I 85 5 (nI x)) 86 (nF D) := fun x => (row_self (I := fx_w I 85 5 (nI x)) (a := 86) (g := nF D) hD).symm
  refine ⟨fun q => ⟨fun q2 => ?_, fun q2 => ?_⟩, fun q => ?_⟩
  · rw [hrow]
    refine cM_sectorL hS (I := fx_w I 85 5 (nI 0)) r w hr hw hb 32 (32 * w) D rfl ?_ rfl rfl rfl
    have := h2 q
    rw [show t - 1 = 0 by omega] at this
    exact this
  · simp (disch := omega) only [nI_lit, nI_ofInt1, nI_ofInt4, nI_ofInt2, nI_ofInt3, mI_neg, wI_I, wI_setI, wI_setR, forall_eq, nI_add, pk_mul, pk_sub, pk_div, pk_rem, nI_clamp, nI_leI, nI_ltI, nI_eq, vin_iff, nar0, nar1, nF_ap, bF_ap, oF_ap, bI_0, bI_1, and255, bu_w, bu_p, bu_90, bu_9, row_w, row_at, nF_up, nI_ofIntm]
    rw [hrow]
    refine cM_sectorL hS (I := fx_w I 85 5 (nI (t - 1))) r w hr hw hb 32 (32 * w) D rfl ?_ rfl rfl rfl
    exact h2 q
  · exact h1 q
theorem cM_store98 (hS : shM S) {v1 v2 v3 z0 : Int32} (b : Nat → Nat) (p k z : Nat) (hk : k < 2) (e3 : v3 = nI k) (e4 : z0 = nI z)
    (h : fx_Go G (1, 15) mm_M_store 41 [(0, fx_r G 85), (1, .int v1), (2, .int v2), (3, .int (nI (k + 1)))] [] (fx_wI S (bufS I (up (up (up b (2 + k) z) (30 + k) z) (62 + k) z) p)) Q) :
    fx_Go G (1, 15) mm_M_store 98 [(0, fx_r G 85), (1, .int v1), (2, .int v2), (3, .int v3)] [.int z0] (fx_wI S (bufS I b p)) Q := by
  subst e3 e4
  refine bs_M_store_98 hS.w _ _ _ _ ?_
  simp (disch := omega) only [nI_lit, nI_ofInt1, nI_ofInt4, nI_ofInt2, nI_ofInt3, mI_neg, wI_I, wI_setI, wI_setR, forall_eq, nI_add, pk_mul, pk_sub, pk_div, pk_rem, nI_clamp, nI_leI, nI_ltI, nI_eq, vin_iff, nar0, nar1, nF_ap, bF_ap, oF_ap, bI_0, bI_1, and255, bu_w, bu_p, bu_90, bu_9, row_w, row_at, nF_up, nI_ofIntm]
  exact ⟨by omega, by omega, by omega, h⟩
theorem fixB_eq (b : Nat → Nat) (n l : Nat) : (let c := up (up (up b 8 l) 4 (up b 8 l 30)) 6 (up (up b 8 l) 4 (up b 8 l 30) 62)
    let d := up (up (up c 2 (n % 256)) 30 (n % 256)) 62 (n % 256)
    let e := up (up d 5 (d 31)) 7 (up d 5 (d 31) 63)
    up (up (up e 3 (n / 256)) 31 (n / 256)) 63 (n / 256)) = fixB b n l := by
  funext k
  unfold fixB
  simp only [up]
  by_cases h : k < 64
  · have : ∀ j, j < 64 → True := fun _ _ => trivial
    by_cases h63 : k = 63
    · subst h63; rfl
    by_cases h31 : k = 31
    · subst h31; rfl
    by_cases h3 : k = 3
    · subst h3; rfl
    by_cases h7 : k = 7
    · subst h7; rfl
    by_cases h5 : k = 5
    · subst h5; rfl
    by_cases h62 : k = 62
    · subst h62; rfl
    by_cases h30 : k = 30
    · subst h30; rfl
    by_cases h2 : k = 2
    · subst h2; rfl
    by_cases h6 : k = 6
    · subst h6; rfl
    by_cases h4 : k = 4
    · subst h4; rfl
    by_cases h8 : k = 8
    · subst h8; rfl
    simp [h63, h31, h3, h7, h5, h62, h30, h2, h6, h4, h8]
  · simp [show k ≠ 63 by omega, show k ≠ 31 by omega, show k ≠ 3 by omega, show k ≠ 7 by omega, show k ≠ 5 by omega, show k ≠ 62 by omega, show k ≠ 30 by omega, show k ≠ 2 by omega, show k ≠ 6 by omega, show k ≠ 4 by omega, show k ≠ 8 by omega]
theorem cM_store (hS : shM S) (hD : I 86 = nF D) (hB : ∀ k, D k < 256) {on : Bool} {U : Nat → Bool} (hO : I 85 4 = bI on) (hU : I 87 = bF U) {v1 : Int32} (r t p : Nat) (hr : r < 12) (ht : I 85 5 = nI t) (ht2 : t < 1000) (hp : 10 ≤ p) (hp2 : p ≤ 64) (hb0 : b 0 < 256)
    (h : ∀ I', Fr [86, 87, 90] [4, 5, 9] I I' → I' 86 = nF (stD D r (fixB b (nxt (wrd D (64 * r + 2))) (p - 10)) t) → I' 87 = bF (if stOk t = true then up U r (decide (b 0 = 1) || decide (b 0 = 2)) else U) → I' 85 4 = bI (on && stOk t) → I' 85 5 = nI (t - 2) → F (bI (stOk t)) (fx_wI S I')) (e1 : v1 = nI r) :
    fx_Go G (1, 15) mm_M_store 0 [(0, fx_r G 85), (1, .int v1)] [] (fx_wI S (bufS I b p)) (fx_qi F Q) := by
  subst e1
  have hW := wrd_lt hB (64 * r + 2)
  have hN := nxt_lt hW
  refine bs_M_store_0 hS.w _ ?_
  simp (disch := omega) only [nI_lit, nI_ofInt1, nI_ofInt4, nI_ofInt2, nI_ofInt3, mI_neg, wI_I, wI_setI, wI_setR, forall_eq, nI_add, pk_mul, pk_sub, pk_div, pk_rem, nI_clamp, nI_leI, nI_ltI, nI_eq, vin_iff, nar0, nar1, nF_ap, bF_ap, oF_ap, bI_0, bI_1, and255, bu_w, bu_p, bu_90, bu_9, row_w, row_at, nF_up, nI_ofIntm]
  refine ⟨by omega, ?_⟩
  -- the number and the kept words are in the buffer
  have key : fx_Go G (1, 15) mm_M_store 41 [(0, fx_r G 85), (1, .int (nI r)), (2, .int (nI (nxt (wrd D (64 * r + 2))))), (3, .int (nI 2))] [] (fx_wI S (bufS I (fixB b (nxt (wrd D (64 * r + 2))) (p - 10)) p)) (fx_qi F Q) := by
    generalize hc : fixB b (nxt (wrd D (64 * r + 2))) (p - 10) = c at h ⊢
    have hc0 : c 0 = b 0 := by rw [← hc]; rfl
    refine bs_M_store_41 hS.w _ _ _ ?_
    simp (disch := omega) only [nI_lit, nI_ofInt1, nI_ofInt4, nI_ofInt2, nI_ofInt3, mI_neg, wI_I, wI_setI, wI_setR, forall_eq, nI_add, pk_mul, pk_sub, pk_div, pk_rem, nI_clamp, nI_leI, nI_ltI, nI_eq, vin_iff, nar0, nar1, nF_ap, bF_ap, oF_ap, bI_0, bI_1, and255, bu_w, bu_p, bu_90, bu_9, row_w, row_at, nF_up, nI_ofIntm]
    refine ⟨fun _ => ?_, fun q => absurd (by omega) q⟩
    refine cM_sector hS (I := bufS I c p) hD rfl r 0 t hr (by omega) ht ht2 (fun h1 => ⟨hS, ?_⟩) (fun h1 => ⟨hS, ?_⟩) rfl rfl
    · refine b0 (fun _ => ?_) (fun q => absurd q (by decide))
      have e : stOk t = false := by rw [h1]; rfl
      rw [e] at h
      refine h _ ?_ ?_ hU ?_ ?_
      · exact ((Fr.buf _ _ I c p (by decide) (by decide)).tr (Fr.w5 [86, 87, 90] [4, 5, 9] _ 5 _ (by decide)) (fun _ h => ⟨h, h⟩) (fun _ h => ⟨h, h⟩)).tr (Fr.w5 [86, 87, 90] [4, 5, 9] _ 4 _ (by decide)) (fun _ h => ⟨h, h⟩) (fun _ h => ⟨h, h⟩)
      · unfold stD
        rw [if_pos h1]
        exact hD
      · rw [Bool.and_false]; rfl
      · rw [h1]; rfl
    · refine b0 (fun q => absurd q (by decide)) (fun _ => ?_)
      refine cM_sector hS (I := fx_row (fx_w (bufS I c p) 85 5 (nI (t - 1))) 86 (nF (secD D r 0 c))) (b := c) (D := secD D r 0 c) rfl rfl r 1 (t - 1) hr (by omega) rfl (by omega) (fun h2 => ⟨hS, ?_⟩) (fun h2 => ⟨hS, ?_⟩) rfl rfl
      · refine ⟨fun q => absurd rfl q, fun _ => ?_⟩
        have e : stOk t = false := by rw [show t = 2 by omega]; rfl
        rw [e] at h
        refine h _ ?_ ?_ hU ?_ ?_
        · refine (((Fr.buf _ _ I c p (by decide) (by decide)).tr (Fr.w5 [86, 87, 90] [4, 5, 9] _ 5 _ (by decide)) (fun _ h => ⟨h, h⟩) (fun _ h => ⟨h, h⟩)).tr (Fr.row [86, 87, 90] [4, 5, 9] _ 86 _ (by decide) (by decide)) (fun _ h => ⟨h, h⟩) (fun _ h => ⟨h, h⟩)).tr (((Fr.w5 [86, 87, 90] [4, 5, 9] _ 5 _ (by decide)).tr (Fr.w5 [86, 87, 90] [4, 5, 9] _ 4 _ (by decide))) (fun _ h => ⟨h, h⟩) (fun _ h => ⟨h, h⟩)) (fun _ h => ⟨h, h⟩) (fun _ h => ⟨h, h⟩)
        · unfold stD
          rw [if_neg h1, if_pos (by omega)]
          rfl
        · rw [Bool.and_false]; rfl
        · rw [show t - 2 = 0 by omega]; rfl
      · have e : stOk t = true := by unfold stOk; simp; omega
        rw [e] at h
        refine ⟨fun _ => ?_, fun q => absurd q (by decide)⟩
        have e90 : ∀ g x, fx_row (fx_w (fx_row (fx_w (bufS I c p) 85 5 (nI (t - 1))) 86 g) 85 5 x) 86 (nF (secD (secD D r 0 c) r 1 c)) 90 0 = nI (b 0) := fun _ _ => by rw [← hc0]; rfl
        have fin : ∀ u : Bool, u = (decide (b 0 = 1) || decide (b 0 = 2)) → fx_qi F Q (.inl (some (.int (nI 1)))) (fx_wI S (fx_w (fx_row (fx_w (fx_row (fx_w (bufS I c p) 85 5 (nI (t - 1))) 86 (nF (secD D r 0 c))) 85 5 (nI (t - 1 - 1))) 86 (nF (secD (secD D r 0 c) r 1 c))) 87 r (bI u))) := by
          intro u hu
          refine h _ ?_ ?_ ?_ ?_ ?_
          · refine ((((Fr.buf _ _ I c p (by decide) (by decide)).tr (Fr.w5 [86, 87, 90] [4, 5, 9] _ 5 _ (by decide)) (fun _ h => ⟨h, h⟩) (fun _ h => ⟨h, h⟩)).tr (Fr.row [86, 87, 90] [4, 5, 9] _ 86 _ (by decide) (by decide)) (fun _ h => ⟨h, h⟩) (fun _ h => ⟨h, h⟩)).tr (((Fr.w5 [86, 87, 90] [4, 5, 9] _ 5 _ (by decide)).tr (Fr.row [86, 87, 90] [4, 5, 9] _ 86 _ (by decide) (by decide))) (fun _ h => ⟨h, h⟩) (fun _ h => ⟨h, h⟩)) (fun _ h => ⟨h, h⟩) (fun _ h => ⟨h, h⟩)).tr (Fr.w [86, 87, 90] [4, 5, 9] _ 87 _ _ (by decide) (by decide)) (fun _ h => ⟨h, h⟩) (fun _ h => ⟨h, h⟩)
          · unfold stD
            rw [if_neg h1, if_neg (by omega)]
            rfl
          · rw [if_pos rfl, ← hu, ← bF_up, ← hU]
            rfl
          · rw [Bool.and_true]
            exact hO
          · rw [show t - 2 = t - 1 - 1 by omega]; rfl
        simp (disch := omega) only [nI_lit, nI_ofInt1, nI_ofInt4, nI_ofInt2, nI_ofInt3, mI_neg, wI_I, wI_setI, wI_setR, forall_eq, nI_add, pk_mul, pk_sub, pk_div, pk_rem, nI_clamp, nI_leI, nI_ltI, nI_eq, vin_iff, nar0, nar1, nF_ap, bF_ap, oF_ap, bI_0, bI_1, and255, bu_w, bu_p, bu_90, bu_9, row_w, row_at, nF_up, nI_ofIntm, e90]
        refine ⟨by omega, fun q => ⟨by omega, fin true (by simp [q])⟩, fun q => ⟨by omega, fun q2 => ⟨by omega, fin false (by simp [q, q2])⟩, fun q2 => ⟨by omega, fin true (by simp [q2])⟩⟩⟩
  have mid : fx_Go G (1, 15) mm_M_store 41 [(0, fx_r G 85), (1, .int (nI r)), (2, .int (nI (nxt (wrd D (64 * r + 2))))), (3, .int (nI 0))] [] (fx_wI S (bufS I (up b 8 (p - 10)) p)) (fx_qi F Q) := by
    generalize nxt (wrd D (64 * r + 2)) = n at key hN ⊢
    refine bs_M_store_41 hS.w _ _ _ ?_
    simp (disch := omega) only [nI_lit, nI_ofInt1, nI_ofInt4, nI_ofInt2, nI_ofInt3, mI_neg, wI_I, wI_setI, wI_setR, forall_eq, nI_add, pk_mul, pk_sub, pk_div, pk_rem, nI_clamp, nI_leI, nI_ltI, nI_eq, vin_iff, nar0, nar1, nF_ap, bF_ap, oF_ap, bI_0, bI_1, and255, bu_w, bu_p, bu_90, bu_9, row_w, row_at, nF_up, nI_ofIntm]
    refine ⟨fun q => absurd q (by omega), fun _ => ⟨by omega, by omega, by omega, by omega, fun q => absurd trivial q, fun _ => ?_⟩⟩
    refine cM_store98 hS _ _ 0 (n % 256) (by omega) rfl (by congr 1; omega) ?_
    refine bs_M_store_41 hS.w _ _ _ ?_
    simp (disch := omega) only [nI_lit, nI_ofInt1, nI_ofInt4, nI_ofInt2, nI_ofInt3, mI_neg, wI_I, wI_setI, wI_setR, forall_eq, nI_add, pk_mul, pk_sub, pk_div, pk_rem, nI_clamp, nI_leI, nI_ltI, nI_eq, vin_iff, nar0, nar1, nF_ap, bF_ap, oF_ap, bI_0, bI_1, and255, bu_w, bu_p, bu_90, bu_9, row_w, row_at, nF_up, nI_ofIntm]
    refine ⟨fun q => absurd q (by omega), fun _ => ⟨by omega, by omega, by omega, by omega, fun _ => ?_, fun q => absurd q (by omega)⟩⟩
    refine cM_store98 hS _ _ 1 (n / 256) (by omega) rfl rfl ?_
    rw [← fixB_eq] at key
    exact key
  refine cM_wordAt hS (I := bufS I (up b 8 (p - 10)) p) hD (64 * r + 2) (by omega) ⟨hS, ?_⟩ rfl
  unfold nxt at mid
  simp (disch := omega) only [nI_lit, nI_ofInt1, nI_ofInt4, nI_ofInt2, nI_ofInt3, mI_neg, wI_I, wI_setI, wI_setR, forall_eq, nI_add, pk_mul, pk_sub, pk_div, pk_rem, nI_clamp, nI_leI, nI_ltI, nI_eq, vin_iff, nar0, nar1, nF_ap, bF_ap, oF_ap, bI_0, bI_1, and255, bu_w, bu_p, bu_90, bu_9, row_w, row_at, nF_up, nI_ofIntm]
  refine ⟨fun q => ?_, fun q => ?_⟩
  · rw [if_neg q] at mid; exact mid
  · rw [if_pos q] at mid; exact mid
end MSTORE
