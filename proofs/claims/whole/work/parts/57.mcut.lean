/-! The reference's cut. -/
def plw (pl : List (Option Nat)) (val : Nat → Option Nat) : Nat → Nat → (Nat → Nat) → (Nat → Nat)
  | 0, _, D => D
  | n + 1, k, D => plw pl val n (k + 1) (match val k with
    | some v => plD D pl k v
    | none => D)
def setD (A : VS) (D : Nat → Nat) : VS := (D, vt A, vl A, vo A, vU A, vf A, vT A)
theorem plD_lo {D : Nat → Nat} {pl : List (Option Nat)} (hx : ∀ c, some c ∈ pl → 48 ≤ c ∧ c < 128) (k v q : Nat) (hq : q < 768) : plD D pl k v q = D q := by
  unfold plD
  cases h : go pl (k / 16) with
  | none => rfl
  | some c =>
    have hk : k / 16 < pl.length := by
      cases Nat.lt_or_ge (k / 16) pl.length with
      | inl h => exact h
      | inr h' => rw [go_out h'] at h; cases h
    have := hx c (h ▸ go_mem hk)
    simp only [up]
    rw [if_neg (by omega)]
theorem plw_lo {pl : List (Option Nat)} (hx : ∀ c, some c ∈ pl → 48 ≤ c ∧ c < 128) (val : Nat → Option Nat) (q : Nat) (hq : q < 768) : ∀ (n k : Nat) (D : Nat → Nat), plw pl val n k D q = D q
  | 0, _, _ => rfl
  | n + 1, k, D => by
    unfold plw
    rw [plw_lo hx val q hq n (k + 1)]
    cases val k with
    | none => rfl
    | some v => exact plD_lo hx k v q hq
theorem plD_lt {D : Nat → Nat} {pl : List (Option Nat)} (hB : ∀ k, D k < 256) (k v : Nat) (hv : v < 256) (q : Nat) : plD D pl k v q < 256 := by
  unfold plD
  cases go pl (k / 16) with
  | none => exact hB q
  | some c =>
    simp only [up]
    split
    · exact hv
    · exact hB q
theorem plw_lt {pl : List (Option Nat)} {val : Nat → Option Nat} (hv : ∀ k v, val k = some v → v < 256) : ∀ (n k : Nat) (D : Nat → Nat), (∀ k, D k < 256) → ∀ q, plw pl val n k D q < 256
  | 0, _, _, hB, q => hB q
  | n + 1, k, D, hB, q => by
    unfold plw
    refine plw_lt hv n (k + 1) _ (fun j => ?_) q
    cases h : val k with
    | none => exact hB j
    | some v => exact plD_lt hB k v (hv k v h) j
theorem Rec.hi {D D' : Nat → Nat} {r : Nat} {s : AS} (hR : Rec D r s) (hr : r < 12) (h : ∀ q, q < 768 → D' q = D q) : Rec D' r s := hR.cg fun j hj => h _ (by omega)
/-- the sheet of a file that was cut -/
def cutS (s : AS) (k : Nat) : AS := if aK s = 2 ∨ k = 0 then (1, aP s, 0, aM s, 2, if aK s = 2 then (aH s).take k else [], 0, []) else (1, aP s, 0, aM s, 3, [], k, (aL s).take ((k + 15) / 16))
def cutD (D : Nat → Nat) (s : AS) (k : Nat) : Nat → Nat := if aK s = 2 ∨ k = 0 then D else plw ((aL s).take ((k + 15) / 16)) (fun _ => some 0) (16 * ((k + 15) / 16) - k) k D
def sCut (A : VS) (v w : Int32) : Nat × Int32 × VS :=
  if vo A = false then (1, nI 0, A)
  else if uk A v 1 = true ∧ ¬ w < 0 ∧ w ≤ nI (sz (vf A v.toNatClampNeg)) then
    (let s := vf A v.toNatClampNeg
     let k := w.toNatClampNeg
     let A1 := stA (setD A (cutD (vD A) s k)) v.toNatClampNeg (cutS s k)
     if stOk (vt A) = false then (1, nI 0, A1) else (0, nI (sz s), setT A1 (clrT (vT A) ((aL s).drop ((k + 15) / 16)))))
  else (2, nI 0, A)
theorem MS.hi {I I' : Nat → Nat → Int32} {A : VS} (h : MS I A) (hF : SC I I') (D : Nat → Nat) {J : Nat → Nat → Int32} (eJ : J = fx_row I' 86 (nF D)) : MS J (setD A D) := by
  subst eJ
  obtain ⟨h1, h2, h3, h4, h5, U, T, h6, h7, h8⟩ := h.keep hF
  exact ⟨row_at _ _ _, h2, h3, h4, h5, U, T, h6, h7, h8⟩
section MCUT
variable {G : fx_G} {S : fx_S} {I : Nat → Nat → Int32} {Q : fx_R → fx_S → Prop} {F : Int32 → fx_S → Prop} {A : VS}
theorem cM_releaseX (hS : shM S) {pl : List (Option Nat)} {T : Nat → Bool} (hT : I 88 = bF T) (hc : I 85 10 = nI pl.length) (hm : rowO I 91 pl) (hl : pl.length ≤ 64) (hx : ∀ c, some c ∈ pl → c < 128) {v1 : Int32} (k : Nat) (hk : k < 10000)
    (h : F (nI (cntO (pl.drop k))) (fx_wI S (fx_row I 88 (bF (clrT T (pl.drop k)))))) (e1 : v1 = nI k) : fx_Go G (0, 0) mm_M_release 0 [(0, fx_r G 85), (1, .int v1)] [] (fx_wI S I) (fx_qi F Q) := by
  by_cases hkl : k ≤ pl.length
  · exact cM_release hS hT hc hm hl hx k hkl h e1
  · subst e1
    rw [List.drop_of_length_le (by omega)] at h
    have e : clrT T [] = T := by funext c; simp [clrT]
    rw [e, row_self hT] at h
    refine bs_M_release_0 hS.w _ ?_
    refine bs_M_release_4 hS.w _ _ ?_
    simp only [wI_I, hc]
    exact pk_le pl.length k (fun _ => h) (fun q => absurd q (by omega)) rfl rfl (by omega) (by omega)
theorem cM_cut193 (hS : shM S) (hM : MS I A) (hB : BI A) (ho : vo A = true) (r : Nat) (hr : r < 12) {s : AS} (hs2 : aS s ≤ 2) (hal : (atA s).length ≤ 54) {b : Nat → Nat} {p : Nat} (hb : ∀ i, i < 64 → b i = bfr s i) (hp : p = 10 + (atA s).length) {pl : List (Option Nat)} (hm : rowO I 91 pl) (hpl : pl.length ≤ 64) (hx : ∀ c, some c ∈ pl → c < 128) (k : Nat) (hk : k ≤ 1000) (v3 : Int32) (h0 : I 85 0 = nI 0)
    (h1 : stOk (vt A) = false → ∀ I', K85 I I' → MS I' (stA A r s) → I' 85 0 = nI 1 → F (nI 0) (fx_wI S I'))
    (h2 : stOk (vt A) = true → ∀ I', K85 I I' → MS I' (setT (stA A r s) (clrT (vT A) (pl.drop ((k + 15) / 16)))) → I' 85 0 = nI 0 → F v3 (fx_wI S I')) :
    fx_Go G (4, 60) mm_M_cut 193 [(0, fx_r G 85), (1, .int (nI r)), (2, .int (nI k)), (3, .int v3), (5, .int (nI pl.length))] [] (fx_wI S (bufS I b p)) (fx_qi F Q) := by
  refine bs_M_cut_193 hS.w _ _ _ _ ?_
  refine cM_storeC hS (hM.mc ho) hB.1 hB.2.1 hM.2.2.2.2.1 (s := s) r hr hs2 hal (fun i hi _ => hb i hi) (fun I1 hF1 hM1 h41 => ⟨hS, ?_⟩) rfl hp
  have hS1 : MS I1 (stA A r s) := hM.st (hM.u ho).1 (fun _ => rfl) hF1 hM1 h41
  have k1 : K85 I I1 := hF1.k (fun a ha => by simp; omega)
  have c1 : I1 85 0 = nI 0 := (hF1.2 0 (by decide)).trans h0
  refine b1 (fun hok => ?_) (fun hok => ?_)
  · simp (disch := omega) only [nI_lit, nI_ofInt1, nI_ofInt4, nI_ofInt2, nI_ofInt3, mI_neg, wI_I, wI_setI, wI_setR, forall_eq, nI_add, pk_mul, pk_sub, pk_div, pk_rem, nI_clamp, nI_leI, nI_ltI, nI_eq, vin_iff, nar0, nar1, nF_ap, bF_ap, oF_ap, bI_0, bI_1, and255, bu_w, bu_p, bu_90, bu_9, row_w, row_at, nF_up, nI_ofIntm]
    have ho1 : vo (stA A r s) = true := by rw [stA_o ho]; exact hok
    have sc2 : SC I1 (fx_w I1 85 10 (nI pl.length)) := Fr.w5 _ _ _ _ _ (by decide)
    have hS2 := hS1.keep sc2
    have hrow : rowO (fx_w I1 85 10 (nI pl.length)) 91 pl := (hm.cg (hF1.1 91 (by decide) (by decide))).cg (fw_ne (by decide))
    refine cM_clustersOf hS k (by omega) ⟨hS, ?_⟩ rfl
    refine cM_releaseX hS (hS2.u ho1).2 rfl hrow hpl hx ((k + 15) / 16) (by omega) ⟨hS, ?_⟩ rfl
    refine h2 hok _ ((k1.tr sc2.k).tr (fun a ha => fx_row_ne _ _ (by omega))) ?_ c1
    obtain ⟨g1, g2, g3, g4, g5, U, T, g6, g7, g8⟩ := hS2
    exact ⟨g1, g2, g3, g4, g5, U, _, g6, row_at _ _ _, fun z => ⟨(g8 z).1, rfl⟩⟩
  · refine cM_refuse hS 1 ⟨hS, ?_⟩ rfl
    exact h1 hok _ (k1.tr (sc0 I1 (nI 1)).k) (hS1.keep (sc0 I1 (nI 1))) rfl
theorem cM_cut168 (hS : shM S) (v1 v3 v5 : Int32) {pl : List (Option Nat)} (hl : pl.length ≤ 63) (hx : ∀ c, some c ∈ pl → c < 128) (z : Nat) (hz : z ≤ 1000) : ∀ (n k : Nat) (D : Nat → Nat) (I : Nat → Nat → Int32) {v7 : Int32}, k + n = 16 * pl.length → I 86 = nF D → I 85 10 = nI pl.length → rowO I 91 pl →
    fx_Go G (4, 60) mm_M_cut 193 [(0, fx_r G 85), (1, .int v1), (2, .int (nI z)), (3, .int v3), (5, .int v5)] [] (fx_wI S (fx_row I 86 (nF (plw pl (fun _ => some 0) n k D)))) Q → v7 = nI k →
    fx_Go G (4, 60) mm_M_cut 168 [(0, fx_r G 85), (1, .int v1), (2, .int (nI z)), (3, .int v3), (5, .int v5), (7, .int v7)] [] (fx_wI S I) Q := by
  intro n
  induction n with
  | zero =>
    intro k D I v7 hk hD hc hm h e7
    subst e7
    unfold plw at h
    rw [row_self hD] at h
    refine bs_M_cut_168 hS.w _ _ _ _ _ ?_
    simp only [wI_I, hc]
    exact pk_le (16 * pl.length) k (fun _ => h) (fun q => absurd q (by omega)) (by rw [show (16 : Int32) = nI 16 from rfl, pk_mul]) rfl (by omega) (by omega)
  | succ n ih =>
    intro k D I v7 hk hD hc hm h e7
    subst e7
    unfold plw at h
    refine bs_M_cut_168 hS.w _ _ _ _ _ ?_
    simp only [wI_I, hc]
    refine pk_le (16 * pl.length) k (fun q => absurd q (by omega)) (fun _ => ?_) (by rw [show (16 : Int32) = nI 16 from rfl, pk_mul]) rfl (by omega) (by omega)
    refine cM_place hS hD hm (by omega) hx k 0 (by omega) ⟨hS, ?_⟩ rfl rfl
    refine ih (k + 1) (plD D pl k 0) _ (by omega) (row_at _ _ _) hc hm ?_ (by first | rfl | (simp (disch := omega) only [nI_lit, nI_ofInt1, nI_ofInt4, nI_ofInt2, nI_ofInt3, mI_neg, wI_I, wI_setI, wI_setR, forall_eq, nI_add, pk_mul, pk_sub, pk_div, pk_rem, nI_clamp, nI_leI, nI_ltI, nI_eq, vin_iff, nar0, nar1, nF_ap, bF_ap, oF_ap, bI_0, bI_1, and255, bu_w, bu_p, bu_90, bu_9, row_w, row_at, nF_up, nI_ofIntm] <;> first | done | omega | (congr 1; omega)))
    rw [row_row]
    exact h
theorem row_buf (I : Nat → Nat → Int32) (b : Nat → Nat) (p : Nat) (g : Nat → Int32) : fx_row (bufS I b p) 86 g = bufS (fx_row I 86 g) b p := by
  funext c j
  by_cases h6 : c = 86
  · subst h6; simp [bufS, fx_w, fx_row]
  · by_cases h5 : c = 85
    · subst h5; simp [bufS, fx_w, fx_row]
    · by_cases h9 : c = 90
      · subst h9; simp [bufS, fx_w, fx_row]
      · simp [bufS, fx_w, fx_row, h6, h5, h9]
/-- the bytes that stay, of a file that is inside -/
theorem cM_cut85 (hS : shM S) {D : Nat → Nat} {s : AS} (r : Nat) (hR : Rec D r s) (hr : r < 12) (hw : wf s) (h2 : aK s = 2) (z : Nat) (hz : z ≤ (aH s).length) (v3 v5 : Int32) : ∀ (n k : Nat) (I : Nat → Nat → Int32) {v7 : Int32}, k + n = z → I 86 = nF D → rowL I 93 ((aH s).take k) →
    (∀ I', Fr [93] [] I I' → rowL I' 93 ((aH s).take z) → fx_Go G (4, 60) mm_M_cut 119 [(0, fx_r G 85), (1, .int (nI r)), (2, .int (nI z)), (3, .int v3), (4, .int (bI true)), (5, .int v5)] [] (fx_wI S I') Q) → v7 = nI k →
    fx_Go G (4, 60) mm_M_cut 85 [(0, fx_r G 85), (1, .int (nI r)), (2, .int (nI z)), (3, .int v3), (4, .int (bI true)), (5, .int v5), (6, .int (nI (10 + (nmA (aM s)).length + 2))), (7, .int v7)] [] (fx_wI S I) Q := by
  have hl := hw.hl (by omega)
  intro n
  induction n with
  | zero =>
    intro k I v7 hk hD hrow h e7
    subst e7
    refine bs_M_cut_85 hS.w _ _ _ _ _ _ _ ?_
    exact pk_le z k (fun _ => h I (Fr.rfl' _ _ _) (by rw [show z = k by omega]; exact hrow)) (fun q => absurd q (by omega)) rfl rfl (by omega) (by omega)
  | succ n ih =>
    intro k I v7 hk hD hrow h e7
    subst e7
    refine bs_M_cut_85 hS.w _ _ _ _ _ _ _ ?_
    refine pk_le z k (fun q => absurd q (by omega)) (fun _ => ⟨fun q => absurd q (by decide), fun _ => ?_⟩) rfl rfl (by omega) (by omega)
    refine cM_byteR hS hD r (10 + (nmA (aM s)).length + 2 + k) hR hr (by omega) ⟨hS, ?_⟩ rfl (by first | rfl | (simp (disch := omega) only [nI_lit, nI_ofInt1, nI_ofInt4, nI_ofInt2, nI_ofInt3, mI_neg, wI_I, wI_setI, wI_setR, forall_eq, nI_add, pk_mul, pk_sub, pk_div, pk_rem, nI_clamp, nI_leI, nI_ltI, nI_eq, vin_iff, nar0, nar1, nF_ap, bF_ap, oF_ap, bI_0, bI_1, and255, bu_w, bu_p, bu_90, bu_9, row_w, row_at, nF_up, nI_ofIntm] <;> first | done | omega | (congr 1; omega)))
    rw [rv_h s (by omega) (by omega)]
    simp (disch := omega) only [nI_lit, nI_ofInt1, nI_ofInt4, nI_ofInt2, nI_ofInt3, mI_neg, wI_I, wI_setI, wI_setR, forall_eq, nI_add, pk_mul, pk_sub, pk_div, pk_rem, nI_clamp, nI_leI, nI_ltI, nI_eq, vin_iff, nar0, nar1, nF_ap, bF_ap, oF_ap, bI_0, bI_1, and255, bu_w, bu_p, bu_90, bu_9, row_w, row_at, nF_up, nI_ofIntm]
    refine ⟨by omega, ih (k + 1) _ (by omega) hD ?_ (fun I' hF => h I' ((Fr.w [93] [] I 93 _ _ (by decide) (by decide)).tr hF (fun _ h => ⟨h, h⟩) (fun _ h => ⟨h, h⟩))) rfl⟩
    have e : (aH s).take (k + 1) = (aH s).take k ++ [gd (aH s) k] := by
      rw [List.take_add_one, List.getElem?_eq_getElem (show k < (aH s).length by omega)]
      unfold gd
      rw [List.getD_eq_getElem?_getD, List.getElem?_eq_getElem (show k < (aH s).length by omega)]
      rfl
    have e2 : k = ((aH s).take k).length := by rw [List.length_take]; omega
    rw [e]
    have := rowL_snoc hrow (gd (aH s) k)
    rw [← e2] at this
    exact this
end MCUT
