/-! The reference writes a sheet. -/
def MC (I : Nat → Nat → Int32) (D : Nat → Nat) (t : Nat) (U : Nat → Bool) : Prop := I 86 = nF D ∧ I 85 5 = nI t ∧ I 87 = bF U
def nN (D : Nat → Nat) (r : Nat) : Nat := nxt (wrd D (64 * r + 2))
theorem fixB_cg2 {b : Nat → Nat} {s : AS} {n l : Nat} (h : ∀ i, i < 64 → i < 2 ∨ 9 ≤ i → b i = bfr s i) : ∀ i, i < 64 → fixB b n l i = fixB (bfr s) n l i := by
  intro i hi
  unfold fixB
  rw [h 30 (by omega) (by omega), h 31 (by omega) (by omega), h 62 (by omega) (by omega), h 63 (by omega) (by omega)]
  repeat' split
  all_goals first
    | rfl
    | exact h i hi (by omega)
def sLi (s : AS) (ml : List Nat) : AS := (2, aP s, 0, aM s, 4, ml, 0, [])
theorem sLi_at (s : AS) (ml : List Nat) : atA (sLi s ml) = nmA (aM s) ++ 4 :: (ml.length + 2) :: ml := rfl
theorem Recs.st {D : Nat → Nat} {U : Nat → Bool} {f : Nat → AS} (h : Recs D U f) (r : Nat) (s : AS) (n : Nat) (hw : aS s ≠ 0 → wf (setN s n)) : Recs (st2 D r (encB s n)) (up U r (decide (aS s ≠ 0))) (up f r (setN s n)) := by
  intro e he hu
  by_cases her : e = r
  · subst her
    unfold up at hu ⊢
    rw [if_pos rfl] at hu
    rw [if_pos rfl]
    exact ⟨Rec.new D e s n, hw (of_decide_eq_true hu)⟩
  · unfold up at hu ⊢
    rw [if_neg her] at hu
    rw [if_neg her]
    obtain ⟨h1, h2⟩ := h e he hu
    exact ⟨h1.cg (fun j hj => st2_out _ _ _ _ (by omega)), h2⟩
section MST
variable {G : fx_G} {S : fx_S} {I : Nat → Nat → Int32} {Q : fx_R → fx_S → Prop} {F : Int32 → fx_S → Prop} {D : Nat → Nat} {U : Nat → Bool}
theorem cM_storeC (hS : shM S) {t : Nat} (hM : MC I D t U) (hB : ∀ k, D k < 256) (ht : t ≤ 20) {on : Bool} (hO : I 85 4 = bI on) {b : Nat → Nat} {s : AS} {v1 : Int32} (r : Nat) (hr : r < 12) (hs : aS s ≤ 2) (hl : (atA s).length ≤ 54) (hb : ∀ i, i < 64 → i < 2 ∨ 9 ≤ i → b i = bfr s i)
    (h : ∀ I', Fr [86, 87, 90] [4, 5, 9] I I' → MC I' (stD D r (encB s (nN D r)) t) (t - 2) (if stOk t = true then up U r (decide (aS s ≠ 0)) else U) → I' 85 4 = bI (on && stOk t) → F (bI (stOk t)) (fx_wI S I')) (e1 : v1 = nI r) {p : Nat} (ep : p = 10 + (atA s).length) :
    fx_Go G (1, 15) mm_M_store 0 [(0, fx_r G 85), (1, .int v1)] [] (fx_wI S (bufS I b p)) (fx_qi F Q) := by
  subst ep
  have hb0 : b 0 = aS s := hb 0 (by omega) (by omega)
  refine cM_store hS hM.1 hB hO hM.2.2 r t (10 + (atA s).length) hr hM.2.1 (by omega) (by omega) (by omega) (by omega) (fun I' hF h86 h87 h4 h5 => ?_) e1
  have e86 : stD D r (fixB b (nxt (wrd D (64 * r + 2))) (10 + (atA s).length - 10)) t = stD D r (encB s (nN D r)) t := by
    rw [Nat.add_sub_cancel_left]
    exact stD_cg (fixB_cg2 hb)
  have e87 : (decide (b 0 = 1) || decide (b 0 = 2)) = decide (aS s ≠ 0) := by
    rw [hb0]
    rcases (show aS s = 0 ∨ aS s = 1 ∨ aS s = 2 by omega) with e | e | e <;> rw [e] <;> rfl
  rw [e86] at h86
  rw [e87] at h87
  exact h I' hF ⟨h86, h5, h87⟩ h4
theorem cM_storeList (hS : shM S) {t : Nat} (hM : MC I D t U) (hB : ∀ k, D k < 256) (ht : t ≤ 20) {on : Bool} (hO : I 85 4 = bI on) {s : AS} {v1 v2 : Int32} (r : Nat) (hR : Rec D r s) (hr : r < 12) (hw : wf s) {ml : List Nat} (h14 : I 85 14 = nI ml.length) (hml : rowL I 94 ml) (hml2 : ml.length ≤ 12)
    (h : ∀ I', Fr [86, 87, 90] [4, 5, 9] I I' → MC I' (stD D r (encB (sLi s ml) (nN D r)) t) (t - 2) (if stOk t = true then up U r true else U) → I' 85 4 = bI (on && stOk t) → F (bI (stOk t)) (fx_wI S I')) (e1 : v1 = nI r) (e2 : v2 = nI (aP s)) :
    fx_Go G (4, 60) mm_M_storeList 0 [(0, fx_r G 85), (1, .int v1), (2, .int v2)] [] (fx_wI S I) (fx_qi F Q) := by
  have narb : ∀ b : Bool, narrow .boolean (.int (bI b)) = .int (bI b) := by intro b; cases b <;> rfl
  subst e1 e2
  have hN := nmA_len (aM s)
  have hnl := hw.nl
  have hN10 : (nmA (aM s)).length ≤ 10 := by rw [hN]; split <;> omega
  refine bs_M_storeList_0 hS.w _ _ ?_
  refine cM_begin hS 2 (aP s) (fun b hb => ⟨hS, ?_⟩) rfl rfl
  refine cM_putName hS hM.1 r hR hr hw (by omega) ⟨hS, ?_⟩ rfl
  refine cM_putList hS h14 hml hml2 (by omega) ⟨hS, ?_⟩
  rw [putL_app, ← sLi_at s ml]
  have hlen : (atA (sLi s ml)).length = (nmA (aM s)).length + (ml.length + 2) := by rw [sLi_at]; simp
  refine cM_storeC hS hM hB ht hO (s := sLi s ml) r hr (by show 2 ≤ 2; omega) (by omega) (fun i hi _ => putL_bfr (s := sLi s ml) hb i hi) (fun I' hF hM' h4 => ⟨hS, narb _, h I' hF hM' h4⟩) rfl (by omega)
end MST
/-- a sheet is written -/
def stA (A : VS) (r : Nat) (s : AS) : VS := (stD (vD A) r (encB s (nN (vD A) r)) (vt A), vt A - 2, vl A, vo A && stOk (vt A), up (vU A) r (decide (aS s ≠ 0)), up (vf A) r (setN s (nN (vD A) r)), vT A)
theorem MS.st {I I' : Nat → Nat → Int32} {A : VS} {r : Nat} {s : AS} (h : MS I A) {U : Nat → Bool} (hU : I 87 = bF U) (hu : vo A = true → U = vU A) (hF : Fr [86, 87, 90] [4, 5, 9] I I') (hM : MC I' (stD (vD A) r (encB s (nN (vD A) r)) (vt A)) (vt A - 2) (if stOk (vt A) = true then up U r (decide (aS s ≠ 0)) else U)) (h4 : I' 85 4 = bI (vo A && stOk (vt A))) : MS I' (stA A r s) := by
  obtain ⟨h1, h2, h3, h4', h5, U', T, h6, h7, h8⟩ := h
  refine ⟨hM.1, hM.2.1, (hF.2 6 (by decide)).trans h3, h4'.cg (hF.1 89 (by decide) (by decide)), h4, _, T, hM.2.2, (hF.1 88 (by decide) (by decide)).trans h7, fun ho => ?_⟩
  have ho' : (vo A && stOk (vt A)) = true := ho
  simp only [Bool.and_eq_true] at ho'
  refine ⟨?_, (h8 ho'.1).2⟩
  rw [if_pos ho'.2, hu ho'.1]
  rfl
theorem MS.mc {I : Nat → Nat → Int32} {A : VS} (h : MS I A) (ho : vo A = true) : MC I (vD A) (vt A) (vU A) := ⟨h.1, h.2.1, (h.u ho).1⟩
def newS (isF : Bool) (d : Nat) (dl : List Nat) : AS := (if isF = true then 1 else 2, d, 0, dl, if isF = true then 2 else 4, [], 0, [])
theorem newS_wf {d n : Nat} {dl : List Nat} (isF : Bool) (hd : d < 12) (hn : n < 65536) (hl : dl.length ≤ 8) (hx : ∀ x ∈ dl, 48 ≤ x ∧ x ≤ 122) : wf (setN (newS isF d dl) n) := by
  have hN := nmA_len dl
  have hN10 : (nmA dl).length ≤ 10 := by rw [hN]; split <;> omega
  cases isF with
  | true =>
    refine ⟨Or.inl ⟨rfl, Or.inl rfl⟩, hd, hn, hl, hx, ?_, fun x q => (by cases q), fun _ x q => (by cases q), fun _ => rfl, fun q => (by cases q)⟩
    rw [atA_len]
    show (nmA dl).length + 2 ≤ 54
    omega
  | false =>
    refine ⟨Or.inr ⟨rfl, rfl⟩, hd, hn, hl, hx, ?_, fun x q => (by cases q), fun _ x q => (by cases q), fun _ => rfl, fun q => (by cases q)⟩
    rw [atA_len]
    show (nmA dl).length + 2 ≤ 54
    omega
theorem sLi_wf {s : AS} {n : Nat} {ml : List Nat} (h : wf s) (hn : n < 65536) (hm : ml.length ≤ 12) (hx : ∀ x ∈ ml, x < 12) : wf (setN (sLi s ml) n) := by
  have hN := nmA_len (aM s)
  have hnl := h.nl
  have hN10 : (nmA (aM s)).length ≤ 10 := by rw [hN]; split <;> omega
  refine ⟨Or.inr ⟨rfl, rfl⟩, h.2.1, hn, h.nl, h.nx, ?_, fun x q => (by have := hx x q; omega), fun _ x q => hx x q, fun _ => rfl, fun q => (by cases q)⟩
  rw [atA_len]
  show (nmA (aM s)).length + (ml.length + 2) ≤ 54
  omega
theorem nN_lt {D : Nat → Nat} (hB : ∀ k, D k < 256) (r : Nat) : nN D r < 65536 := nxt_lt (wrd_lt hB _)
theorem enc_wf_lt {s : AS} {n : Nat} (hn : n < 65536) (h : wf (setN s n)) : ∀ k, encB s n k < 256 := fun k => encB_lt n hn (by have := h.1; simp only [setN, aS, aK] at this; unfold aS; omega) (by have := h.2.1; simp only [setN, aP] at this; unfold aP; omega) (by have := h.al; rw [setN_at] at this; omega) (fun x hx => h.at x (by rw [setN_at]; exact hx)) k
theorem enc_fr_lt {n m : Nat} (hn : n < 65536) : ∀ k, encB (frA m) n k < 256 := fun k => encB_lt n hn (by show 0 < 256; omega) (by show 0 < 256; omega) (by show 0 < 256; omega) (fun x hx => by cases hx) k
