/-! The reference's other questions, and its small calls. -/
def isLt (c : Nat) : Bool := (decide (97 ≤ c) && decide (c ≤ 122)) || (decide (48 ≤ c) && decide (c ≤ 57))
def mkV (A : VS) (D : Nat → Nat) (t : Nat) (l : List Nat) (o : Bool) : VS := (D, t, l, o, vU A, vf A, vT A)
def clr (A : VS) : VS := mkV A (vD A) (vt A) [] (vo A)
/-- the answer to a character, and what is then -/
def sType (A : VS) (c : Nat) : Bool × VS := if isLt c = true ∧ (vl A).length < 8 then (true, mkV A (vD A) (vt A) (vl A ++ [c]) (vo A)) else (false, A)
def sFail (A : VS) (v : Int32) : Bool × VS := if ¬ v < 0 ∧ v ≤ nI 20 then (true, mkV A (vD A) v.toNatClampNeg (vl A) (vo A)) else (false, A)
section MQ2
variable {G : fx_G} {S : fx_S} {I : Nat → Nat → Int32} {Q : fx_R → fx_S → Prop} {F : Int32 → fx_S → Prop} {A : VS}
theorem MS.clr {I I' : Nat → Nat → Int32} {A : VS} (h : MS I A) (hF : Fr [90, 91, 92, 93, 94] [0, 6, 9, 10, 14, 16] I I') (h6 : I' 85 6 = nI 0) : MS I' (clr A) := by
  obtain ⟨h1, h2, h3, h4, h5, U, T, h6', h7, h8⟩ := h
  have e : ∀ c, c ≠ 85 → c ∉ [90, 91, 92, 93, 94] → I' c = I c := hF.1
  refine ⟨(e 86 (by decide) (by decide)).trans h1, (hF.2 5 (by decide)).trans h2, h6, fun k hk => absurd hk (Nat.not_lt_zero _), (hF.2 4 (by decide)).trans h5, U, T, (e 87 (by decide) (by decide)).trans h6', (e 88 (by decide) (by decide)).trans h7, h8⟩
theorem cM_find (hS : shM S) (h0 : MS I A) (hB : BI A) (hO : vo A = true → OI A) (v1 : Int32) (h : ∀ I', K85 I I' → MS I' (clr A) → I' 85 0 = nI 0 → F (qFind A v1) (fx_wI S I')) : fx_Go G (6, 89) mm_M_find 0 [(0, fx_r G 85), (1, .int v1)] [] (fx_wI S I) (fx_qi F Q) := by
  refine bs_M_find_0 hS.w _ ?_
  simp (disch := omega) only [nI_lit, nI_ofInt1, nI_ofInt4, nI_ofInt2, nI_ofInt3, mI_neg, wI_I, wI_setI, wI_setR, forall_eq, nI_add, pk_mul, pk_sub, pk_div, pk_rem, nI_clamp, nI_leI, nI_ltI, nI_eq, vin_iff, nar0, nar1, nF_ap, bF_ap, oF_ap, bI_0, bI_1, and255, bu_w, bu_p, bu_90, bu_9, row_w, row_at, nF_up, nI_ofIntm]
  have h2 := h0.keep (sc0 I (nI 0))
  have hF : Fr [90, 91, 92, 93, 94] [0, 6, 9, 10, 14, 16] I (fx_w (fx_w I 85 0 (nI 0)) 85 6 (nI 0)) := ((sc0 I (nI 0)).mono (fun _ h => h) (fun a h => by simp at h ⊢; omega)).tr (Fr.w5 [90, 91, 92, 93, 94] [0, 6, 9, 10, 14, 16] _ 6 _ (by decide)) (fun _ h => ⟨h, h⟩) (fun _ h => ⟨h, h⟩)
  have h1 := h (fx_w (fx_w I 85 0 (nI 0)) 85 6 (nI 0)) (fun a ha => hF.1 a (by omega) (by simp; omega)) (h0.clr hF rfl) rfl
  generalize fx_w I 85 0 (nI 0) = J at h1 h2
  clear h h0 hF
  have hq : ∀ x, x = qFind A v1 → fx_qi F Q (.inl (some (.int x))) (fx_wI S (fx_w J 85 6 (nI 0))) := by
    intro x hx; rw [hx]; exact h1
  unfold qFind at hq
  refine cM_uk hS h2 hB hO v1 2 (by omega) ⟨hS, ?_⟩ rfl
  simp (disch := omega) only [nI_lit, nI_ofInt1, nI_ofInt4, nI_ofInt2, nI_ofInt3, mI_neg, wI_I, wI_setI, wI_setR, forall_eq, nI_add, pk_mul, pk_sub, pk_div, pk_rem, nI_clamp, nI_leI, nI_ltI, nI_eq, vin_iff, nar0, nar1, nF_ap, bF_ap, oF_ap, bI_0, bI_1, and255, bu_w, bu_p, bu_90, bu_9, row_w, row_at, nF_up, nI_ofIntm, h2.2.2.1]
  have hl8 := hB.2.2.1
  refine ⟨fun hc => hq mI (by rw [hc]; rfl), fun hc => ?_⟩
  have hc' : uk A v1 2 = true := by simpa using hc
  simp (disch := omega) only [nI_lit, nI_ofInt1, nI_ofInt4, nI_ofInt2, nI_ofInt3, mI_neg, wI_I, wI_setI, wI_setR, forall_eq, nI_add, pk_mul, pk_sub, pk_div, pk_rem, nI_clamp, nI_leI, nI_ltI, nI_eq, vin_iff, nar0, nar1, nF_ap, bF_ap, oF_ap, bI_0, bI_1, and255, bu_w, bu_p, bu_90, bu_9, row_w, row_at, nF_up, nI_ofIntm]
  refine ⟨fun hn => hq mI ?_, fun hn => ?_⟩
  · rw [if_neg (fun z => z.2 (by omega))]
  · obtain ⟨j, hj, e, hu, ho, ej, hs⟩ := uk_j hc'
    obtain ⟨hR, hw⟩ := (hO ho).rc j hj hu
    refine cM_findDraft hS h2.1 (hO ho).rc h2.2.2.1 h2.2.2.2.1 hl8 (fun x hx => by have := hB.2.2.2 x hx; omega) j hR hj hw (hw.k4 hs) (fun x hx => ?_) ⟨hS, ?_⟩ e
    · have := (((hO ho).li hj hu hs).2 x).mp hx
      exact ⟨this.2.1, this.2.2.1⟩
    · simp (disch := omega) only [nI_lit, nI_ofInt1, nI_ofInt4, nI_ofInt2, nI_ofInt3, mI_neg, wI_I, wI_setI, wI_setR, forall_eq, nI_add, pk_mul, pk_sub, pk_div, pk_rem, nI_clamp, nI_leI, nI_ltI, nI_eq, vin_iff, nar0, nar1, nF_ap, bF_ap, oF_ap, bI_0, bI_1, and255, bu_w, bu_p, bu_90, bu_9, row_w, row_at, nF_up, nI_ofIntm]
      refine hq _ ?_
      rw [if_pos ⟨hc', by omega⟩, ej]
theorem cM_on (hS : shM S) (h0 : MS I A) (h : ∀ I', SC I I' → I' 85 0 = nI 0 → F (bI (vo A)) (fx_wI S I')) : fx_Go G (0, 0) mm_M_on 0 [(0, fx_r G 85)] [] (fx_wI S I) (fx_qi F Q) := by
  have narb : ∀ b : Bool, narrow .boolean (.int (bI b)) = .int (bI b) := by intro b; cases b <;> rfl
  refine bs_M_on_0 hS.w ?_
  simp (disch := omega) only [nI_lit, nI_ofInt1, nI_ofInt4, nI_ofInt2, nI_ofInt3, mI_neg, wI_I, wI_setI, wI_setR, forall_eq, nI_add, pk_mul, pk_sub, pk_div, pk_rem, nI_clamp, nI_leI, nI_ltI, nI_eq, vin_iff, nar0, nar1, nF_ap, bF_ap, oF_ap, bI_0, bI_1, and255, bu_w, bu_p, bu_90, bu_9, row_w, row_at, nF_up, nI_ofIntm]
  have h1 := h _ (sc0 I (nI 0)) rfl
  have h2 := h0.keep (sc0 I (nI 0))
  rw [h2.2.2.2.2.1]
  exact ⟨narb _, h1⟩
theorem cM_free (hS : shM S) (h0 : MS I A) (h : ∀ I', SC I I' → I' 85 0 = nI 0 → F (if vo A = true then nI (frcF (vT A) 80 48) else nI 0) (fx_wI S I')) : fx_Go G (1, 14) mm_M_free 0 [(0, fx_r G 85)] [] (fx_wI S I) (fx_qi F Q) := by
  refine bs_M_free_0 hS.w ?_
  simp (disch := omega) only [nI_lit, nI_ofInt1, nI_ofInt4, nI_ofInt2, nI_ofInt3, mI_neg, wI_I, wI_setI, wI_setR, forall_eq, nI_add, pk_mul, pk_sub, pk_div, pk_rem, nI_clamp, nI_leI, nI_ltI, nI_eq, vin_iff, nar0, nar1, nF_ap, bF_ap, oF_ap, bI_0, bI_1, and255, bu_w, bu_p, bu_90, bu_9, row_w, row_at, nF_up, nI_ofIntm]
  have h1 := h _ (sc0 I (nI 0)) rfl
  have h2 := h0.keep (sc0 I (nI 0))
  rw [h2.2.2.2.2.1]
  simp (disch := omega) only [nI_lit, nI_ofInt1, nI_ofInt4, nI_ofInt2, nI_ofInt3, mI_neg, wI_I, wI_setI, wI_setR, forall_eq, nI_add, pk_mul, pk_sub, pk_div, pk_rem, nI_clamp, nI_leI, nI_ltI, nI_eq, vin_iff, nar0, nar1, nF_ap, bF_ap, oF_ap, bI_0, bI_1, and255, bu_w, bu_p, bu_90, bu_9, row_w, row_at, nF_up, nI_ofIntm]
  refine ⟨fun q => ?_, fun q => ?_⟩
  · rw [if_neg (by rw [q]; decide)] at h1; exact h1
  · have q' : vo A = true := by simpa using q
    rw [if_pos q'] at h1
    exact cM_freeClusters hS (h2.u q').2 ⟨hS, h1⟩
theorem cM_at (hS : shM S) (h0 : MS I A) (v1 : Int32) (h : ∀ I', SC I I' → I' 85 0 = nI 0 → F (if ¬ v1 < 0 ∧ v1 ≤ nI 2047 then nI (vD A v1.toNatClampNeg) else mI) (fx_wI S I')) : fx_Go G (0, 0) mm_M_at 0 [(0, fx_r G 85), (1, .int v1)] [] (fx_wI S I) (fx_qi F Q) := by
  refine bs_M_at_0 hS.w _ ?_
  simp only [wI_setI, forall_eq, wI_I]
  have h1 := h _ (sc0 I (nI 0)) rfl
  have h2 := (h0.keep (sc0 I (nI 0))).1
  refine ⟨fun q => ?_, fun q => ⟨fun q2 => ?_, fun q2 => ?_⟩⟩
  · rw [if_neg (fun z => z.1 q)] at h1; exact h1
  · rw [if_pos ⟨q, q2⟩] at h1
    obtain ⟨j, hj, e⟩ := nI_of2 (M := nI 2047) (n := 2047) rfl q q2
    refine ⟨by rw [e]; exact vp_in_nI (by omega) (by omega), ?_⟩
    have e2 : fx_w I 85 0 0 86 (v1.toNatClampNeg) = nI (vD A v1.toNatClampNeg) := congrFun h2 _
    rw [e2]
    exact h1
  · rw [if_neg (fun z => q2 z.2)] at h1; exact h1
theorem cM_fail (hS : shM S) (h0 : MS I A) (v1 : Int32) (h : ∀ I', K85 I I' → MS I' (sFail A v1).2 → I' 85 0 = nI 0 → F (bI (sFail A v1).1) (fx_wI S I')) : fx_Go G (0, 0) mm_M_fail 0 [(0, fx_r G 85), (1, .int v1)] [] (fx_wI S I) (fx_qi F Q) := by
  refine bs_M_fail_0 hS.w _ ?_
  simp only [wI_setI, forall_eq, wI_I]
  unfold sFail at h
  refine ⟨fun q => ?_, fun q => ⟨fun q2 => ?_, fun q2 => ?_⟩⟩
  · rw [if_neg (fun z => z.1 q)] at h
    exact h _ (sc0 I (nI 0)).k (h0.keep (sc0 I (nI 0))) rfl
  · rw [if_pos ⟨q, q2⟩] at h
    obtain ⟨j, hj, e⟩ := nI_of2 (M := nI 20) (n := 20) rfl q q2
    refine h (fx_w (fx_w I 85 0 0) 85 5 v1) ?_ ?_ rfl
    · intro a ha
      rw [fw_ne (by omega), fw_ne (by omega)]
    · obtain ⟨h1, h2, h3, h4, h5, U, T, h6, h7, h8⟩ := h0.keep (sc0 I (nI 0))
      refine ⟨h1, ?_, h3, h4, h5, U, T, h6, h7, h8⟩
      show v1 = nI v1.toNatClampNeg
      rw [e, nI_clamp (by omega)]
  · rw [if_neg (fun z => q2 z.2)] at h
    exact h _ (sc0 I (nI 0)).k (h0.keep (sc0 I (nI 0))) rfl
theorem cM_type34 (hS : shM S) (h0 : MS I A) (hB : BI A) (c : Nat) (hc : c < 65536) (b : Bool) (hb : b = isLt c) (h : ∀ I', K85 I I' → MS I' (sType A c).2 → I' 85 0 = I 85 0 → F (bI (sType A c).1) (fx_wI S I')) :
    fx_Go G (0, 0) mm_M_type 34 [(0, fx_r G 85), (1, .int (nI c))] [.int (bI b)] (fx_wI S I) (fx_qi F Q) := by
  have hl8 := hB.2.2.1
  have narc : vp_nar .char (nI c) = nI c := by
    have := (pk_charN hc).1
    unfold vp_nar
    rw [this]
  refine bs_M_type_34 hS.w _ _ ?_
  unfold sType at h
  simp only [wI_I, h0.2.2.1, narc]
  refine b0 (fun q => ?_) (fun q => ?_)
  · rw [if_neg (fun z => by rw [← hb, q] at z; exact absurd z.1 (by decide))] at h
    exact h I (fun _ _ => rfl) h0 rfl
  · simp (disch := omega) only [nI_lit, nI_ofInt1, nI_ofInt4, nI_ofInt2, nI_ofInt3, mI_neg, wI_I, wI_setI, wI_setR, forall_eq, nI_add, pk_mul, pk_sub, pk_div, pk_rem, nI_clamp, nI_leI, nI_ltI, nI_eq, vin_iff, nar0, nar1, nF_ap, bF_ap, oF_ap, bI_0, bI_1, and255, bu_w, bu_p, bu_90, bu_9, row_w, row_at, nF_up, nI_ofIntm]
    refine ⟨fun q2 => ⟨by omega, ?_⟩, fun q2 => ?_⟩
    · rw [if_pos ⟨by rw [← hb]; exact q, by omega⟩] at h
      have e6 : fx_w I 89 (vl A).length (nI c) 85 6 = nI (vl A).length := h0.2.2.1
      rw [e6]
      simp (disch := omega) only [nI_lit, nI_ofInt1, nI_ofInt4, nI_ofInt2, nI_ofInt3, mI_neg, wI_I, wI_setI, wI_setR, forall_eq, nI_add, pk_mul, pk_sub, pk_div, pk_rem, nI_clamp, nI_leI, nI_ltI, nI_eq, vin_iff, nar0, nar1, nF_ap, bF_ap, oF_ap, bI_0, bI_1, and255, bu_w, bu_p, bu_90, bu_9, row_w, row_at, nF_up, nI_ofIntm]
      refine h (fx_w (fx_w I 89 (vl A).length (nI c)) 85 6 (nI ((vl A).length + 1))) (fun a ha => by rw [fw_ne (by omega), fw_ne (by omega)]) ?_ rfl
      obtain ⟨h1, h2, h3, h4, h5, U, T, h6, h7, h8⟩ := h0
      refine ⟨h1, h2, ?_, ?_, h5, U, T, h6, h7, h8⟩
      · show nI _ = nI (vl A ++ [c]).length
        rw [List.length_append]; rfl
      · exact (rowL_snoc h4 c).cg rfl
    · rw [if_neg (fun z => by omega)] at h
      exact h I (fun _ _ => rfl) h0 rfl
theorem cM_type (hS : shM S) (h0 : MS I A) (hB : BI A) (c : Nat) (hc : c < 65536) (h : ∀ I', K85 I I' → MS I' (sType A c).2 → I' 85 0 = nI 0 → F (bI (sType A c).1) (fx_wI S I')) :
    fx_Go G (0, 0) mm_M_type 0 [(0, fx_r G 85), (1, .int (nI c))] [] (fx_wI S I) (fx_qi F Q) := by
  have h2 := h0.keep (sc0 I (nI 0))
  have main : ∀ b : Bool, b = isLt c → fx_Go G (0, 0) mm_M_type 34 [(0, fx_r G 85), (1, .int (nI c))] [.int (bI b)] (fx_wI S (fx_w I 85 0 (nI 0))) (fx_qi F Q) :=
    fun b hb => cM_type34 hS h2 hB c hc b hb (fun I' hk hm h8 => h I' ((sc0 I (nI 0)).k.tr hk) hm (h8.trans rfl))
  unfold isLt at main
  refine bs_M_type_0 hS.w _ ?_
  simp (disch := omega) only [nI_lit, nI_ofInt1, nI_ofInt4, nI_ofInt2, nI_ofInt3, mI_neg, wI_I, wI_setI, wI_setR, forall_eq, nI_add, pk_mul, pk_sub, pk_div, pk_rem, nI_clamp, nI_leI, nI_ltI, nI_eq, vin_iff, nar0, nar1, nF_ap, bF_ap, oF_ap, bI_0, bI_1, and255, bu_w, bu_p, bu_90, bu_9, row_w, row_at, nF_up, nI_ofIntm]
  refine ⟨fun q => ⟨fun q2 => main false ?_, fun q2 => ⟨fun q3 => main false ?_, fun q3 => main true ?_⟩⟩, fun q => ⟨fun q2 => main true ?_, fun q2 => ⟨fun q3 => absurd q3 (by omega), fun q3 => ⟨fun q4 => main false ?_, fun q4 => absurd q4 (by omega)⟩⟩⟩⟩
  · rw [decide_eq_false (show ¬ 97 ≤ c by omega), decide_eq_false (show ¬ 48 ≤ c by omega)]; rfl
  · rw [decide_eq_false (show ¬ 97 ≤ c by omega), decide_eq_false (show ¬ c ≤ 57 by omega)]; simp
  · rw [decide_eq_true (show 48 ≤ c by omega), decide_eq_true (show c ≤ 57 by omega)]; simp
  · rw [decide_eq_true (show 97 ≤ c by omega), decide_eq_true (show c ≤ 122 by omega)]; rfl
  · rw [decide_eq_false (show ¬ c ≤ 122 by omega), decide_eq_false (show ¬ c ≤ 57 by omega)]; simp
end MQ2
