/-! The class's questions: find, record, read, run, on, free, at; fail, type. -/
def LC (I I' : Nat → Nat → Int32) : Prop := ∀ a, 85 ≤ a → I' a = I a
theorem LC.r (I : Nat → Nat → Int32) : LC I I := fun _ _ => rfl
theorem LC.tr {I I' I'' : Nat → Nat → Int32} (h : LC I I') (h' : LC I' I'') : LC I I'' := fun a ha => (h' a ha).trans (h a ha)
theorem FC.lc {cs : List Nat} {I I' : Nat → Nat → Int32} (h : FC cs I I') (hc : ∀ a, a ∈ cs → a < 85) : LC I I' := fun a ha => h a (fun z => by have := hc a z; omega)
def CS (I : Nat → Nat → Int32) (A : VS) : Prop := CB I A ∧ I 0 4 = bI (vo A) ∧ (vo A = true → CH I (vf A) ∧ CT I (vT A))
theorem OI.gk {A : VS} (h : OI A) (hB : BI A) : GK (vU A) (vf A) := fun r hr => ⟨fun hu => (h.1 r hr hu).2, fun hu => ⟨_, wrd_lt hB.1 _, h.2.1 r hr hu⟩⟩
theorem us_on {A : VS} (ho : vo A = true) (v : Int32) : us A v = isr true (vU A) v := by unfold us; rw [ho]
theorem uk_on {A : VS} (ho : vo A = true) (v : Int32) (s : Nat) : uk A v s = (isr true (vU A) v && decide (aS (vf A v.toNatClampNeg) = s)) := by unfold uk; rw [us_on ho]
theorem us_off {A : VS} (ho : vo A = false) (v : Int32) : us A v = false := by unfold us isr; rw [ho]; rfl
theorem uk_off {A : VS} (ho : vo A = false) (v : Int32) (s : Nat) : uk A v s = false := by unfold uk; rw [us_off ho]; rfl
theorem fd_nil {f : Nat → AS} : ∀ (l : List Nat), (∀ e ∈ l, aM (f e) ≠ []) → fdN f [] l = mI
  | [], _ => rfl
  | e :: t, h => by
    unfold fdN
    rw [if_neg (h e (List.mem_cons_self ..))]
    exact fd_nil t (fun x hx => h x (List.mem_cons_of_mem _ hx))
theorem OI.ne {A : VS} (h : OI A) {d : Nat} (hd : d < 12) (hu : vU A d = true) (h2 : aS (vf A d) = 2) : ∀ e ∈ aH (vf A d), aM (vf A e) ≠ [] := fun e he => by
  have q := ((h.li hd hu h2).2 e).mp he
  exact h.2.2.2.1 e q.1 q.2.1 q.2.2.1
theorem BI.lok {A : VS} (h : BI A) : lok (vl A) := ⟨h.2.2.1, h.2.2.2⟩
theorem wf.dl {s : AS} (h : wf s) : dlo (aL s) := by
  by_cases h3 : aK s = 3
  · have h9 := h.2.2.2.2.2.2.2.2.2 h3
    exact ⟨by rw [h9.2.2.1]; omega, h9.2.2.2.2⟩
  · rw [h.2.2.2.2.2.2.2.2.1 h3]
    exact ⟨by show 0 ≤ 63; omega, fun c hc => by cases hc⟩
theorem srch_spec (l : List (Option Nat)) (v : Int32) : ∀ (m i n : Nat), l.length - i ≤ m → i ≤ l.length → (srch v (rls (l.drop i)) n i = mI ∧ ∀ j, j < (rls (l.drop i)).length → v ≠ nI (n + j)) ∨ ∃ j s x t, j < (rls (l.drop i)).length ∧ v = nI (n + j) ∧ srch v (rls (l.drop i)) n i = nI s ∧ l.drop s = x :: t ∧ (rls (l.drop i))[j]? = some (x, cont x t + 1)
  | 0, i, n, hm, hi => by
    left
    rw [List.drop_eq_nil_of_le (by omega)]
    exact ⟨rfl, fun j hj => absurd hj (Nat.not_lt_zero _)⟩
  | m + 1, i, n, hm, hi => by
    by_cases h : i < l.length
    · obtain ⟨t, ht⟩ := drop_ex h
      generalize go l i = x at ht
      obtain ⟨_, htl⟩ := drop_len ht
      have hcl := cont_le x t
      rw [ht, rls_cons, tl_drop ht, show i + cont x t + 1 = i + (cont x t + 1) by omega]
      unfold srch
      by_cases c : v = nI n
      · right
        rw [if_pos c]
        exact ⟨0, i, x, t, by simp, by rw [Nat.add_zero]; exact c, rfl, ht, rfl⟩
      · rw [if_neg c]
        rcases srch_spec l v m (i + (cont x t + 1)) (n + 1) (by omega) (by omega) with ⟨h1, h2⟩ | ⟨j, s, y, t', h1, h2, h3, h4, h5⟩
        · left
          refine ⟨h1, fun j hj => ?_⟩
          cases j with
          | zero => rw [Nat.add_zero]; exact c
          | succ j =>
            simp only [List.length_cons] at hj
            rw [show n + (j + 1) = n + 1 + j by omega]
            exact h2 j (by omega)
        · right
          exact ⟨j + 1, s, y, t', by simp only [List.length_cons]; omega, by rw [show n + (j + 1) = n + 1 + j by omega]; exact h2, h3, h4, h5⟩
    · left
      rw [List.drop_eq_nil_of_le (by omega)]
      exact ⟨rfl, fun j hj => absurd hj (Nat.not_lt_zero _)⟩
section CQ
variable {G : fx_G} {S : fx_S} {I : Nat → Nat → Int32} {Q : fx_R → fx_S → Prop} {F : Int32 → fx_S → Prop} {A : VS}
theorem cV_on (hS : shC S) (hC : CS I A) (h : F (bI (vo A)) (fx_wI S I)) : fx_Go G (0, 0) mm_V_on 0 [(0, fx_r G 0)] [] (fx_wI S I) (fx_qi F Q) := by
  have narb : ∀ b : Bool, narrow .boolean (.int (bI b)) = .int (bI b) := by intro b; cases b <;> rfl
  refine bs_V_on_0 hS.w ?_
  rw [wI_I, hC.2.1]
  exact ⟨narb _, h⟩
theorem cV_free (hS : shC S) (hC : CS I A) (h : F (if vo A = true then nI (frcF (vT A) 80 48) else nI 0) (fx_wI S I)) : fx_Go G (0, 0) mm_V_free 0 [(0, fx_r G 0)] [] (fx_wI S I) (fx_qi F Q) := by
  refine bs_V_free_0 hS.w ?_
  rw [wI_I, hC.2.1]
  refine b1 (fun q => ?_) (fun q => ?_)
  · rw [if_pos q] at h
    refine cV_free14 hS (hC.2.2 q).2 80 48 0 (by omega) (by omega) ?_ rfl rfl
    rw [Nat.zero_add]
    exact h
  · rw [if_neg (by rw [q]; decide)] at h
    exact h
theorem cV_at (hS : shC S) (hC : CS I A) (v1 : Int32) (h : F (if ¬ v1 < 0 ∧ v1 ≤ nI 2047 then nI (vD A v1.toNatClampNeg) else mI) (fx_wI S I)) : fx_Go G (0, 0) mm_V_at 0 [(0, fx_r G 0), (1, .int v1)] [] (fx_wI S I) (fx_qi F Q) := by
  refine bs_V_at_0 hS.w _ ?_
  have el : fx_ln (fx_wI S I) 2 = 2048 := shC.ln hS (by omega) rfl
  simp only [wI_I, el, hC.1.1]
  refine ⟨fun q => ?_, fun q => ⟨fun q2 => ?_, fun q2 => ?_⟩⟩
  · rw [if_neg (fun z => z.1 q)] at h; exact h
  · have q2' : nI 2048 ≤ v1 := q2
    rw [if_neg (fun z => absurd (Int32.le_trans q2' z.2) (nI_ge (by omega) (by omega)))] at h
    exact h
  · have q2' : ¬ nI 2048 ≤ v1 := q2
    rcases pk_ix v1 (n := 2048) (by omega) with h3 | h3 | ⟨j, hj, e⟩
    · exact absurd h3 q
    · exact absurd h3 q2'
    · subst e
      rw [if_pos ⟨q, nI_le (by omega) (by omega)⟩] at h
      exact ⟨pk_in j 2048 hj rfl, h⟩
theorem cV_fail (hS : shC S) (hC : CS I A) (v1 : Int32) (h : ∀ I', LC I I' → CS I' (sFail A v1).2 → F (bI (sFail A v1).1) (fx_wI S I')) : fx_Go G (0, 0) mm_V_fail 0 [(0, fx_r G 0), (1, .int v1)] [] (fx_wI S I) (fx_qi F Q) := by
  refine bs_V_fail_0 hS.w _ ?_
  simp only [wI_setI, forall_eq]
  refine ⟨fun q => ?_, fun q => ⟨fun q2 => ?_, fun q2 => ?_⟩⟩
  · have := h I (LC.r _)
    unfold sFail at this
    rw [if_neg (fun z => z.1 q)] at this
    exact this hC
  · have hF : FC [1] I (fx_w I 1 1 v1) := FC.w [1] I 1 _ _ (by simp <;> omega)
    have := h _ (hF.lc (fun a ha => by simp at ha <;> omega))
    unfold sFail at this
    rw [if_pos ⟨q, q2⟩] at this
    refine this ⟨⟨hC.1.1, ?_, hC.1.2.2⟩, hC.2.1, fun ho => ?_⟩
    · obtain ⟨j, hj, e⟩ := nI_of2 (M := nI 20) (n := 20) rfl q q2
      show fx_w I 1 1 v1 1 1 = nI v1.toNatClampNeg
      rw [fw_at, e, nI_clamp (by omega)]
    · obtain ⟨g1, g2⟩ := hC.2.2 ho
      exact ⟨g1.fc hF (fun a a1 a2 => by simp <;> omega), g2.fc hF (by simp <;> omega)⟩
  · have := h I (LC.r _)
    unfold sFail at this
    rw [if_neg (fun z => q2 z.2)] at this
    exact this hC
theorem cV_type (hS : shC S) (hC : CS I A) (hB : BI A) (c : Nat) (hc : c < 65536) (h : ∀ I', LC I I' → CS I' (sType A c).2 → F (bI (sType A c).1) (fx_wI S I')) : fx_Go G (1, 14) mm_V_type 0 [(0, fx_r G 0), (1, .int (nI c))] [] (fx_wI S I) (fx_qi F Q) := by
  have narb : ∀ b : Bool, narrow .boolean (.int (bI b)) = .int (bI b) := by intro b; cases b <;> rfl
  refine bs_V_type_0 hS.w _ ?_
  refine cN_append hS 77 isN_draft hC.1.2.2 hB.2.2.1 c hc (fun I' hF hN => ⟨hS, narb _, ?_⟩) rfl
  have h1 := h I' (hF.lc (fun a ha => by simp at ha <;> omega))
  have hap : apN (vl A) c = (sType A c).1 ∧ CS I' (sType A c).2 := by
    unfold sType
    unfold apN at hN ⊢
    by_cases q : isLt c = true ∧ (vl A).length < 8
    · rw [q.1, decide_eq_true q.2] at hN ⊢
      rw [if_pos ⟨rfl, q.2⟩]
      refine ⟨rfl, ⟨by rw [hF 2 (by simp <;> omega)]; exact hC.1.1, by rw [hF 1 (by simp <;> omega)]; exact hC.1.2.1, hN⟩, by rw [hF 0 (by simp <;> omega)]; exact hC.2.1, fun ho => ?_⟩
      obtain ⟨g1, g2⟩ := hC.2.2 ho
      exact ⟨g1.fc hF (fun a a1 a2 => by simp <;> omega), g2.fc hF (by simp <;> omega)⟩
    · rw [if_neg q]
      have e : (isLt c && decide ((vl A).length < 8)) = false := by
        cases hi : isLt c with
        | false => rfl
        | true => rw [decide_eq_false (fun z => q ⟨hi, z⟩)]; rfl
      rw [e, if_neg (by decide)] at hN
      rw [e]
      refine ⟨rfl, ⟨by rw [hF 2 (by simp <;> omega)]; exact hC.1.1, by rw [hF 1 (by simp <;> omega)]; exact hC.1.2.1, hN⟩, by rw [hF 0 (by simp <;> omega)]; exact hC.2.1, fun ho => ?_⟩
      obtain ⟨g1, g2⟩ := hC.2.2 ho
      exact ⟨g1.fc hF (fun a a1 a2 => by simp <;> omega), g2.fc hF (by simp <;> omega)⟩
  rw [hap.1]
  exact h1 hap.2
theorem CS.clr {I I' : Nat → Nat → Int32} {A : VS} (h : CS I A) (hF : FC [77] I I') (hN : NmP I' 77 []) : CS I' (clr A) := by
  refine ⟨⟨by rw [hF 2 (by simp <;> omega)]; exact h.1.1, by rw [hF 1 (by simp <;> omega)]; exact h.1.2.1, hN⟩, by rw [hF 0 (by simp <;> omega)]; exact h.2.1, fun ho => ?_⟩
  obtain ⟨g1, g2⟩ := h.2.2 ho
  exact ⟨g1.fc hF (fun a a1 a2 => by simp <;> omega), g2.fc hF (by simp <;> omega)⟩
theorem cV_find (hS : shC S) (hC : CS I A) (hB : BI A) (hO : vo A = true → OI A) (v1 : Int32) (h : ∀ I', LC I I' → CS I' (clr A) → F (qFind A v1) (fx_wI S I')) : fx_Go G (3, 44) mm_V_find 0 [(0, fx_r G 0), (1, .int v1)] [] (fx_wI S I) (fx_qi F Q) := by
  have fin : ∀ x, x = qFind A v1 → fx_Go G (0, 0) mm_N_clear 0 [(0, fx_r G 77)] [] (fx_wI S I) (fx_qv (fun S2 => shC S2 ∧ fx_qi F Q (.inl (some (.int x))) S2) (fx_qi F Q)) := by
    intro x hx
    subst hx
    exact cN_clear hS 77 isN_draft (fun I' hF hN => ⟨hS, h I' (hF.lc (fun a ha => by simp at ha <;> omega)) (hC.clr hF hN)⟩)
  refine bs_V_find_0 hS.w _ ?_
  rw [wI_I, hC.2.1]
  refine b0 (fun q => ?_) (fun q => ?_)
  · refine fin mI ?_
    unfold qFind
    rw [if_neg (fun z => by rw [uk_off q] at z; cases z.1)]
  · have hOA := hO q
    have hK := hOA.gk hB
    obtain ⟨g1, g2⟩ := hC.2.2 q
    refine cV_isDirectory hS hK g1 v1 ⟨hS, ?_⟩
    rw [← uk_on q]
    refine b0 (fun q2 => ?_) (fun q2 => ?_)
    · refine fin mI ?_
      unfold qFind
      rw [if_neg (fun z => by rw [q2] at z; cases z.1)]
    · obtain ⟨d, hd, e, hu, _, ec, h2⟩ := uk_j q2
      refine cV_entryNamed hS hK g1 77 isN_draft hC.1.2.2 hB.lok d hd hu h2 ⟨hS, fin _ ?_⟩ e
      unfold qFind
      rw [ec]
      by_cases hl : (vl A).length ≠ 0
      · rw [if_pos ⟨q2, hl⟩]
      · rw [if_neg (fun z => hl z.2)]
        have e0 : vl A = [] := List.eq_nil_of_length_eq_zero (by omega)
        rw [e0]
        exact fd_nil _ (hOA.ne hd hu h2)
theorem cV_record (hS : shC S) (hC : CS I A) (hB : BI A) (hO : vo A = true → OI A) (v1 v2 : Int32) (h : F (qRec A v1 v2) (fx_wI S I)) : fx_Go G (4, 52) mm_V_record 0 [(0, fx_r G 0), (1, .int v1), (2, .int v2)] [] (fx_wI S I) (fx_qi F Q) := by
  have hq : ∀ x, x = qRec A v1 v2 → fx_qi F Q (.inl (some (.int x))) (fx_wI S I) := by
    intro x hx; rw [hx]; exact h
  unfold qRec at hq
  refine bs_V_record_0 hS.w _ _ ?_
  rw [wI_I, hC.2.1]
  refine b0 (fun q => hq mI (by rw [us_off q]; rfl)) (fun q => ?_)
  have hOA := hO q
  have hK := hOA.gk hB
  obtain ⟨g1, g2⟩ := hC.2.2 q
  refine cV_isUsed hS hK g1 v1 ⟨hS, ?_⟩
  rw [← us_on q]
  refine b1 (fun q2 => ?_) (fun q2 => hq mI (by rw [q2]; rfl))
  obtain ⟨j, hj, e, hu, _, ec⟩ := us_j q2
  have hw := (hK j hj).1 hu
  obtain ⟨p1, p2, p3, p4, p5, p6, p7, p8⟩ := g1 j hj
  rw [q2, ec] at hq
  simp only [if_true] at hq
  simp only [wI_I]
  rw [ec, p1, p2, p3, p4, p5]
  refine ⟨pk_in j 12 hj e, fun c => ?_, fun c => ?_, fun c => ?_, fun c => ?_, fun c => ?_, fun c => ?_, fun c => ?_, fun c0 c1 c2 c3 c4 c5 c6 => ?_⟩
  · subst c; exact hq _ rfl
  · subst c; exact hq _ rfl
  · subst c; exact hq _ rfl
  · subst c
    exact cH_attributeBytes hS (4 + 6 * j) (isH_at j hj) ⟨p1, p2, p3, p4, p5, p6, p7, p8⟩ hw.sok.2.2.2.1 hw.sok.2.2.2.2.1 hw.nl ⟨hS, hq _ rfl⟩
  · subst c; exact hq _ rfl
  · subst c; exact hq _ rfl
  · subst c
    exact cY_runCount hS (4 + 6 * j + 4) (isH_at j hj).y p8 hw.dl.y ⟨hS, hq _ rfl⟩
  · refine hq _ ?_
    rw [if_neg (show ¬ v2 = nI 0 from c0), if_neg (show ¬ v2 = nI 1 from c1), if_neg (show ¬ v2 = nI 2 from c2), if_neg (show ¬ v2 = nI 3 from c3), if_neg (show ¬ v2 = nI 4 from c4), if_neg (show ¬ v2 = nI 5 from c5), if_neg (show ¬ v2 = nI 6 from c6)]
    rfl
theorem cV_read (hS : shC S) (hC : CS I A) (hB : BI A) (hO : vo A = true → OI A) (v1 v2 : Int32) (h : F (qRead A v1 v2) (fx_wI S I)) : fx_Go G (2, 28) mm_V_read 0 [(0, fx_r G 0), (1, .int v1), (2, .int v2)] [] (fx_wI S I) (fx_qi F Q) := by
  have hq : ∀ x, x = qRead A v1 v2 → fx_qi F Q (.inl (some (.int x))) (fx_wI S I) := by
    intro x hx; rw [hx]; exact h
  unfold qRead at hq
  refine bs_V_read_0 hS.w _ _ ?_
  rw [wI_I, hC.2.1]
  refine b0 (fun q => hq mI (by rw [if_neg (fun z => by rw [us_off q] at z; cases z.1)])) (fun q => ?_)
  have hOA := hO q
  have hK := hOA.gk hB
  obtain ⟨g1, g2⟩ := hC.2.2 q
  refine cV_isUsed hS hK g1 v1 ⟨hS, ?_⟩
  rw [← us_on q]
  refine b0 (fun q2 => hq mI (by rw [if_neg (fun z => by rw [q2] at z; cases z.1)])) (fun q2 => ?_)
  refine ⟨fun q3 => hq mI (by rw [if_neg (fun z => z.2.1 q3)]), fun q3 => ?_⟩
  obtain ⟨j, hj, e, hu, _, ec⟩ := us_j q2
  have hw := (hK j hj).1 hu
  obtain ⟨p1, p2, p3, p4, p5, p6, p7, p8⟩ := g1 j hj
  rw [ec] at hq
  simp only [wI_I]
  rw [ec, p4, p5]
  refine ⟨pk_in j 12 hj e, fun q4 => ⟨pk_in j 12 hj e, ?_⟩, fun q4 => hq mI (by rw [if_neg (fun z => q4 z.2.2)])⟩
  rw [if_pos ⟨q2, q3, q4⟩] at hq
  have hsl := hw.szl
  rcases pk_ix v2 (n := sz (vf A j)) (by omega) with h3 | h3 | ⟨k, hk, ek⟩
  · exact absurd h3 q3
  · exact absurd q4 (i_nlt.mpr h3)
  · subst ek
    rw [nI_clamp (by omega)] at hq ⊢
    have hka := hw.ka
    refine ne_pair (pk_eq (aK (vf A j)) 3 (fun q5 => ?_) (fun q5 => ?_) rfl rfl (by omega) (by omega))
    · refine cD_fileByte hS (4 + 6 * j + 4) (isH_at j hj).y p8 hw.dl hC.1.1 k (by omega) ⟨hS, hq _ ?_⟩ rfl
      simp only [if_pos q5]
    · have hl := hw.hl q5
      have ez : sz (vf A j) = (aH (vf A j)).length := by unfold sz; rw [if_neg q5]
      rw [p7 k (by omega)]
      refine ⟨pk_in k 54 (by omega) rfl, hq _ ?_⟩
      simp only [if_neg q5]
theorem cV_run (hS : shC S) (hC : CS I A) (hB : BI A) (hO : vo A = true → OI A) (v1 v2 v3 : Int32) (h : F (qRun A v1 v2 v3) (fx_wI S I)) : fx_Go G (2, 28) mm_V_run 0 [(0, fx_r G 0), (1, .int v1), (2, .int v2), (3, .int v3)] [] (fx_wI S I) (fx_qi F Q) := by
  have hq : ∀ x, x = qRun A v1 v2 v3 → fx_qi F Q (.inl (some (.int x))) (fx_wI S I) := by
    intro x hx; rw [hx]; exact h
  unfold qRun at hq
  refine bs_V_run_0 hS.w _ _ _ ?_
  rw [wI_I, hC.2.1]
  refine b0 (fun q => hq mI (by rw [if_neg (fun z => by rw [uk_off q] at z; cases z.1)])) (fun q => ?_)
  have hOA := hO q
  have hK := hOA.gk hB
  obtain ⟨g1, g2⟩ := hC.2.2 q
  refine cV_isFile hS hK g1 v1 ⟨hS, ?_⟩
  rw [← uk_on q]
  refine b1 (fun q2 => ?_) (fun q2 => hq mI (by rw [if_neg (fun z => by rw [q2] at z; cases z.1)]))
  obtain ⟨j, hj, e, hu, _, ec, h1⟩ := uk_j q2
  have hw := (hK j hj).1 hu
  obtain ⟨p1, p2, p3, p4, p5, p6, p7, p8⟩ := g1 j hj
  have hrl := rls_le (aL (vf A j)).length (aL (vf A j))
  change (rls (aL (vf A j))).length ≤ _ at hrl
  have hll := hw.dl.1
  rw [ec] at hq
  rw [ec]
  refine ⟨pk_in j 12 hj e, ?_⟩
  refine cY_startOfRun hS (4 + 6 * j + 4) (isH_at j hj).y p8 hw.dl.y v2 ⟨hS, ?_⟩
  have sp := srch_spec (aL (vf A j)) v2 (aL (vf A j)).length 0 0 (by omega) (by omega)
  rw [List.drop_zero] at sp
  rcases sp with ⟨s1, s2⟩ | ⟨k, s, x, t, s1, s2, s3, s4, s5⟩
  · rw [s1]
    refine ⟨fun z => absurd rfl z, fun _ => hq mI ?_⟩
    rw [if_neg]
    intro z
    rcases pk_ix v2 (n := (rls (aL (vf A j))).length) (by omega) with h3 | h3 | ⟨k, hk, ek⟩
    · exact z.2.1 h3
    · exact i_nlt.mpr h3 z.2.2
    · exact s2 k hk (by rw [Nat.zero_add]; exact ek)
  · rw [Nat.zero_add] at s2
    subst s2
    obtain ⟨hsl, htl⟩ := drop_len s4
    rw [s3]
    rw [if_pos ⟨q2, nI_pos (by omega), nI_lt s1 (by omega)⟩, nI_clamp (by omega), s5] at hq
    simp only at hq
    refine ⟨fun _ => ⟨fun c => ?_, fun c => ?_, fun c0 c1 => ?_⟩, fun z => absurd z.symm (mI_ne s (by omega))⟩
    · subst c
      exact cY_lengthOfRun hS (4 + 6 * j + 4) (isH_at j hj).y p8 hw.dl.y s4 ⟨hS, hq _ rfl⟩ rfl
    · subst c
      have ex : go (aL (vf A j)) s = x := by
        have := go_drop (aL (vf A j)) s 0
        rw [s4, go_0] at this
        exact this.symm
      refine cY_placeOf hS (4 + 6 * j + 4) (isH_at j hj).y p8 hll s (by omega) ⟨hS, ?_⟩ rfl
      rw [ex]
      refine ⟨fun _ => ?_, fun z => hq _ ?_⟩
      · refine cY_placeOf hS (4 + 6 * j + 4) (isH_at j hj).y p8 hll s (by omega) ⟨hS, ?_⟩ rfl
        rw [ex]
        exact hq _ rfl
      · exact z.symm
    · refine hq _ ?_
      rw [if_neg (show ¬ v3 = nI 0 from c0), if_neg (show ¬ v3 = nI 1 from c1)]
      rfl
end CQ
