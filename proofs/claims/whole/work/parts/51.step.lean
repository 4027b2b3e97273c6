/-! The volume as both sides hold it; the reference's questions. -/
/-- disk, cut that was told, draft, on, records in use, sheets, clusters taken (the last three while it is on) -/
abbrev VS : Type := (Nat → Nat) × Nat × List Nat × Bool × (Nat → Bool) × (Nat → AS) × (Nat → Bool)
def vD (A : VS) : Nat → Nat := A.1
def vt (A : VS) : Nat := A.2.1
def vl (A : VS) : List Nat := A.2.2.1
def vo (A : VS) : Bool := A.2.2.2.1
def vU (A : VS) : Nat → Bool := A.2.2.2.2.1
def vf (A : VS) : Nat → AS := A.2.2.2.2.2.1
def vT (A : VS) : Nat → Bool := A.2.2.2.2.2.2
/-- the reference's cells hold it -/
def MS (I : Nat → Nat → Int32) (A : VS) : Prop := I 86 = nF (vD A) ∧ I 85 5 = nI (vt A) ∧ I 85 6 = nI (vl A).length ∧ rowL I 89 (vl A) ∧ I 85 4 = bI (vo A) ∧ ∃ U T, I 87 = bF U ∧ I 88 = bF T ∧ (vo A = true → U = vU A ∧ T = vT A)
/-- what always holds -/
def BI (A : VS) : Prop := (∀ k, vD A k < 256) ∧ vt A ≤ 20 ∧ (vl A).length ≤ 8 ∧ ∀ x ∈ vl A, 48 ≤ x ∧ x ≤ 122
/-- what holds while it is on -/
def OI (A : VS) : Prop :=
  Recs (vD A) (vU A) (vf A) ∧ (∀ r, r < 12 → vU A r = false → vf A r = frA (wrd (vD A) (64 * r + 2))) ∧ (vU A 0 = true ∧ aS (vf A 0) = 2 ∧ aP (vf A 0) = 0 ∧ aM (vf A 0) = []) ∧ (∀ r, 0 < r → r < 12 → vU A r = true → aM (vf A r) ≠ []) ∧
  (∀ r, r < 12 → vU A r = true → vU A (aP (vf A r)) = true ∧ aS (vf A (aP (vf A r))) = 2) ∧ (∀ r, r < 12 → vU A r = true → ldN (vU A) (vf A) 12 r) ∧
  (∀ d, d < 12 → vU A d = true → aS (vf A d) = 2 → (aH (vf A d)).Nodup ∧ ∀ x, x ∈ aH (vf A d) ↔ (0 < x ∧ x < 12 ∧ vU A x = true ∧ aP (vf A x) = d)) ∧
  (∀ c, c < 128 → (vT A c = true ↔ ∃ r, r < 12 ∧ vU A r = true ∧ some c ∈ aL (vf A r))) ∧
  ∀ r r' i j c, r < 12 → r' < 12 → vU A r = true → vU A r' = true → go (aL (vf A r)) i = some c → go (aL (vf A r')) j = some c → r = r' ∧ i = j
theorem OI.rc {A : VS} (h : OI A) : Recs (vD A) (vU A) (vf A) := h.1
theorem OI.li {A : VS} (h : OI A) {d : Nat} (hd : d < 12) (hu : vU A d = true) (hs : aS (vf A d) = 2) : (aH (vf A d)).Nodup ∧ ∀ x, x ∈ aH (vf A d) ↔ (0 < x ∧ x < 12 ∧ vU A x = true ∧ aP (vf A x) = d) := h.2.2.2.2.2.2.1 d hd hu hs
theorem wf.k4 {s : AS} (h : wf s) (h2 : aS s = 2) : aK s = 4 := by have := h.1; omega
theorem nodup_le : ∀ (n : Nat) (l : List Nat), l.Nodup → (∀ x ∈ l, x < n) → l.length ≤ n
  | 0, l, _, h => by
    cases l with
    | nil => exact Nat.le_refl _
    | cons x t => exact absurd (h x (List.mem_cons_self ..)) (Nat.not_lt_zero _)
  | n + 1, l, hn, h => by
    have h1 : (l.erase n).Nodup := hn.erase n
    have h2 : ∀ x ∈ l.erase n, x < n := by
      intro x hx
      have hx' := (List.Nodup.mem_erase_iff hn).mp hx
      have := h x hx'.2
      omega
    have h3 := nodup_le n (l.erase n) h1 h2
    by_cases hm : n ∈ l
    · rw [List.length_erase_of_mem hm] at h3
      have := List.length_pos_of_mem hm
      omega
    · rw [List.erase_of_not_mem hm] at h3
      omega
theorem nodup_11 {l : List Nat} (hn : l.Nodup) (h : ∀ x ∈ l, 0 < x ∧ x < 12) : l.length ≤ 11 := by
  have h0 : (0 :: l).Nodup := List.nodup_cons.mpr ⟨fun q => by have := h 0 q; omega, hn⟩
  have := nodup_le 12 (0 :: l) h0 (fun x hx => by
    rcases List.mem_cons.mp hx with e | e
    · omega
    · exact (h x e).2)
  simpa using this
theorem OI.l11 {A : VS} (h : OI A) {d : Nat} (hd : d < 12) (hu : vU A d = true) (hs : aS (vf A d) = 2) : (aH (vf A d)).length ≤ 11 := nodup_11 (h.li hd hu hs).1 fun x hx => by have := ((h.li hd hu hs).2 x).mp hx; omega
theorem Fr.mono {cs js cs' js' : List Nat} {I I' : Nat → Nat → Int32} (h : Fr cs js I I') (hc : ∀ a, a ∈ cs → a ∈ cs') (hj : ∀ a, a ∈ js → a ∈ js') : Fr cs' js' I I' := ⟨fun a h5 ha => h.1 a h5 (fun z => ha (hc a z)), fun j ha => h.2 j (fun z => ha (hj j z))⟩
/-- scratch of the reference alone has changed -/
abbrev SC (I I' : Nat → Nat → Int32) : Prop := Fr [90, 91, 92, 93, 94] [0, 9, 10, 14, 16] I I'
theorem SC.tr {I I' I'' : Nat → Nat → Int32} (h : SC I I') (h' : SC I' I'') : SC I I'' := Fr.tr h h' (fun _ h => ⟨h, h⟩) (fun _ h => ⟨h, h⟩)
theorem MS.keep {I I' : Nat → Nat → Int32} {A : VS} (h : MS I A) (hF : SC I I') : MS I' A := by
  obtain ⟨h1, h2, h3, h4, h5, U, T, h6, h7, h8⟩ := h
  have e : ∀ c, c ≠ 85 → c ∉ [90, 91, 92, 93, 94] → I' c = I c := hF.1
  refine ⟨(e 86 (by decide) (by decide)).trans h1, (hF.2 5 (by decide)).trans h2, (hF.2 6 (by decide)).trans h3, h4.cg (e 89 (by decide) (by decide)), (hF.2 4 (by decide)).trans h5, U, T, (e 87 (by decide) (by decide)).trans h6, (e 88 (by decide) (by decide)).trans h7, h8⟩
/-- the class's cells are as they were -/
def K85 (I I' : Nat → Nat → Int32) : Prop := ∀ a, a < 85 → I' a = I a
theorem K85.tr {I I' I'' : Nat → Nat → Int32} (h : K85 I I') (h' : K85 I' I'') : K85 I I'' := fun a ha => (h' a ha).trans (h a ha)
theorem SC.k {I I' : Nat → Nat → Int32} (hF : SC I I') : K85 I I' := fun a ha => hF.1 a (by omega) (by simp; omega)
def us (A : VS) (v : Int32) : Bool := isr (vo A) (vU A) v
def uk (A : VS) (v : Int32) (s : Nat) : Bool := us A v && decide (aS (vf A v.toNatClampNeg) = s)
theorem uk_isk {A : VS} (hO : vo A = true → OI A) (v : Int32) (s : Nat) : isk (vo A) (vU A) (vD A) v s = uk A v s := by
  unfold isk uk us
  by_cases h : isr (vo A) (vU A) v = true
  · obtain ⟨j, hj, e, hu, ho⟩ := isr_j h
    rw [h, e, nI_clamp (by omega), ((hO ho).rc j hj hu).1.s]
  · have : isr (vo A) (vU A) v = false := by simpa using h
    rw [this]; rfl
def qRec (A : VS) (v w : Int32) : Int32 :=
  if us A v = true then (let s := vf A v.toNatClampNeg
    if w = nI 0 then nI (aS s) else if w = nI 1 then nI (aP s) else if w = nI 2 then nI (aN s) else if w = nI 3 then nI (atA s).length
    else if w = nI 4 then nI (sz s) else if w = nI 5 then nI (aK s) else if w = nI 6 then nI (rls (aL s)).length else mI)
  else mI
def qFind (A : VS) (v : Int32) : Int32 := if uk A v 2 = true ∧ (vl A).length ≠ 0 then fdN (vf A) (vl A) (aH (vf A v.toNatClampNeg)) else mI
def fby (D : Nat → Nat) (l : List (Option Nat)) (k : Nat) : Nat := match go l (k / 16) with
  | some c => D (16 * c + k % 16)
  | none => 0
def qRead (A : VS) (v k : Int32) : Int32 :=
  if us A v = true ∧ ¬ k < 0 ∧ k < nI (sz (vf A v.toNatClampNeg)) then (let s := vf A v.toNatClampNeg
    if aK s = 3 then nI (fby (vD A) (aL s) k.toNatClampNeg) else nI (gd (aH s) k.toNatClampNeg))
  else mI
def qRun (A : VS) (v k w : Int32) : Int32 :=
  if uk A v 1 = true ∧ ¬ k < 0 ∧ k < nI (rls (aL (vf A v.toNatClampNeg))).length then
    (match (rls (aL (vf A v.toNatClampNeg)))[k.toNatClampNeg]? with
    | some q => if w = nI 0 then nI q.2 else if w = nI 1 then oI q.1 else mI
    | none => mI)
  else mI
section MQ
variable {G : fx_G} {S : fx_S} {I : Nat → Nat → Int32} {Q : fx_R → fx_S → Prop} {F : Int32 → fx_S → Prop} {A : VS}
theorem MS.u {I : Nat → Nat → Int32} {A : VS} (h : MS I A) (ho : vo A = true) : I 87 = bF (vU A) ∧ I 88 = bF (vT A) := by
  obtain ⟨h1, h2, h3, h4, h5, U, T, h6, h7, h8⟩ := h
  obtain ⟨e1, e2⟩ := h8 ho
  exact ⟨by rw [h6, e1], by rw [h7, e2]⟩
theorem cM_us (hS : shM S) (h0 : MS I A) (v1 : Int32) (h : F (bI (us A v1)) (fx_wI S I)) : fx_Go G (0, 0) mm_M_isRecord 0 [(0, fx_r G 85), (1, .int v1)] [] (fx_wI S I) (fx_qi F Q) := by
  obtain ⟨h1, h2, h3, h4, h5, U, T, h6, h7, h8⟩ := h0
  refine cM_isRecord hS h5 h6 v1 ?_
  have e : isr (vo A) U v1 = us A v1 := by
    unfold us
    cases ho : vo A with
    | false => rfl
    | true => rw [(h8 ho).1]
  rw [e]
  exact h
theorem cM_uk (hS : shM S) (h0 : MS I A) (hB : BI A) (hO : vo A = true → OI A) (v1 : Int32) {v2 : Int32} (s : Nat) (hs : s < 256) (h : F (bI (uk A v1 s)) (fx_wI S I)) (e2 : v2 = nI s) : fx_Go G (1, 15) mm_M_isKind 0 [(0, fx_r G 85), (1, .int v1), (2, .int v2)] [] (fx_wI S I) (fx_qi F Q) := by
  obtain ⟨h1, h2, h3, h4, h5, U, T, h6, h7, h8⟩ := h0
  refine cM_isKind hS h1 hB.1 h5 h6 v1 s hs ?_ e2
  have e : isk (vo A) U (vD A) v1 s = uk A v1 s := by
    rw [← uk_isk hO]
    unfold isk
    cases ho : vo A with
    | false => rfl
    | true => rw [(h8 ho).1]
  rw [e]
  exact h
theorem us_j {A : VS} {v : Int32} (h : us A v = true) : ∃ j, j < 12 ∧ v = nI j ∧ vU A j = true ∧ vo A = true ∧ v.toNatClampNeg = j := by
  obtain ⟨j, hj, e, hu, ho⟩ := isr_j h
  exact ⟨j, hj, e, hu, ho, by rw [e, nI_clamp (by omega)]⟩
theorem uk_j {A : VS} {v : Int32} {s : Nat} (h : uk A v s = true) : ∃ j, j < 12 ∧ v = nI j ∧ vU A j = true ∧ vo A = true ∧ v.toNatClampNeg = j ∧ aS (vf A j) = s := by
  unfold uk at h
  simp only [Bool.and_eq_true, decide_eq_true_eq] at h
  obtain ⟨j, hj, e, hu, ho, ej⟩ := us_j h.1
  exact ⟨j, hj, e, hu, ho, ej, by rw [← ej]; exact h.2⟩
theorem sc0 (I : Nat → Nat → Int32) (x : Int32) : SC I (fx_w I 85 0 x) := Fr.w5 _ _ _ _ _ (by decide)
theorem cM_record (hS : shM S) (h0 : MS I A) (hO : vo A = true → OI A) (v1 v2 : Int32) (h : ∀ I', SC I I' → I' 85 0 = nI 0 → F (qRec A v1 v2) (fx_wI S I')) : fx_Go G (3, 47) mm_M_record 0 [(0, fx_r G 85), (1, .int v1), (2, .int v2)] [] (fx_wI S I) (fx_qi F Q) := by
  refine bs_M_record_0 hS.w _ _ ?_
  simp (disch := omega) only [nI_lit, nI_ofInt1, nI_ofInt4, nI_ofInt2, nI_ofInt3, mI_neg, wI_I, wI_setI, wI_setR, forall_eq, nI_add, pk_mul, pk_sub, pk_div, pk_rem, nI_clamp, nI_leI, nI_ltI, nI_eq, vin_iff, nar0, nar1, nF_ap, bF_ap, oF_ap, bI_0, bI_1, and255, bu_w, bu_p, bu_90, bu_9, row_w, row_at, nF_up, nI_ofIntm]
  have h1 := h _ (sc0 I (nI 0)) rfl
  have h2 := h0.keep (sc0 I (nI 0))
  generalize fx_w I 85 0 (nI 0) = J at h1 h2
  clear h h0
  refine cM_us hS h2 v1 ⟨hS, ?_⟩
  have hq : ∀ x, x = qRec A v1 v2 → fx_qi F Q (.inl (some (.int x))) (fx_wI S J) := by
    intro x hx; rw [hx]; exact h1
  unfold qRec at hq
  refine b1 (fun hc => ?_) (fun hc => hq mI (by rw [hc]; rfl))
  obtain ⟨j, hj, e, hu, ho, ej⟩ := us_j hc
  obtain ⟨hR, hw⟩ := (hO ho).rc j hj hu
  rw [hc, ej] at hq
  simp only [if_true] at hq
  subst e
  generalize vf A j = s at hR hw hq
  have hK := hw.1
  have hal := hw.al
  have hD := h2.1
  have main : ∀ b : Bool, b = decide (aS s = 1) → fx_Go G (3, 47) mm_M_record 30 [(0, fx_r G 85), (1, .int (nI j)), (2, .int v2)] [.int (bI b)] (fx_wI S J) (fx_qi F Q) := by
    intro b hb
    refine bs_M_record_30 hS.w _ _ _ ?_
    refine ⟨fun c => ?_, fun c => ?_, fun c => ?_, fun c => ?_, fun c => ?_, fun c => ?_, fun c => ?_, fun c0 c1 c2 c3 c4 c5 c6 => ?_⟩
    · subst c
      exact cM_byteR hS hD j 0 hR hj (by omega) ⟨hS, hq _ rfl⟩ rfl rfl
    · subst c
      exact cM_byteR hS hD j 1 hR hj (by omega) ⟨hS, hq _ rfl⟩ rfl rfl
    · subst c
      refine cM_wordAt hS hD (64 * j + 2) (by omega) ⟨hS, hq _ ?_⟩ (by first | rfl | (simp (disch := omega) only [nI_lit, nI_ofInt1, nI_ofInt4, nI_ofInt2, nI_ofInt3, mI_neg, wI_I, wI_setI, wI_setR, forall_eq, nI_add, pk_mul, pk_sub, pk_div, pk_rem, nI_clamp, nI_leI, nI_ltI, nI_eq, vin_iff, nar0, nar1, nF_ap, bF_ap, oF_ap, bI_0, bI_1, and255, bu_w, bu_p, bu_90, bu_9, row_w, row_at, nF_up, nI_ofIntm] <;> first | done | omega | (congr 1; omega)))
      rw [hR.w (by have := hw.2.2.1; omega)]; rfl
    · subst c
      exact cM_byteR hS hD j 8 hR hj (by omega) ⟨hS, hq _ rfl⟩ rfl rfl
    · subst c
      refine b0 (fun q => ?_) (fun q => ?_)
      · rw [hb] at q
        have h4 : aK s = 4 := by have := of_decide_eq_false q; omega
        refine cM_listLength hS hD j hR hj hw h4 ⟨hS, hq _ ?_⟩ rfl
        rw [show sz s = (aH s).length by unfold sz; rw [if_neg (by omega)]]; rfl
      · rw [hb] at q
        exact cM_sizeOf hS hD j hR hj hw (of_decide_eq_true q) ⟨hS, hq _ rfl⟩ rfl
    · subst c
      refine b1 (fun q => ?_) (fun q => ?_)
      · rw [hb] at q
        have hs1 := of_decide_eq_true q
        refine cM_isInside hS hD j hR hj hw ⟨hS, ?_⟩ rfl
        refine b0 (fun q2 => hq _ ?_) (fun q2 => hq _ ?_)
        · have : aK s = 3 := by have := of_decide_eq_false q2; omega
          rw [this]; rfl
        · rw [of_decide_eq_true q2]; rfl
      · rw [hb] at q
        have : aK s = 4 := by have := of_decide_eq_false q; omega
        exact hq _ (by rw [this]; rfl)
    · subst c
      refine b0 (fun q => ?_) (fun q => ?_)
      · rw [hb] at q
        have h4 : aK s = 4 := by have := of_decide_eq_false q; omega
        have hnil : aL s = [] := hw.2.2.2.2.2.2.2.2.1 (by omega)
        exact hq _ (by rw [hnil]; rfl)
      · exact cM_runsOf hS hD j hR hj hw ⟨hS, hq _ rfl⟩ rfl
    · refine hq mI ?_
      rw [if_neg (show ¬ v2 = nI 0 from c0), if_neg (show ¬ v2 = nI 1 from c1), if_neg (show ¬ v2 = nI 2 from c2), if_neg (show ¬ v2 = nI 3 from c3), if_neg (show ¬ v2 = nI 4 from c4), if_neg (show ¬ v2 = nI 5 from c5), if_neg (show ¬ v2 = nI 6 from c6)]
  refine cM_byteR hS hD j 0 hR hj (by omega) ⟨hS, ?_⟩ rfl rfl
  rw [show rv s 0 = aS s from rfl]
  simp (disch := omega) only [nI_lit, nI_ofInt1, nI_ofInt4, nI_ofInt2, nI_ofInt3, mI_neg, wI_I, wI_setI, wI_setR, forall_eq, nI_add, pk_mul, pk_sub, pk_div, pk_rem, nI_clamp, nI_leI, nI_ltI, nI_eq, vin_iff, nar0, nar1, nF_ap, bF_ap, oF_ap, bI_0, bI_1, and255, bu_w, bu_p, bu_90, bu_9, row_w, row_at, nF_up, nI_ofIntm]
  refine ⟨fun q => main false (decide_eq_false q).symm, fun q => main true (decide_eq_true q).symm⟩
end MQ
