/-! The class's create, remove, move. -/
theorem ne10 : (1 : Nat) ≠ 0 := by decide
theorem ne20 : (2 : Nat) ≠ 0 := by decide
theorem ne30 : (3 : Nat) ≠ 0 := by decide
theorem up_up {α : Type} (f : Nat → α) (r : Nat) (x y : α) : up (up f r x) r y = up f r y := by
  funext k
  unfold up
  split <;> rfl
theorem up_at {α : Type} (f : Nat → α) (r : Nat) (x : α) : up f r x r = x := by
  unfold up
  rw [if_pos rfl]
theorem up_ne {α : Type} (f : Nat → α) {r k : Nat} (x : α) (h : k ≠ r) : up f r x k = f k := by
  unfold up
  rw [if_neg h]
theorem GK.st {U : Nat → Bool} {g : Nat → AS} (h : GK U g) (r : Nat) (t : AS) (n : Nat) (ht : aS t ≠ 0 → wf (setN t n)) (hf : aS t = 0 → n < 65536 ∧ setN t n = frA n) : GK (up U r (decide (aS t ≠ 0))) (up g r (setN t n)) := by
  intro x hx
  by_cases e : x = r
  · subst e
    rw [up_at, up_at]
    by_cases c : aS t = 0
    · rw [decide_eq_false (fun z => z c)]
      exact ⟨fun z => by (cases z), fun _ => ⟨n, (hf c).1, (hf c).2⟩⟩
    · rw [decide_eq_true c]
      exact ⟨fun _ => ht c, fun z => by (cases z)⟩
  · rw [up_ne _ _ e, up_ne _ _ e]
    exact h x hx
theorem CH.set {I I' : Nat → Nat → Int32} {g : Nat → AS} {cs : List Nat} (h : CH I g) (r : Nat) (hr : r < 12) {s : AS} (hF : FC cs I I') (hc : ∀ a, 4 ≤ a → a < 76 → a < 4 + 6 * r ∨ 4 + 6 * r + 5 < a → a ∉ cs) (hP : ShP I' (4 + 6 * r) s) : CH I' (up g r s) := by
  intro x hx
  by_cases e : x = r
  · subst e
    rw [up_at]
    exact hP
  · rw [up_ne _ _ e]
    exact (h x hx).fc hF (fun a a1 a2 => hc a (by omega) (by omega) (by omega))
theorem CS.off {I : Nat → Nat → Int32} {A B : VS} (h : CS I A) (e : CB I A → CB I B) (hA : vo A = false) (hB : vo B = false) : CS I B := ⟨e h.1, by rw [hB, ← hA]; exact h.2.1, fun ho => by rw [hB] at ho; cases ho⟩
theorem clr_st (A : VS) (r : Nat) (s : AS) : clr (stA A r s) = stA (clr A) r s := rfl
theorem ldN_ne {U : Nat → Bool} {f : Nat → AS} : ∀ (n k : Nat), ldN U f n k → aP (f k) = k → k = 0
  | 0, k, h, _ => h
  | n + 1, k, h, e => by
    unfold ldN at h
    rcases h with h | ⟨_, _, h⟩
    · exact h
    · rw [e] at h
      exact ldN_ne n k h e
theorem hnN_mem {f : Nat → AS} {r : Nat} : ∀ (l : List Nat), hnN f r l = false → r ∉ l
  | [], _ => by simp
  | e :: t, h => by
    unfold hnN at h
    rw [Bool.or_eq_false_iff] at h
    intro q
    rcases List.mem_cons.mp q with q | q
    · have := of_decide_eq_false h.1
      rw [← q] at this
      exact this (ncmp_self _ 8 0)
    · exact hnN_mem t h.2 q
section CC
variable {G : fx_G} {S : fx_S} {I : Nat → Nat → Int32} {Q : fx_R → fx_S → Prop} {A : VS}
theorem cV_storeS {F : fx_S → Prop} (hS : shC S) (hR : fx_roomx S) (hC : CB I A) (h4 : I 0 4 = bI true) (hT : CT I (vT A)) (hB : BI A) (ho : vo A = true) (r : Nat) (hr : r < 12) (t : AS) (n : Nat) (hH : CH I (up (vf A) r (setN t n))) (hn : n = wrd (vD A) (64 * r + 2)) (hs : sok (setN t n)) {v1 : Int32}
    (h1 : stOk (vt A) = false → ∀ J, FC [0, 1, 2, 83, 4 + 6 * r] I J → CS J (stA A r t) → Q (.inr 1) (fx_exc (fx_wI S J)))
    (h2 : stOk (vt A) = true → ∀ J, FC [1, 2, 83, 4 + 6 * r] I J → CS J (stA A r t) → F (fx_wI S J)) (e1 : v1 = nI r) :
    fx_Go G (7, 96) mm_V_store 0 [(0, fx_r G 0), (1, .int v1)] [] (fx_wI S I) (fx_qv F Q) := by
  refine cV_store hS hR hC hB.2.1 hH r hr t n (up_at _ _ _) (by rw [hn]; rfl) (by rw [up_at]; exact hs) (nN_lt hB.1 r) (fun q J hJ hCB h04 => h1 q J hJ ⟨hCB, ?_, fun z => ?_⟩) (fun q J hJ hCB hCH => h2 q J hJ ⟨hCB, ?_, fun _ => ⟨?_, hT.fc hJ (by simp <;> omega)⟩⟩) e1
  · rw [stA_o ho, q]; exact h04
  · rw [stA_o ho, q] at z; cases z
  · rw [stA_o ho, q, hJ 0 (by simp <;> omega)]; exact h4
  · rw [up_up] at hCH
    exact hCH
theorem cV_rf5 {F : Int32 → fx_S → Prop} (hS : shC S) (a : Nat) (ha : isY a) (ha6 : a ≠ 76 ∧ a + 1 ≠ 76) {l : List (Option Nat)} (hl : dlo l) (f : Nat) (hf : f ≤ l.length) : ∀ (n k c : Nat) (T : Nat → Bool) (I : Nat → Nat → Int32) {v2 v3 v4 : Int32}, k + n = l.length → c + n < 1000 → LyP I a l → CT I T →
    (∀ I', FC [a, 76] I I' → LyP I' a (l.take f) → CT I' (clrT T (l.drop k)) → F (nI (c + cntO (l.drop k))) (fx_wI S I')) → v2 = nI f → v3 = nI c → v4 = nI k →
    fx_Go G (1, 14) mm_V_releaseFrom 5 [(0, fx_r G 0), (1, fx_r G a), (2, .int v2), (3, .int v3), (4, .int v4)] [] (fx_wI S I) (fx_qi F Q) := by
  intro n
  induction n with
  | zero =>
    intro k c T I v2 v3 v4 hk hc hL hT hF e2 e3 e4
    subst e2 e3 e4
    have hl63 := hl.1
    refine bs_V_releaseFrom_5 hS.w a _ _ _ ha ?_
    simp only [wI_I, wI_setI, forall_eq, hL.1]
    refine pk_le l.length k (fun _ => ?_) (fun q => by omega) rfl rfl (by omega) (by omega)
    have ed : l.drop k = [] := List.drop_eq_nil_of_le (by omega)
    have em : (if nI f < nI l.length then nI f else nI l.length) = nI f := by
      by_cases q : f < l.length
      · rw [if_pos (nI_lt q (by omega))]
      · rw [if_neg (nI_nlt (by omega) (by omega)), show f = l.length by omega]
    rw [em]
    have hw : FC [a, 76] I (fx_w I a 1 (nI f)) := FC.w [a, 76] I a _ _ (by simp <;> omega)
    have := hF _ hw ⟨?_, fun j hj => ?_⟩ ?_
    · rw [ed] at this
      exact this
    · rw [fw_at, List.length_take]
      congr 1
      omega
    · rw [List.length_take] at hj
      rw [fw_ne (by omega), hL.2 j (by omega), go_take _ _ _ (by omega)]
    · rw [ed]
      intro x hx
      rw [fw_ne (Ne.symm ha6.1), hT x hx]
      unfold clrT
      simp
  | succ n ih =>
    intro k c T I v2 v3 v4 hk hc hL hT hF e2 e3 e4
    subst e2 e3 e4
    have hl63 := hl.1
    have ed := dropO l k (by omega)
    refine bs_V_releaseFrom_5 hS.w a _ _ _ ha ?_
    simp only [wI_I, wI_setI, forall_eq, hL.1]
    refine pk_le l.length k (fun q => by omega) (fun _ => ?_) rfl rfl (by omega) (by omega)
    rw [nI_clamp (n := k) (by omega), hL.2 k (by omega)]
    refine ⟨pk_in k 63 (by omega) rfl, ?_⟩
    refine cV_isDataCluster hS (go l k) (fun c e => by have := hl.g _ _ e; omega) ⟨hS, ?_⟩ rfl
    cases hg : go l k with
    | none =>
      rw [hg] at ed
      refine b0 (fun _ => ?_) (fun q => by cases q)
      refine ih (k + 1) c T I (by omega) (by omega) hL hT (fun I' hF' hL' hT' => ?_) rfl rfl (by first | rfl | (simp (disch := omega) only [nI_lit, nI_ofInt1, nI_ofInt4, nI_ofInt2, nI_ofInt3, mI_neg, wI_I, wI_setI, wI_setR, forall_eq, nI_add, pk_mul, pk_sub, pk_div, pk_rem, nI_clamp, nI_leI, nI_ltI, nI_eq, vin_iff, nar0, nar1, nF_ap, bF_ap, oF_ap, bI_0, bI_1, and255, bu_w, bu_p, bu_90, bu_9, row_w, row_at, nF_up, nI_ofIntm] <;> first | done | omega | (congr 1; omega)))
      have := hF I' hF' hL'
      rw [ed] at this
      have e1 : clrT T (none :: l.drop (k + 1)) = clrT T (l.drop (k + 1)) := by
        funext x
        unfold clrT
        simp
      have e2 : cntO (none :: l.drop (k + 1)) = cntO (l.drop (k + 1)) := rfl
      rw [e1, e2] at this
      exact this hT'
    | some e =>
      rw [hg] at ed
      have he := hl.g _ _ hg
      refine b0 (fun q => ?_) (fun _ => ?_)
      · rw [dcl_t he.1 he.2] at q
        cases q
      · simp only [wI_I, wI_setI, forall_eq]
        rw [hL.2 k (by omega), hg]
        refine ⟨pk_in k 63 (by omega) rfl, pk_in e 128 he.2 rfl, ?_⟩
        rw [show (oI (some e)).toNatClampNeg = e from nI_clamp (by omega)]
        have hw : FC [76] I (fx_w I 76 e (vp_nar .boolean 0)) := FC.w [76] I 76 _ _ (by simp <;> omega)
        refine ih (k + 1) (c + 1) (up T e false) _ (by omega) (by omega) (hL.fc hw (by simp <;> omega) (by simp <;> omega)) (fun x hx => ?_) (fun I' hF' hL' hT' => ?_) rfl (by first | rfl | (simp (disch := omega) only [nI_lit, nI_ofInt1, nI_ofInt4, nI_ofInt2, nI_ofInt3, mI_neg, wI_I, wI_setI, wI_setR, forall_eq, nI_add, pk_mul, pk_sub, pk_div, pk_rem, nI_clamp, nI_leI, nI_ltI, nI_eq, vin_iff, nar0, nar1, nF_ap, bF_ap, oF_ap, bI_0, bI_1, and255, bu_w, bu_p, bu_90, bu_9, row_w, row_at, nF_up, nI_ofIntm] <;> first | done | omega | (congr 1; omega))) (by first | rfl | (simp (disch := omega) only [nI_lit, nI_ofInt1, nI_ofInt4, nI_ofInt2, nI_ofInt3, mI_neg, wI_I, wI_setI, wI_setR, forall_eq, nI_add, pk_mul, pk_sub, pk_div, pk_rem, nI_clamp, nI_leI, nI_ltI, nI_eq, vin_iff, nar0, nar1, nF_ap, bF_ap, oF_ap, bI_0, bI_1, and255, bu_w, bu_p, bu_90, bu_9, row_w, row_at, nF_up, nI_ofIntm] <;> first | done | omega | (congr 1; omega)))
        · by_cases q : x = e
          · subst q
            rw [fw_at, up_at]
            rfl
          · rw [fw_nj q, up_ne _ _ q]
            exact hT x hx
        · have := hF I' ((hw.mono (fun a ha => by simp at ha ⊢ <;> omega)).tr hF') hL'
          rw [ed] at this
          have e1 : clrT T (some e :: l.drop (k + 1)) = clrT (up T e false) (l.drop (k + 1)) := by
            funext x
            unfold clrT up
            by_cases q : x = e
            · subst q
              simp
            · simp [q]
          have e2 : c + cntO (some e :: l.drop (k + 1)) = c + 1 + cntO (l.drop (k + 1)) := by
            unfold cntO
            simp only [List.filter_cons, Option.isSome_some, if_true, List.length_cons]
            omega
          rw [e1, e2] at this
          exact this hT'
theorem cV_releaseFrom {F : Int32 → fx_S → Prop} (hS : shC S) (a : Nat) (ha : isY a) (ha6 : a ≠ 76 ∧ a + 1 ≠ 76) {l : List (Option Nat)} (hl : dlo l) (f : Nat) (hf : f ≤ l.length) {T : Nat → Bool} (hL : LyP I a l) (hT : CT I T) {v2 : Int32}
    (hF : ∀ I', FC [a, 76] I I' → LyP I' a (l.take f) → CT I' (clrT T (l.drop f)) → F (nI (cntO (l.drop f))) (fx_wI S I')) (e2 : v2 = nI f) : fx_Go G (1, 14) mm_V_releaseFrom 0 [(0, fx_r G 0), (1, fx_r G a), (2, .int v2)] [] (fx_wI S I) (fx_qi F Q) := by
  have hl63 := hl.1
  refine bs_V_releaseFrom_0 hS.w a _ ha ?_
  exact cV_rf5 hS a ha ha6 hl f hf (l.length - f) f 0 T I (by omega) (by omega) hL hT (fun I' h1 h2 h3 => by rw [Nat.zero_add]; exact hF I' h1 h2 h3) e2 rfl e2
theorem cV_create {F : Int32 → fx_S → Prop} (hS : shC S) (hR : fx_roomx S) (hC : CS I A) (hB : BI A) (hO : vo A = true → OI A) (v1 : Int32) (isF : Bool) {v2 : Int32}
    (h0 : (sCre A v1 isF).1 = 0 → ∀ I', LC I I' → CS I' (sCre A v1 isF).2.2 → F (sCre A v1 isF).2.1 (fx_wI S I'))
    (h1 : (sCre A v1 isF).1 ≠ 0 → ∀ I', LC I I' → CS I' (sCre A v1 isF).2.2 → Q (.inr (sCre A v1 isF).1) (fx_exc (fx_wI S I'))) (e2 : v2 = bI isF) :
    fx_Go G (8, 109) mm_V_create 0 [(0, fx_r G 0), (1, .int v1), (2, .int v2)] [] (fx_wI S I) (fx_qi F Q) := by
  subst e2
  unfold sCre at h0 h1
  refine bs_V_create_0 hS.w _ _ ?_
  refine cN_copyFrom hS 79 77 isN_given isN_draft (by omega) hC.1.2.2 hB.2.2.1 (fun I1 hF1 hN1 => ⟨hS, ?_⟩)
  refine cN_clear hS 77 isN_draft (fun I2 hF2 hN2 => ⟨hS, ?_⟩)
  have hF12 : FC [77, 79, 80] I I2 := (hF1.mono (fun a ha => by simp at ha ⊢ <;> omega)).tr (hF2.mono (fun a ha => by simp at ha ⊢ <;> omega))
  have hL2 : LC I I2 := hF12.lc (fun a ha => by simp at ha <;> omega)
  have hG2 : NmP I2 79 (vl A) := hN1.fc hF2 (by simp <;> omega) (by simp <;> omega)
  have hC2 : CS I2 (clr A) := by
    refine ⟨⟨by rw [hF12 2 (by simp <;> omega)]; exact hC.1.1, by rw [hF12 1 (by simp <;> omega)]; exact hC.1.2.1, hN2⟩, by rw [hF12 0 (by simp <;> omega)]; exact hC.2.1, fun ho => ?_⟩
    obtain ⟨g1, g2⟩ := hC.2.2 ho
    exact ⟨g1.fc hF12 (fun a a1 a2 => by simp <;> omega), g2.fc hF12 (by simp <;> omega)⟩
  clear hF1 hF2 hN1
  refine cV_requireRunning hS hR hC2.2.1 (fun q => ?_) (fun ho => ⟨hS, ?_⟩)
  · have q' : vo A = false := q
    have e : sMk A v1 isF = (1, nI 0, A) := by unfold sMk; rw [if_pos q']
    rw [e] at h1
    exact h1 ne10 I2 hL2 hC2
  · have ho' : vo A = true := ho
    have hOA := hO ho'
    have hK := hOA.gk hB
    obtain ⟨hH2, hT2⟩ := hC2.2.2 ho
    have hH2' : CH I2 (vf A) := hH2
    have hT2' : CT I2 (vT A) := hT2
    have hb : ∀ (o : Bool), (o = true ↔ uk A v1 2 = true ∧ (vl A).length ≠ 0 ∧ fdN (vf A) (vl A) (aH (vf A v1.toNatClampNeg)) = mI) → fx_Go G (8, 109) mm_V_create 58 [(0, fx_r G 0), (1, .int v1), (2, .int (bI isF))] [.int (bI o)] (fx_wI S I2) (fx_qi F Q) := by
      intro o hoo
      refine bs_V_create_58 hS.w _ _ _ ?_
      refine cV_require hS hR (fun q => ?_) (fun q => ⟨hS, ?_⟩) rfl
      · have e : sMk A v1 isF = (2, nI 0, A) := by
          unfold sMk
          rw [if_neg (by rw [ho']; decide), if_neg (fun z => by rw [hoo.mpr z] at q; cases q)]
        rw [e] at h1
        exact h1 ne20 I2 hL2 hC2
      · have hc := hoo.mp q
        obtain ⟨d, hd, ed, hud, _, ec, hs2⟩ := uk_j hc.1
        subst ed
        rw [ec] at hc
        refine cV_lowestFreeRecord hS hK hH2' ⟨hS, ?_⟩
        have es : sMk A (nI d) isF = (match lowF (vU A) 12 0 with
          | none => (3, nI 0, A)
          | some r => let A1 := stA A r (newS isF d (vl A))
            if stOk (vt A) = false then (1, nI 0, A1)
            else let A2 := lst A1 d (insL A1 d r)
              if stOk (vt A1) = false then (1, nI 0, A2) else (0, nI r, A2)) := by
          unfold sMk
          rw [if_neg (by rw [ho']; decide), ec, if_pos hc]
          all_goals rfl
        rw [es] at h0 h1
        cases hlf : lowF (vU A) 12 0 with
        | none =>
          rw [hlf] at h1
          exact ⟨fun q3 => absurd rfl q3, fun _ => ⟨hR, h1 ne30 I2 hL2 hC2⟩⟩
        | some r =>
          rw [hlf] at h0 h1
          simp only at h0 h1
          obtain ⟨_, hr, hur⟩ := lowF_T _ _ _ _ hlf
          have hr' : r < 12 := by omega
          have hrd : d ≠ r := fun z => by rw [z, hur] at hud; cases hud
          have hn0 := wrd_lt hB.1 (64 * r + 2)
          have hfr : vf A r = frA (wrd (vD A) (64 * r + 2)) := hOA.2.1 r hr' hur
          have hnw : wf (setN (newS isF d (vl A)) (wrd (vD A) (64 * r + 2))) := newS_wf isF hd hn0 hB.2.2.1 hB.2.2.2
          have hnw2 : wf (setN (newS isF d (vl A)) (nN (vD A) r)) := newS_wf isF hd (nN_lt hB.1 r) hB.2.2.1 hB.2.2.2
          have hh := isH_at r hr'
          have hrc := hOA.rc
          have rest : fx_Go G (8, 109) mm_V_create 96 [(0, fx_r G 0), (1, .int (nI d)), (3, .int (nI r))] [.int (nI (if isF = true then 1 else 2)), fx_r G (4 + 6 * r)] (fx_wI S I2) (fx_qi F Q) := by
            refine bs_V_create_96 hS.w _ _ _ _ hh ?_
            refine cH_become hS (4 + 6 * r) hh (if isF = true then 1 else 2) d (wrd (vD A) (64 * r + 2)) (by split <;> omega) (by rw [(hH2' r hr').2.2.1, hfr]; rfl) (fun I3 hF3 hP3 => ⟨hS, pk_in r 12 hr' rfl, ?_⟩) rfl rfl
            rw [nI_clamp (by omega)]
            refine cN_copyFrom hS (4 + 6 * r + 1) 79 hh.n isN_given (by omega) (hG2.fc hF3 (by simp <;> omega) (by simp <;> omega)) hB.2.2.1 (fun I4 hF4 hN4 => ⟨hS, ?_⟩)
            have hF34 : FC [4 + 6 * r, 4 + 6 * r + 1, 4 + 6 * r + 2, 4 + 6 * r + 4] I2 I4 := (hF3.mono (fun a ha => by simp at ha ⊢ <;> omega)).tr (hF4.mono (fun a ha => by simp at ha ⊢ <;> omega))
            have hP4 : ShP I4 (4 + 6 * r) (setN (newS isF d (vl A)) (wrd (vD A) (64 * r + 2))) := by
              obtain ⟨p1, p2, p3, p4, p5, p6, p7, p8⟩ := hP3
              have e4 := hF4 (4 + 6 * r) (by simp <;> omega)
              refine ⟨by rw [e4]; exact p1, by rw [e4]; exact p2, by rw [e4]; exact p3, ?_, ?_, hN4, fun j hj => absurd hj (Nat.not_lt_zero _), p8.fc hF4 (by simp <;> omega) (by simp <;> omega)⟩
              · rw [e4, p4]
                cases isF <;> rfl
              · rw [e4, p5]
                cases isF <;> rfl
            have hH4 : CH I4 (up (vf (clr A)) r (setN (newS isF d (vl A)) (wrd (vD A) (64 * r + 2)))) := hH2'.set r hr' hF34 (fun a a1 a2 a3 => by simp <;> omega) hP4
            have hBc : BI (clr A) := ⟨hB.1, hB.2.1, by show 0 ≤ 8; omega, fun x hx => by cases hx⟩
            refine cV_storeS hS hR (A := clr A) (hC2.1.fc hF34 (by simp <;> omega) (by simp <;> omega) (by simp <;> omega) (by simp <;> omega)) (by rw [hF34 0 (by simp <;> omega), hC2.2.1, ho]) (hT2.fc hF34 (by simp <;> omega)) hBc ho r hr' (newS isF d (vl A)) _ hH4 rfl hnw.sok (fun q J hJ hCJ => ?_) (fun q J hJ hCJ => ⟨hS, ?_⟩) rfl
            · have q' : stOk (vt A) = false := q
              rw [if_pos q'] at h1
              exact h1 ne10 J (hL2.tr ((hF34.lc (fun a ha => by simp at ha <;> omega)).tr (hJ.lc (fun a ha => by simp at ha <;> omega)))) hCJ
            · have q' : stOk (vt A) = true := q
              rw [if_neg (by rw [q']; decide)] at h0 h1
              have hLJ : LC I J := hL2.tr ((hF34.lc (fun a ha => by simp at ha <;> omega)).tr (hJ.lc (fun a ha => by simp at ha <;> omega)))
              have hoJ : vo (stA (clr A) r (newS isF d (vl A))) = true := by rw [stA_o ho]; exact q
              obtain ⟨hHJ, hTJ⟩ := hCJ.2.2 hoJ
              have hB1 : BI (stA (clr A) r (newS isF d (vl A))) := hBc.st r _ (enc_wf_lt (nN_lt hB.1 r) hnw2)
              have hrc1 : Recs (vD (stA (clr A) r (newS isF d (vl A)))) (vU (stA (clr A) r (newS isF d (vl A)))) (vf (stA (clr A) r (newS isF d (vl A)))) := RecsA (A := clr A) hrc q (fun _ => hnw2)
              have hns0 : aS (newS isF d (vl A)) ≠ 0 := by
                cases isF
                · exact ne20
                · exact ne10
              have hK1 : GK (vU (stA (clr A) r (newS isF d (vl A)))) (vf (stA (clr A) r (newS isF d (vl A)))) := GK.st hK r _ _ (fun _ => hnw2) (fun z => absurd z hns0)
              have efd := stA_f (A := clr A) (s := newS isF d (vl A)) hrd
              have hud1 : vU (stA (clr A) r (newS isF d (vl A))) d = true := by rw [efd.2]; exact hud
              have hsd1 : aS (vf (stA (clr A) r (newS isF d (vl A))) d) = 2 := by rw [efd.1]; exact hs2
              have hl11 : (aH (vf (stA (clr A) r (newS isF d (vl A))) d)).length ≤ 11 := by rw [efd.1]; exact hOA.l11 hd hud hs2
              have hwd1 := (hK1 d hd).1 hud1
              have hxd1 : ∀ x ∈ insL (stA (clr A) r (newS isF d (vl A))) d r, x < 12 := by
                intro x hx
                rcases insA_mem hx with hx | hx
                · rw [hx]; exact hr'
                · exact hwd1.2.2.2.2.2.2.2.1 (hwd1.k4 hsd1) x hx
              have hil : (insL (stA (clr A) r (newS isF d (vl A))) d r).length ≤ 12 := by
                unfold insL
                rw [insA_len _ _ _ (ipos_le _ _ _)]
                omega
              have hn1 : aN (vf (stA (clr A) r (newS isF d (vl A))) d) = wrd (vD (stA (clr A) r (newS isF d (vl A)))) (64 * d + 2) := ((hrc1 d hd hud1).1.w hwd1.2.2.1).symm
              refine cV_enter hS hK1 hHJ d r hd hud1 hsd1 hr' (by omega) rfl (fun I5 hF5 hH5 => ⟨hS, ?_⟩) rfl rfl
              refine cV_storeS hS hR (hCJ.1.fc hF5 (by simp <;> omega) (by simp <;> omega) (by simp <;> omega) (by simp <;> omega)) (by rw [hF5 0 (by simp <;> omega), hCJ.2.1, hoJ]) (hTJ.fc hF5 (by simp <;> omega)) hB1 hoJ d hd _ _ hH5 hn1 (sLi_wf hwd1 (by rw [hn1]; exact wrd_lt hB1.1 _) hil hxd1).sok (fun q2 K hK' hCK => ?_) (fun q2 K hK' hCK => ⟨hS, ?_⟩) rfl
              · have q2' : stOk (vt (stA A r (newS isF d (vl A)))) = false := q2
                rw [if_pos q2'] at h1
                exact h1 ne10 K (hLJ.tr ((hF5.lc (fun a ha => by simp at ha <;> omega)).tr (hK'.lc (fun a ha => by simp at ha <;> omega)))) hCK
              · have q2' : stOk (vt (stA A r (newS isF d (vl A)))) = true := q2
                rw [if_neg (by rw [q2']; decide)] at h0
                exact h0 rfl K (hLJ.tr ((hF5.lc (fun a ha => by simp at ha <;> omega)).tr (hK'.lc (fun a ha => by simp at ha <;> omega)))) hCK
          refine ⟨fun _ => ⟨pk_in r 12 hr' rfl, ?_⟩, fun z => absurd z.symm (mI_ne r (by omega))⟩
          rw [show (oI (some r)).toNatClampNeg = r from nI_clamp (by omega)]
          refine b0 (fun q3 => ?_) (fun q3 => ?_)
          · rw [q3] at rest
            exact rest
          · rw [q3] at rest
            exact rest
    refine cV_isDirectory hS hK hH2' v1 ⟨hS, ?_⟩
    rw [← uk_on ho']
    refine b0 (fun q => ?_) (fun q => ?_)
    · exact hb false ⟨fun z => (by cases z), fun z => by rw [q] at z; cases z.1⟩
    · obtain ⟨d, hd, ed, hud, _, ec, hs2⟩ := uk_j q
      have h8 := hB.2.2.1
      simp only [wI_I]
      rw [hG2.1]
      refine pk_le (vl A).length 0 (fun q2 => ?_) (fun q2 => ?_) rfl rfl (by omega) (by omega)
      · exact hb false ⟨fun z => (by cases z), fun z => absurd z.2.1 (by omega)⟩
      · refine cV_entryNamed hS hK hH2' 79 isN_given hG2 hB.lok d hd hud hs2 ⟨hS, fun q3 => ?_, fun q3 => ?_⟩ ed
        · exact hb false ⟨fun z => (by cases z), fun z => absurd (by rw [ec] at z; exact z.2.2) q3⟩
        · exact hb true ⟨fun _ => ⟨q, by omega, by rw [ec]; exact q3⟩, fun _ => rfl⟩
end CC
