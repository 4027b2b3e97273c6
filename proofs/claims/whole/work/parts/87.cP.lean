/-! The class's plan, and what lies outside. -/
def nds (s : AS) (a n i : Nat) : Bool := mts i a (a + n) || mts i 0 (lay s)
theorem frs_nds (s : AS) (N a n i : Nat) : frs (pad s N) (lay s) a n i = ((go (aL s) i).isNone && nds s a n i) := by
  unfold frs nds
  rw [pad_go]
section CP
variable {G : fx_G} {S : fx_S} {I : Nat → Nat → Int32} {Q : fx_R → fx_S → Prop} {A : VS}
theorem cV_nc25 {F : Int32 → fx_S → Prop} (hS : shC S) (h : Nat) (hh : isH h) {s : AS} (hP : ShP I h s) (hw : wf s) (i : Nat) (hi : i < 1000) (o : Bool) {v1 z0 : Int32} (hF : F (bI (o || mts i 0 (lay s))) (fx_wI S I)) (e1 : v1 = nI i) (e0 : z0 = bI o) :
    fx_Go G (1, 13) mm_V_needsCluster 25 [(0, fx_r G h), (1, .int v1)] [.int z0] (fx_wI S I) (fx_qi F Q) := by
  subst e1 e0
  have hka := hw.ka
  have hsl := hw.szl
  refine bs_V_needsCluster_25 hS.w h _ _ hh ?_
  refine b1 (fun q => ?_) (fun q => ?_)
  · rw [q] at hF
    exact hF
  · rw [q, Bool.false_or] at hF
    simp only [wI_I]
    rw [hP.2.2.2.1, hP.2.2.2.2.1]
    unfold mts lay at hF
    refine ne_pair (pk_eq (aK s) 2 (fun q2 => ?_) (fun q2 => ?_) rfl rfl (by omega) (by omega))
    · rw [if_pos q2] at hF
      refine cV_clustersFor hS (sz s) (by omega) ⟨hS, ?_⟩ rfl
      refine pk_le ((sz s + 15) / 16) i (fun q3 => ?_) (fun q3 => ?_) rfl rfl (by omega) (by omega)
      · rw [decide_eq_false (p := 16 * i < sz s) (by omega)] at hF
        exact hF
      · rw [decide_eq_true (p := 16 * i < sz s) (by omega), decide_eq_true (p := 0 < 16 * i + 16) (by omega)] at hF
        exact hF
    · rw [if_neg q2, decide_eq_false (p := 16 * i < 0) (by omega)] at hF
      exact hF
theorem cV_needsCluster {F : Int32 → fx_S → Prop} (hS : shC S) (h : Nat) (hh : isH h) {s : AS} (hP : ShP I h s) (hw : wf s) (i a n : Nat) (hi : i < 1000) (ha : a ≤ 1000) (hn : 1 ≤ n) (hn2 : n ≤ 60) {v1 v2 v3 : Int32} (hF : F (bI (nds s a n i)) (fx_wI S I)) (e1 : v1 = nI i) (e2 : v2 = nI a) (e3 : v3 = nI n) :
    fx_Go G (1, 13) mm_V_needsCluster 0 [(0, fx_r G h), (1, .int v1), (2, .int v2), (3, .int v3)] [] (fx_wI S I) (fx_qi F Q) := by
  subst e1 e2 e3
  have a1 : nI a / 16 = nI (a / 16) := by rw [show (16 : Int32) = nI 16 from rfl, pk_div (by omega) (by omega) (by omega)]
  have a2 : (nI a + nI n - 1) / 16 = nI ((a + n - 1) / 16) := by rw [show (16 : Int32) = nI 16 from rfl, show (1 : Int32) = nI 1 from rfl, nI_add, pk_sub (by omega), pk_div (by omega) (by omega) (by omega)]
  have go25 : ∀ o : Bool, o = mts i a (a + n) → fx_Go G (1, 13) mm_V_needsCluster 25 [(0, fx_r G h), (1, .int (nI i))] [.int (bI o)] (fx_wI S I) (fx_qi F Q) := by
    intro o ho
    refine cV_nc25 hS h hh hP hw i hi o ?_ rfl rfl
    rw [ho]
    exact hF
  refine bs_V_needsCluster_0 hS.w h _ _ _ hh ?_
  rw [a1, a2]
  refine pk_lt i (a / 16) (fun q => go25 false ?_) (fun q => ?_) rfl rfl (by omega) (by omega)
  · unfold mts
    rw [decide_eq_false (p := a < 16 * i + 16) (by omega), Bool.and_false]
  · refine pk_lt ((a + n - 1) / 16) i (fun q2 => go25 false ?_) (fun q2 => go25 true ?_) rfl rfl (by omega) (by omega)
    · unfold mts
      rw [decide_eq_false (p := 16 * i < a + n) (by omega), Bool.false_and]
    · unfold mts
      rw [decide_eq_true (p := 16 * i < a + n) (by omega), decide_eq_true (p := a < 16 * i + 16) (by omega)]
      rfl
theorem cV_mp15 {F : Int32 → fx_S → Prop} (hS : shC S) (h : Nat) (hh : isH h) (h6 : h + 5 < 76) {s : AS} (hP : ShP I h s) (hw : wf s) {T : Nat → Bool} (hT : CT I T) (a n z : Nat) (ha : a ≤ 1000) (hn : 1 ≤ n) (hn2 : n ≤ 60) (hz : z ≤ 1000) :
    ∀ (m i x : Nat) (acc : List (Option Nat)) (J : Nat → Nat → Int32) {v5 v6 : Int32}, i + m = (z + 15) / 16 → acc.length = i → (∀ c, some c ∈ acc → c < 256) → 48 ≤ x → x ≤ 128 → FC [81, 82] I J → LyP J 81 acc →
    (cpl (fun j => (go (aL s) j).isNone && nds s a n j) (go (aL s)) T m i x = none → ∀ K, FC [81, 82] I K → F (bI false) (fx_wI S K)) →
    (∀ l K, cpl (fun j => (go (aL s) j).isNone && nds s a n j) (go (aL s)) T m i x = some l → FC [81, 82] I K → LyP K 81 (acc ++ l) → F (bI (decide ((nmA (aM s)).length + (5 + (rn 48 (acc ++ l)).length) ≤ 54))) (fx_wI S K)) →
    v5 = nI x → v6 = nI i →
    fx_Go G (2, 29) mm_V_makePlan 15 [(0, fx_r G 0), (1, fx_r G h), (2, .int (nI a)), (3, .int (nI n)), (4, .int (nI z)), (5, .int v5), (6, .int v6)] [] (fx_wI S J) (fx_qi F Q) := by
  intro m
  induction m with
  | zero =>
    intro i x acc J v5 v6 hi hal hac h48 h128 hJ hL h1 h2 e5 e6
    subst e5 e6
    refine bs_V_makePlan_15 hS.w h _ _ _ _ _ hh ?_
    refine cV_clustersFor hS z (by omega) ⟨hS, ?_⟩ rfl
    refine pk_le ((z + 15) / 16) i (fun _ => ?_) (fun q => by omega) rfl rfl (by omega) (by omega)
    refine cH_nameBytes hS h hh (hP.2.2.2.2.2.1.fc hJ (by simp <;> omega) (by simp <;> omega)) hw.nl ⟨hS, ?_⟩
    refine cY_attributeBytes hS 81 isY_plan hL ⟨by omega, hac⟩ ⟨hS, ?_⟩
    have := h2 [] J rfl hJ (by rw [List.append_nil]; exact hL)
    rw [List.append_nil] at this
    have hnl : (nmA (aM s)).length ≤ 10 := by
      have := hw.nl
      rw [nmA_len]
      split <;> omega
    have hrl := rn_len acc.length 48 acc
    change (rn 48 acc).length ≤ _ at hrl
    rw [nI_add]
    refine pk_lt 54 ((nmA (aM s)).length + (5 + (rn 48 acc).length)) (fun q => ?_) (fun q => ?_) rfl rfl (by omega) (by omega)
    · rw [decide_eq_false (by omega)] at this
      exact this
    · rw [decide_eq_true (by omega)] at this
      exact this
  | succ m ih =>
    intro i x acc J v5 v6 hi hal hac h48 h128 hJ hL h1 h2 e5 e6
    subst e5 e6
    have hdl := hw.dl
    have hPJ : ShP J h s := hP.fc hJ (fun b b1 b2 => by simp <;> omega)
    have hTJ : CT J T := hT.fc hJ (by simp <;> omega)
    have app : ∀ (y : Option Nat) (x' : Nat), (∀ c, y = some c → c < 256) → 48 ≤ x' → x' ≤ 128 → cpl (fun j => (go (aL s) j).isNone && nds s a n j) (go (aL s)) T (m + 1) i x = (match cpl (fun j => (go (aL s) j).isNone && nds s a n j) (go (aL s)) T m (i + 1) x' with
          | some l => some (y :: l)
          | none => none) →
        fx_Go G (0, 0) mm_Y_append 0 [(0, fx_r G 81), (1, .int (oI y)), (2, .int 1)] [] (fx_wI S J) (fx_qv (fun S12 => shC S12 ∧ fx_Go G (2, 29) mm_V_makePlan 15 [(0, fx_r G 0), (1, fx_r G h), (2, .int (nI a)), (3, .int (nI n)), (4, .int (nI z)), (5, .int (nI x')), (6, .int (nI i + Int32.ofInt 1))] [] S12 (fx_qi F Q)) (fx_qi F Q)) := by
      intro y x' hy h48' h128' hcp
      refine cY_append hS 81 isY_plan hL y 1 hy (by omega) (fun K hF hLK => ⟨hS, ?_⟩) rfl rfl
      have er : acc ++ runO y 1 = acc ++ [y] := by
        unfold runO
        cases y <;> rfl
      rw [er] at hLK
      refine ih (i + 1) x' (acc ++ [y]) K (by omega) (by simp <;> omega) (fun c hc => ?_) h48' h128' (hJ.tr hF) hLK (fun hl L hL' => h1 (by rw [hcp, hl]) L hL') (fun l L hl hL' hLL => ?_) rfl (by first | rfl | (simp (disch := omega) only [nI_lit, nI_ofInt1, nI_ofInt4, nI_ofInt2, nI_ofInt3, mI_neg, wI_I, wI_setI, wI_setR, forall_eq, nI_add, pk_mul, pk_sub, pk_div, pk_rem, nI_clamp, nI_leI, nI_ltI, nI_eq, vin_iff, nar0, nar1, nF_ap, bF_ap, oF_ap, bI_0, bI_1, and255, bu_w, bu_p, bu_90, bu_9, row_w, row_at, nF_up, nI_ofIntm] <;> first | done | omega | (congr 1; omega)))
      · rcases List.mem_append.mp hc with hc | hc
        · exact hac c hc
        · exact hy c (List.mem_singleton.mp hc).symm
      · have := h2 (y :: l) L (by rw [hcp, hl]) hL' (by rw [List.append_assoc] at hLL; exact hLL)
        rw [List.append_assoc]
        exact this
    refine bs_V_makePlan_15 hS.w h _ _ _ _ _ hh ?_
    refine cV_clustersFor hS z (by omega) ⟨hS, ?_⟩ rfl
    refine pk_le ((z + 15) / 16) i (fun q => by omega) (fun _ => ?_) rfl rfl (by omega) (by omega)
    refine cY_placeOf hS (h + 4) hh.y hPJ.2.2.2.2.2.2.2 hdl.1 i (by omega) ⟨hS, ?_⟩ rfl
    cases hg : go (aL s) i with
    | some c =>
      have hc := hdl.g _ _ hg
      refine ⟨fun _ => ?_, fun q => absurd q.symm (mI_ne c (by omega))⟩
      refine app (some c) x (fun e he => by cases he; omega) h48 h128 ?_
      show (if ((go (aL s) i).isNone && nds s a n i) = true then _ else _) = _
      rw [hg, if_neg (by simp)]
      all_goals rfl
    | none =>
      refine ⟨fun q => absurd rfl q, fun _ => ?_⟩
      refine cV_needsCluster hS h hh hPJ hw i a n (by omega) ha hn hn2 ⟨hS, ?_⟩ rfl rfl rfl
      refine b0 (fun q => ?_) (fun q => ?_)
      · refine app none x (fun e he => by cases he) h48 h128 ?_
        show (if ((go (aL s) i).isNone && nds s a n i) = true then _ else _) = _
        rw [hg, q, if_neg (by simp)]
        all_goals rfl
      · refine cV_lowestFreeCluster hS hTJ x h128 ⟨hS, ?_⟩ rfl
        cases hlf : lowF T (128 - x) x with
        | none =>
          refine ⟨fun q2 => absurd rfl q2, fun _ => h1 ?_ J hJ⟩
          show (if ((go (aL s) i).isNone && nds s a n i) = true then (match lowF T (128 - x) x with
            | some c => (match cpl (fun j => (go (aL s) j).isNone && nds s a n j) (go (aL s)) T m (i + 1) (c + 1) with
              | some l => some (some c :: l)
              | none => none)
            | none => none) else _) = _
          rw [hg, q, if_pos (by rfl), hlf]
        | some c =>
          obtain ⟨c1, c2, c3⟩ := lowF_T _ _ _ _ hlf
          refine ⟨fun _ => ?_, fun q2 => absurd q2.symm (mI_ne c (by omega))⟩
          rw [show oI (some c) + 1 = nI (c + 1) from nI_1 c]
          refine app (some c) (c + 1) (fun e he => by cases he; omega) (by omega) (by omega) ?_
          show (if ((go (aL s) i).isNone && nds s a n i) = true then (match lowF T (128 - x) x with
            | some c => (match cpl (fun j => (go (aL s) j).isNone && nds s a n j) (go (aL s)) T m (i + 1) (c + 1) with
              | some l => some (some c :: l)
              | none => none)
            | none => none) else _) = _
          rw [hg, q, if_pos (by rfl), hlf]
theorem cV_tp2 {F : fx_S → Prop} (hS : shC S) {pl : List (Option Nat)} (hd : dlo pl) (hj : inj pl) (fr : Nat → Bool) (T : Nat → Bool) (hfr : ∀ i c, go pl i = some c → (fr i = true → T c = false) ∧ (fr i = false → T c = true)) (D : Nat → Nat)
    (hF : ∀ J D' T', FC [2, 76] I J → J 2 = nF D' → CT J T' → Eff pl (fun k => if fr (k / 16) = true then some 0 else none) D D' → (∀ c, T' c = true ↔ T c = true ∨ some c ∈ pl) → F (fx_wI S J)) :
    ∀ (m i : Nat) (J : Nat → Nat → Int32) (D' : Nat → Nat) (T' : Nat → Bool) {v1 : Int32}, i + m = pl.length → FC [2, 76] I J → LyP I 81 pl → J 2 = nF D' → CT J T' → Eff pl (fun k => if k / 16 < i ∧ fr (k / 16) = true then some 0 else none) D D' → (∀ c, T' c = true ↔ T c = true ∨ ∃ j, j < i ∧ go pl j = some c) → v1 = nI i →
    fx_Go G (3, 45) mm_V_takePlanned 2 [(0, fx_r G 0), (1, .int v1)] [] (fx_wI S J) (fx_qv F Q) := by
  intro m
  have h63 := hd.1
  induction m with
  | zero =>
    intro i J D' T' v1 hi hJ hL0 hD hT hE hT' e1
    subst e1
    have hL : LyP J 81 pl := hL0.fc hJ (by simp <;> omega) (by simp <;> omega)
    refine bs_V_takePlanned_2 hS.w _ ?_
    rw [wI_I, hL.1]
    refine pk_le pl.length i (fun _ => ?_) (fun q => by omega) rfl rfl (by omega) (by omega)
    refine hF J D' T' hJ hD hT (hE.cg (fun k c hk => ?_)) (fun c => ?_)
    · have : k / 16 < pl.length := Nat.not_le.mp (fun z => by rw [go_out z] at hk; cases hk)
      by_cases q : fr (k / 16) = true
      · rw [if_pos ⟨by omega, q⟩, if_pos q]
      · rw [if_neg (fun z => q z.2), if_neg q]
    · rw [hT' c]
      refine ⟨fun q => ?_, fun q => ?_⟩
      · rcases q with q | ⟨j, j1, j2⟩
        · exact Or.inl q
        · exact Or.inr (j2 ▸ go_mem (by omega))
      · rcases q with q | q
        · exact Or.inl q
        · obtain ⟨j, j1, j2⟩ := List.getElem_of_mem q
          refine Or.inr ⟨j, by omega, ?_⟩
          unfold go
          rw [List.getD_eq_getElem?_getD, List.getElem?_eq_getElem j1, j2]
          rfl
  | succ m ih =>
    intro i J D' T' v1 hi hJ hL0 hD hT hE hT' e1
    subst e1
    have hL : LyP J 81 pl := hL0.fc hJ (by simp <;> omega) (by simp <;> omega)
    refine bs_V_takePlanned_2 hS.w _ ?_
    simp only [wI_I]
    rw [hL.1]
    refine pk_le pl.length i (fun q => by omega) (fun _ => ?_) rfl rfl (by omega) (by omega)
    rw [nI_clamp (by omega), hL.2 i (by omega)]
    refine ⟨pk_in i 63 (by omega) rfl, ?_⟩
    refine cV_isDataCluster hS (go pl i) (fun c e => by have := hd.g _ _ e; omega) ⟨hS, ?_⟩ rfl
    cases hg : go pl i with
    | none =>
      refine b0 (fun _ => ?_) (fun q => by cases q)
      refine ih (i + 1) J D' T' (by omega) hJ hL0 hD hT (hE.cg (fun k c hk => ?_)) (fun c => ?_) (by first | rfl | (simp (disch := omega) only [nI_lit, nI_ofInt1, nI_ofInt4, nI_ofInt2, nI_ofInt3, mI_neg, wI_I, wI_setI, wI_setR, forall_eq, nI_add, pk_mul, pk_sub, pk_div, pk_rem, nI_clamp, nI_leI, nI_ltI, nI_eq, vin_iff, nar0, nar1, nF_ap, bF_ap, oF_ap, bI_0, bI_1, and255, bu_w, bu_p, bu_90, bu_9, row_w, row_at, nF_up, nI_ofIntm] <;> first | done | omega | (congr 1; omega)))
      · have hne : k / 16 ≠ i := fun z => by rw [z, hg] at hk; cases hk
        by_cases q : k / 16 < i ∧ fr (k / 16) = true
        · rw [if_pos q, if_pos ⟨by omega, q.2⟩]
        · rw [if_neg q, if_neg (fun z => q ⟨by omega, z.2⟩)]
      · rw [hT' c]
        refine ⟨fun q => ?_, fun q => ?_⟩
        · rcases q with q | ⟨j, j1, j2⟩
          · exact Or.inl q
          · exact Or.inr ⟨j, by omega, j2⟩
        · rcases q with q | ⟨j, j1, j2⟩
          · exact Or.inl q
          · have hne : j ≠ i := fun z => by rw [z, hg] at j2; cases j2
            exact Or.inr ⟨j, by omega, j2⟩
    | some c =>
      have hc := hd.g _ _ hg
      obtain ⟨f1, f2⟩ := hfr i c hg
      have hbool : (decide (48 ≤ c) && decide (c < 128)) = true := by rw [decide_eq_true hc.1, decide_eq_true hc.2]; rfl
      refine b0 (fun q => ?_) (fun _ => ?_)
      · change (decide (48 ≤ c) && decide (c < 128)) = false at q
        rw [hbool] at q
        cases q
      · rw [show (oI (some c)).toNatClampNeg = c from nI_clamp (by omega)]
        refine ⟨pk_in c 128 hc.2 rfl, ?_⟩
        rw [wI_I, hT c hc.2]
        by_cases hf : fr i = true
        · have hTc : T c = false := f1 hf
          have hTc' : T' c = false := by
            cases hq : T' c with
            | false => rfl
            | true =>
              rcases (hT' c).mp hq with q | ⟨j, j1, j2⟩
              · rw [hTc] at q; cases q
              · have := hj i j c hg j2
                omega
          rw [hTc']
          refine b1 (fun q => by cases q) (fun _ => ⟨pk_in c 128 hc.2 rfl, ?_⟩)
          simp only [wI_setI, forall_eq]
          have hw1 : FC [76] J (fx_w J 76 c (vp_nar .boolean 1)) := FC.w [76] J 76 _ _ (by simp <;> omega)
          have a1 : nI i * 16 = nI (16 * i) := by rw [show (16 : Int32) = nI 16 from rfl, pk_mul, Nat.mul_comm]
          have a2 : (nI i + 1) * 16 = nI (16 * i + 16) := by rw [show (16 : Int32) = nI 16 from rfl, nI_1, pk_mul]; congr 1; omega
          refine cD_clearFile hS 81 isY_plan (by decide) (hL.fc hw1 (by simp <;> omega) (by simp <;> omega)) hd (D := D') (by rw [hw1 2 (by simp <;> omega)]; exact hD) (16 * i) (16 * i + 16) (by omega) (by omega) ⟨hS, ?_⟩ a1 a2
          rw [show 16 * i + 16 - 16 * i = 16 by omega]
          have hF2 : FC [2] (fx_w J 76 c (vp_nar .boolean 1)) (fx_row (fx_w J 76 c (vp_nar .boolean 1)) 2 (nF (plw pl (fun _ => some 0) 16 (16 * i) D'))) := FC.row [2] _ 2 _ (by simp <;> omega)
          refine ih (i + 1) _ _ (up T' c true) (by omega) (hJ.tr ((hw1.mono (fun a ha => by simp at ha ⊢ <;> omega)).tr (hF2.mono (fun a ha => by simp at ha ⊢ <;> omega)))) hL0 (row_at _ _ _) (fun x hx => ?_) ((hE.tr (plw_eff hj (fun _ => some 0) 16 (16 * i) D')).cg (fun k e hk => ?_)) (fun x => ?_) (by first | rfl | (simp (disch := omega) only [nI_lit, nI_ofInt1, nI_ofInt4, nI_ofInt2, nI_ofInt3, mI_neg, wI_I, wI_setI, wI_setR, forall_eq, nI_add, pk_mul, pk_sub, pk_div, pk_rem, nI_clamp, nI_leI, nI_ltI, nI_eq, vin_iff, nar0, nar1, nF_ap, bF_ap, oF_ap, bI_0, bI_1, and255, bu_w, bu_p, bu_90, bu_9, row_w, row_at, nF_up, nI_ofIntm] <;> first | done | omega | (congr 1; omega)))
          · rw [fx_row_ne _ _ (by decide)]
            by_cases q : x = c
            · subst q
              rw [fw_at, up_at]
              rfl
            · rw [fw_nj q, up_ne _ _ q]
              exact hT x hx
          · unfold vcb
            by_cases q : 16 * i ≤ k ∧ k < 16 * i + 16
            · have ek : k / 16 = i := by omega
              simp only [if_pos q]
              rw [if_pos ⟨by omega, by rw [ek]; exact hf⟩]
            · simp only [if_neg q]
              by_cases q2 : k / 16 < i ∧ fr (k / 16) = true
              · rw [if_pos q2, if_pos ⟨by omega, q2.2⟩]
              · rw [if_neg q2, if_neg (fun z => q2 ⟨by omega, z.2⟩)]
          · by_cases q : x = c
            · subst q
              rw [up_at]
              exact ⟨fun _ => Or.inr ⟨i, by omega, hg⟩, fun _ => rfl⟩
            · rw [up_ne _ _ q, hT' x]
              refine ⟨fun q2 => ?_, fun q2 => ?_⟩
              · rcases q2 with q2 | ⟨j, j1, j2⟩
                · exact Or.inl q2
                · exact Or.inr ⟨j, by omega, j2⟩
              · rcases q2 with q2 | ⟨j, j1, j2⟩
                · exact Or.inl q2
                · have hne : j ≠ i := fun z => by rw [z, hg] at j2; cases j2; exact q rfl
                  exact Or.inr ⟨j, by omega, j2⟩
        · have hf' : fr i = false := by simpa using hf
          have hTc' : T' c = true := (hT' c).mpr (Or.inl (f2 hf'))
          rw [hTc']
          refine b1 (fun _ => ?_) (fun q => by cases q)
          refine ih (i + 1) J D' T' (by omega) hJ hL0 hD hT (hE.cg (fun k e hk => ?_)) (fun x => ?_) (by first | rfl | (simp (disch := omega) only [nI_lit, nI_ofInt1, nI_ofInt4, nI_ofInt2, nI_ofInt3, mI_neg, wI_I, wI_setI, wI_setR, forall_eq, nI_add, pk_mul, pk_sub, pk_div, pk_rem, nI_clamp, nI_leI, nI_ltI, nI_eq, vin_iff, nar0, nar1, nF_ap, bF_ap, oF_ap, bI_0, bI_1, and255, bu_w, bu_p, bu_90, bu_9, row_w, row_at, nF_up, nI_ofIntm] <;> first | done | omega | (congr 1; omega)))
          · by_cases q : k / 16 < i ∧ fr (k / 16) = true
            · rw [if_pos q, if_pos ⟨by omega, q.2⟩]
            · rw [if_neg q, if_neg]
              intro z
              have hne : k / 16 ≠ i := fun z2 => by rw [z2, hf'] at z; cases z.2
              exact q ⟨by omega, z.2⟩
          · rw [hT' x]
            refine ⟨fun q2 => ?_, fun q2 => ?_⟩
            · rcases q2 with q2 | ⟨j, j1, j2⟩
              · exact Or.inl q2
              · exact Or.inr ⟨j, by omega, j2⟩
            · rcases q2 with q2 | ⟨j, j1, j2⟩
              · exact Or.inl q2
              · by_cases ej : j = i
                · subst ej
                  rw [hg] at j2
                  cases j2
                  exact Or.inl (f2 hf')
                · exact Or.inr ⟨j, by omega, j2⟩
theorem cV_takePlanned {F : fx_S → Prop} (hS : shC S) {pl : List (Option Nat)} (hL : LyP I 81 pl) (hd : dlo pl) (hj : inj pl) (fr : Nat → Bool) (T : Nat → Bool) (hfr : ∀ i c, go pl i = some c → (fr i = true → T c = false) ∧ (fr i = false → T c = true)) {D : Nat → Nat} (hD : I 2 = nF D) (hT : CT I T)
    (hF : ∀ J D' T', FC [2, 76] I J → J 2 = nF D' → CT J T' → Eff pl (fun k => if fr (k / 16) = true then some 0 else none) D D' → (∀ c, T' c = true ↔ T c = true ∨ some c ∈ pl) → F (fx_wI S J)) :
    fx_Go G (3, 45) mm_V_takePlanned 0 [(0, fx_r G 0)] [] (fx_wI S I) (fx_qv F Q) := by
  refine bs_V_takePlanned_0 hS.w ?_
  refine cV_tp2 hS hd hj fr T hfr D hF pl.length 0 I D T (by omega) (FC.r _ _) hL hD hT ((Eff.no pl D).cg (fun k c _ => by rw [if_neg (by omega)])) (fun c => ⟨fun q => Or.inl q, fun q => ?_⟩) rfl
  rcases q with q | ⟨j, j1, _⟩
  · exact q
  · omega
end CP
