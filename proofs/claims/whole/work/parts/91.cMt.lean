/-! The class's mount: its parts. -/
theorem mPar_c (n r c : Nat) (A : VS) : mPar n r c A = (c + (mPar n r 0 A).1, (mPar n r 0 A).2) := by
  induction n generalizing r c A with
  | zero => rfl
  | succ n ih =>
    unfold mPar
    split
    · split
      · rw [Nat.zero_add]
      · rw [ih (r + 1) (c + 1), ih (r + 1) (0 + 1)]
        simp only [Prod.mk.injEq, and_true]
        omega
    · exact ih (r + 1) c A
theorem mLis_c (n r c : Nat) (A : VS) : mLis n r c A = (c + (mLis n r 0 A).1, (mLis n r 0 A).2) := by
  induction n generalizing r c A with
  | zero => rfl
  | succ n ih =>
    unfold mLis
    split
    · split
      · rw [Nat.zero_add]
      · rw [ih (r + 1) (c + 1), ih (r + 1) (0 + 1)]
        simp only [Prod.mk.injEq, and_true]
        omega
    · exact ih (r + 1) c A
def ML (A : VS) : Prop := GK (vU A) (vf A) ∧ Recs (vD A) (vU A) (vf A) ∧ BI A ∧ vo A = true
theorem ML.st {A : VS} (h : ML A) (r : Nat) (t : AS) (hok : stOk (vt A) = true) (ht : aS t ≠ 0) (hw : wf (setN t (nN (vD A) r))) : ML (stA A r t) := ⟨GK.st h.1 r t _ (fun _ => hw) (fun z => absurd z ht), RecsA h.2.1 hok (fun _ => hw), h.2.2.1.st r t (enc_wf_lt (nN_lt h.2.2.1.1 r) hw), by rw [stA_o h.2.2.2]; exact hok⟩
theorem ML.n {A : VS} (h : ML A) {r : Nat} (hr : r < 12) (hu : vU A r = true) : aN (vf A r) = wrd (vD A) (64 * r + 2) := ((h.2.1 r hr hu).1.w (h.2.1 r hr hu).2.2.2.1).symm
section CM
variable {G : fx_G} {S : fx_S} {I : Nat → Nat → Int32} {Q : fx_R → fx_S → Prop}
theorem cV_ltr12 {F : Int32 → fx_S → Prop} (hS : shC S) {U : Nat → Bool} {g : Nat → AS} (hK : GK U g) (hH : CH I g) : ∀ (n k s : Nat) {v2 v3 : Int32}, s + n = 12 → k < 12 → F (bI (cLr U g n k)) (fx_wI S I) → v2 = nI k → v3 = nI s →
    fx_Go G (2, 26) mm_V_leadsToRoot 12 [(0, fx_r G 0), (2, .int v2), (3, .int v3)] [] (fx_wI S I) (fx_qi F Q) := by
  intro n
  induction n with
  | zero =>
    intro k s v2 v3 hs hk hF e2 e3
    subst e2 e3
    refine bs_V_leadsToRoot_12 hS.w _ _ ?_
    exact pk_le 12 s (fun _ => hF) (fun q => by omega) rfl rfl (by omega) (by omega)
  | succ n ih =>
    intro k s v2 v3 hs hk hF e2 e3
    subst e2 e3
    refine bs_V_leadsToRoot_12 hS.w _ _ ?_
    refine pk_le 12 s (fun q => by omega) (fun _ => ?_) rfl rfl (by omega) (by omega)
    refine cV_isDirectory hS hK hH (nI k) ⟨hS, ?_⟩
    rw [isr_nI hk, Bool.true_and, nI_clamp (by omega)]
    unfold cLr at hF
    refine b0 (fun q => ?_) (fun q => ?_)
    · rw [if_neg (fun z => by rw [z.1, decide_eq_true z.2] at q; cases q)] at hF
      exact hF
    · rw [Bool.and_eq_true, decide_eq_true_eq] at q
      rw [if_pos q] at hF
      simp only [wI_I]
      refine ne_pair (pk_eq k 0 (fun q2 => ?_) (fun q2 => ?_) rfl rfl (by omega) (by omega))
      · rw [if_pos q2] at hF
        exact hF
      · rw [if_neg q2] at hF
        exact ⟨pk_in k 12 hk rfl, ih (aP (g k)) (s + 1) (by omega) (hK.p hk) hF (hH k hk).2.1 (by first | rfl | (simp (disch := omega) only [nI_lit, nI_ofInt1, nI_ofInt4, nI_ofInt2, nI_ofInt3, mI_neg, wI_I, wI_setI, wI_setR, forall_eq, nI_add, pk_mul, pk_sub, pk_div, pk_rem, nI_clamp, nI_leI, nI_ltI, nI_eq, vin_iff, nar0, nar1, nF_ap, bF_ap, oF_ap, bI_0, bI_1, and255, bu_w, bu_p, bu_90, bu_9, row_w, row_at, nF_up, nI_ofIntm] <;> first | done | omega | (congr 1; omega)))⟩
theorem cV_leadsToRoot {F : Int32 → fx_S → Prop} (hS : shC S) {U : Nat → Bool} {g : Nat → AS} (hK : GK U g) (hH : CH I g) (r : Nat) (hr : r < 12) {v1 : Int32} (hF : F (bI (cLr U g 12 (aP (g r)))) (fx_wI S I)) (e1 : v1 = nI r) :
    fx_Go G (2, 26) mm_V_leadsToRoot 0 [(0, fx_r G 0), (1, .int v1)] [] (fx_wI S I) (fx_qi F Q) := by
  subst e1
  refine bs_V_leadsToRoot_0 hS.w _ ?_
  simp only [wI_I]
  rw [nI_clamp (by omega)]
  exact ⟨pk_in r 12 hr rfl, cV_ltr12 hS hK hH 12 (aP (g r)) 0 (by omega) (hK.p hr) hF (hH r hr).2.1 rfl⟩
theorem cV_ce4 {F : Int32 → fx_S → Prop} (hS : shC S) {U : Nat → Bool} {g : Nat → AS} (hK : GK U g) (hH : CH I g) (d : Nat) (hd : d < 12) : ∀ (m r : Nat) (acc : List Nat) (J : Nat → Nat → Int32) {v1 v2 v3 : Int32}, r + m = 12 → 1 ≤ r → FC [84] I J → rowL J 84 acc → acc.length < r → (∀ e ∈ acc, e < 12 ∧ U e = true) →
    (∀ K, FC [84] I K → rowL K 84 (colL U g d m r acc) → F (nI (colL U g d m r acc).length) (fx_wI S K)) → v1 = nI d → v2 = nI acc.length → v3 = nI r →
    fx_Go G (3, 44) mm_V_collectEntries 4 [(0, fx_r G 0), (1, .int v1), (2, .int v2), (3, .int v3)] [] (fx_wI S J) (fx_qi F Q) := by
  intro m
  induction m with
  | zero =>
    intro r acc J v1 v2 v3 hr h1 hJ hrow hl hx hF e1 e2 e3
    subst e1 e2 e3
    refine bs_V_collectEntries_4 hS.w _ _ _ ?_
    exact pk_le 12 r (fun _ => hF J hJ hrow) (fun q => by omega) rfl rfl (by omega) (by omega)
  | succ m ih =>
    intro r acc J v1 v2 v3 hr h1 hJ hrow hl hx hF e1 e2 e3
    subst e1 e2 e3
    have hHJ : CH J g := hH.fc hJ (fun a a1 a2 => by simp <;> omega)
    have hpr := hK.p (show r < 12 by omega)
    refine bs_V_collectEntries_4 hS.w _ _ _ ?_
    refine pk_le 12 r (fun q => by omega) (fun _ => ?_) rfl rfl (by omega) (by omega)
    refine cV_isUsed hS hK hHJ (nI r) ⟨hS, ?_⟩
    rw [isr_nI (by omega), Bool.true_and]
    unfold colL at hF
    refine b0 (fun q => ?_) (fun q => ?_)
    · rw [if_neg (fun z => by rw [q] at z; cases z.1)] at hF
      exact ih (r + 1) acc J (by omega) (by omega) hJ hrow (by omega) hx hF rfl rfl (by first | rfl | (simp (disch := omega) only [nI_lit, nI_ofInt1, nI_ofInt4, nI_ofInt2, nI_ofInt3, mI_neg, wI_I, wI_setI, wI_setR, forall_eq, nI_add, pk_mul, pk_sub, pk_div, pk_rem, nI_clamp, nI_leI, nI_ltI, nI_eq, vin_iff, nar0, nar1, nF_ap, bF_ap, oF_ap, bI_0, bI_1, and255, bu_w, bu_p, bu_90, bu_9, row_w, row_at, nF_up, nI_ofIntm] <;> first | done | omega | (congr 1; omega)))
    · simp only [wI_I]
      rw [nI_clamp (by omega), (hHJ r (by omega)).2.1]
      refine ⟨pk_in r 12 (by omega) rfl, ?_⟩
      refine ne_pair (pk_eq (aP (g r)) d (fun q2 => ?_) (fun q2 => ?_) rfl rfl (by omega) (by omega))
      · rw [if_pos ⟨q, q2⟩] at hF
        refine cV_insertByName hS hK (fun e he => (hHJ e he).2.2.2.2.2.1) 84 12 isA_entries (by omega) (fun e he => by omega) r (by omega) acc (by omega) (fun e he => (hx e he).1) hrow (fun K hFK hrK => ⟨hS, ?_⟩) rfl rfl
        refine ih (r + 1) _ K (by omega) (by omega) (hJ.tr hFK) hrK (by rw [insA_len _ _ _ (ipos_le _ _ _)]; omega) (fun e he => ?_) hF rfl (by rw [insA_len _ _ _ (ipos_le _ _ _)]) (by first | rfl | (simp (disch := omega) only [nI_lit, nI_ofInt1, nI_ofInt4, nI_ofInt2, nI_ofInt3, mI_neg, wI_I, wI_setI, wI_setR, forall_eq, nI_add, pk_mul, pk_sub, pk_div, pk_rem, nI_clamp, nI_leI, nI_ltI, nI_eq, vin_iff, nar0, nar1, nF_ap, bF_ap, oF_ap, bI_0, bI_1, and255, bu_w, bu_p, bu_90, bu_9, row_w, row_at, nF_up, nI_ofIntm] <;> first | done | omega | (congr 1; omega)))
        rcases insA_mem he with he | he
        · rw [he]; exact ⟨by omega, q⟩
        · exact hx e he
      · rw [if_neg (fun z => q2 z.2)] at hF
        exact ih (r + 1) acc J (by omega) (by omega) hJ hrow (by omega) hx hF rfl rfl (by first | rfl | (simp (disch := omega) only [nI_lit, nI_ofInt1, nI_ofInt4, nI_ofInt2, nI_ofInt3, mI_neg, wI_I, wI_setI, wI_setR, forall_eq, nI_add, pk_mul, pk_sub, pk_div, pk_rem, nI_clamp, nI_leI, nI_ltI, nI_eq, vin_iff, nar0, nar1, nF_ap, bF_ap, oF_ap, bI_0, bI_1, and255, bu_w, bu_p, bu_90, bu_9, row_w, row_at, nF_up, nI_ofIntm] <;> first | done | omega | (congr 1; omega)))
theorem cV_collectEntries {F : Int32 → fx_S → Prop} (hS : shC S) {A : VS} (hK : GK (vU A) (vf A)) (hH : CH I (vf A)) (d : Nat) (hd : d < 12) {v1 : Int32} (hF : ∀ K, FC [84] I K → rowL K 84 (colA A d) → F (nI (colA A d).length) (fx_wI S K)) (e1 : v1 = nI d) :
    fx_Go G (3, 44) mm_V_collectEntries 0 [(0, fx_r G 0), (1, .int v1)] [] (fx_wI S I) (fx_qi F Q) := by
  refine bs_V_collectEntries_0 hS.w _ ?_
  exact cV_ce4 hS hK hH d hd 11 1 [] I (by omega) (by omega) (FC.r _ _) (fun j hj => absurd hj (Nat.not_lt_zero _)) (by simp <;> omega) (fun e he => by cases he) hF e1 rfl rfl
abbrev mtc : List Nat := [1, 2, 83, 84]
def fmt (I J : Nat → Nat → Int32) : Prop := ∀ a, a = 0 ∨ a = 3 ∨ 76 ≤ a ∧ a ≠ 83 ∧ a ≠ 84 → J a = I a
theorem fmt.tr {I J K : Nat → Nat → Int32} (h : fmt I J) (h' : fmt J K) : fmt I K := fun a ha => (h' a ha).trans (h a ha)
theorem FC.fm {cs : List Nat} {I J : Nat → Nat → Int32} (h : FC cs I J) (hc : ∀ a, a ∈ cs → a ≠ 0 ∧ a ≠ 3 ∧ (a < 76 ∨ a = 83 ∨ a = 84)) : fmt I J := fun a ha => h a (fun z => by have := hc a z; omega)
theorem fmt.lc {I J : Nat → Nat → Int32} (h : fmt I J) : LC I J := fun a ha => h a (by omega)
theorem cV_as4 {F : Int32 → fx_S → Prop} (hS : shC S) (hR : fx_roomx S) : ∀ (n r c : Nat) (A : VS) (I : Nat → Nat → Int32) {v1 v2 : Int32}, r + n = 12 → 1 ≤ r → c + n < 1000 → CB I A → CH I (vf A) → ML A →
    (vo (mPar n r c A).2 = true → ∀ J, fmt I J → CB J (mPar n r c A).2 → CH J (vf (mPar n r c A).2) → ML (mPar n r c A).2 → F (nI (mPar n r c A).1) (fx_wI S J)) →
    (vo (mPar n r c A).2 = false → ∀ J, LC I J → CB J (mPar n r c A).2 → J 0 4 = nI 0 → Q (.inr 1) (fx_exc (fx_wI S J))) → v1 = nI c → v2 = nI r →
    fx_Go G (8, 109) mm_V_adoptStrays 4 [(0, fx_r G 0), (1, .int v1), (2, .int v2)] [] (fx_wI S I) (fx_qi F Q) := by
  intro n
  induction n with
  | zero =>
    intro r c A I v1 v2 hr h1r hc hC hH hM h2 h1 e1 e2
    subst e1 e2
    refine bs_V_adoptStrays_4 hS.w _ _ ?_
    exact pk_le 12 r (fun _ => h2 hM.2.2.2 I (fun _ _ => rfl) hC hH hM) (fun q => by omega) rfl rfl (by omega) (by omega)
  | succ n ih =>
    intro r c A I v1 v2 hr h1r hc hC hH hM h2 h1 e1 e2
    subst e1 e2
    have hr' : r < 12 := by omega
    refine bs_V_adoptStrays_4 hS.w _ _ ?_
    refine pk_le 12 r (fun q => by omega) (fun _ => ?_) rfl rfl (by omega) (by omega)
    refine cV_isUsed hS hM.1 hH (nI r) ⟨hS, ?_⟩
    rw [isr_nI (by omega), Bool.true_and]
    unfold mPar at h1 h2
    refine b0 (fun q => ?_) (fun q => ?_)
    · rw [if_neg (fun z => by rw [q] at z; cases z.1)] at h1 h2
      exact ih (r + 1) c A I (by omega) (by omega) (by omega) hC hH hM h2 h1 rfl (by first | rfl | (simp (disch := omega) only [nI_lit, nI_ofInt1, nI_ofInt4, nI_ofInt2, nI_ofInt3, mI_neg, wI_I, wI_setI, wI_setR, forall_eq, nI_add, pk_mul, pk_sub, pk_div, pk_rem, nI_clamp, nI_leI, nI_ltI, nI_eq, vin_iff, nar0, nar1, nF_ap, bF_ap, oF_ap, bI_0, bI_1, and255, bu_w, bu_p, bu_90, bu_9, row_w, row_at, nF_up, nI_ofIntm] <;> first | done | omega | (congr 1; omega)))
    · have hl := lup_cLr (vU A) (vf A) (fun k hk => hM.1.p hk) r hr' (by omega)
      refine cV_leadsToRoot hS hM.1 hH r hr' ⟨hS, ?_⟩ rfl
      rw [← hl]
      refine b1 (fun q2 => ?_) (fun q2 => ?_)
      · rw [if_neg (fun z => by rw [q2] at z; cases z.2)] at h1 h2
        exact ih (r + 1) c A I (by omega) (by omega) (by omega) hC hH hM h2 h1 rfl (by first | rfl | (simp (disch := omega) only [nI_lit, nI_ofInt1, nI_ofInt4, nI_ofInt2, nI_ofInt3, mI_neg, wI_I, wI_setI, wI_setR, forall_eq, nI_add, pk_mul, pk_sub, pk_div, pk_rem, nI_clamp, nI_leI, nI_ltI, nI_eq, vin_iff, nar0, nar1, nF_ap, bF_ap, oF_ap, bI_0, bI_1, and255, bu_w, bu_p, bu_90, bu_9, row_w, row_at, nF_up, nI_ofIntm] <;> first | done | omega | (congr 1; omega)))
      · rw [if_pos ⟨q, q2⟩] at h1 h2
        simp only [wI_setI, forall_eq]
        rw [nI_clamp (by omega)]
        refine ⟨pk_in r 12 hr' rfl, ?_⟩
        have hwr := (hM.1 r hr').1 q
        have hF1 : FC [4 + 6 * r] I (fx_w I (4 + 6 * r) 1 0) := FC.w [4 + 6 * r] I _ _ _ (by simp <;> omega)
        have hP1 : ShP (fx_w I (4 + 6 * r) 1 0) (4 + 6 * r) (setN (setP (vf A r) 0) (aN (vf A r))) := by
          obtain ⟨p1, p2, p3, p4, p5, p6, p7, p8⟩ := hH r hr'
          exact ⟨by rw [fw_nj (by omega)]; exact p1, fw_at _ _ _ _, by rw [fw_nj (by omega)]; exact p3, by rw [fw_nj (by omega)]; exact p4, by rw [fw_nj (by omega)]; exact p5, p6.fc hF1 (by simp <;> omega) (by simp <;> omega), p7.cg (hF1 _ (by simp <;> omega)), p8.fc hF1 (by simp <;> omega) (by simp <;> omega)⟩
        have hH1 : CH (fx_w I (4 + 6 * r) 1 0) (up (vf A) r (setN (setP (vf A r) 0) (aN (vf A r)))) := hH.set r hr' hF1 (fun a a1 a2 a3 => by simp <;> omega) hP1
        generalize fx_w I (4 + 6 * r) 1 0 = I1 at hF1 hP1 hH1 ⊢
        have hB := hM.2.2.1
        have hwn : wf (setN (setP (vf A r) 0) (nN (vD A) r)) := setP_wf hwr (by omega) (nN_lt hB.1 r)
        have hs0 : aS (setP (vf A r) 0) ≠ 0 := by
          have := hwr.1
          change aS (vf A r) ≠ 0
          omega
        refine cV_store hS hR (hC.fc hF1 (by simp <;> omega) (by simp <;> omega) (by simp <;> omega) (by simp <;> omega)) hB.2.1 hH1 r hr' (setP (vf A r) 0) _ (up_at _ _ _) (by rw [hM.n hr' q]; rfl) (by rw [up_at]; exact (setP_wf hwr (by omega) hwr.2.2.1).sok) (nN_lt hB.1 r) (fun q3 J hJ hCB h04 => ?_) (fun q3 J hJ hCB hCH => ⟨hS, ?_⟩) rfl
        · rw [if_pos q3] at h1
          refine h1 ?_ J ((hF1.lc (fun a ha => by simp at ha <;> omega)).tr (hJ.lc (fun a ha => by simp at ha <;> omega))) hCB h04
          show vo (stA A r (setP (vf A r) 0)) = false
          rw [stA_o hM.2.2.2]
          exact q3
        · rw [if_neg (by rw [q3]; decide)] at h1 h2
          rw [up_up] at hCH
          have hfm : fmt I J := (hF1.fm (fun a ha => by simp at ha <;> omega)).tr (hJ.fm (fun a ha => by simp at ha <;> omega))
          exact ih (r + 1) (c + 1) _ J (by omega) (by omega) (by omega) hCB hCH (hM.st r _ q3 hs0 hwn) (fun z K hK => h2 z K (hfm.tr hK)) (fun z K hK => h1 z K (hfm.lc.tr hK)) (by first | rfl | (simp (disch := omega) only [nI_lit, nI_ofInt1, nI_ofInt4, nI_ofInt2, nI_ofInt3, mI_neg, wI_I, wI_setI, wI_setR, forall_eq, nI_add, pk_mul, pk_sub, pk_div, pk_rem, nI_clamp, nI_leI, nI_ltI, nI_eq, vin_iff, nar0, nar1, nF_ap, bF_ap, oF_ap, bI_0, bI_1, and255, bu_w, bu_p, bu_90, bu_9, row_w, row_at, nF_up, nI_ofIntm] <;> first | done | omega | (congr 1; omega))) (by first | rfl | (simp (disch := omega) only [nI_lit, nI_ofInt1, nI_ofInt4, nI_ofInt2, nI_ofInt3, mI_neg, wI_I, wI_setI, wI_setR, forall_eq, nI_add, pk_mul, pk_sub, pk_div, pk_rem, nI_clamp, nI_leI, nI_ltI, nI_eq, vin_iff, nar0, nar1, nF_ap, bF_ap, oF_ap, bI_0, bI_1, and255, bu_w, bu_p, bu_90, bu_9, row_w, row_at, nF_up, nI_ofIntm] <;> first | done | omega | (congr 1; omega)))
theorem cV_ml4 {F : Int32 → fx_S → Prop} (hS : shC S) (hR : fx_roomx S) : ∀ (n d c : Nat) (A : VS) (I : Nat → Nat → Int32) {v1 v2 : Int32}, d + n = 12 → c + n < 1000 → CB I A → CH I (vf A) → ML A →
    (vo (mLis n d c A).2 = true → ∀ J, fmt I J → CB J (mLis n d c A).2 → CH J (vf (mLis n d c A).2) → ML (mLis n d c A).2 → F (nI (mLis n d c A).1) (fx_wI S J)) →
    (vo (mLis n d c A).2 = false → ∀ J, LC I J → CB J (mLis n d c A).2 → J 0 4 = nI 0 → Q (.inr 1) (fx_exc (fx_wI S J))) → v1 = nI c → v2 = nI d →
    fx_Go G (8, 109) mm_V_mendLists 4 [(0, fx_r G 0), (1, .int v1), (2, .int v2)] [] (fx_wI S I) (fx_qi F Q) := by
  intro n
  induction n with
  | zero =>
    intro d c A I v1 v2 hr hc hC hH hM h2 h1 e1 e2
    subst e1 e2
    refine bs_V_mendLists_4 hS.w _ _ ?_
    exact pk_le 12 d (fun _ => h2 hM.2.2.2 I (fun _ _ => rfl) hC hH hM) (fun q => by omega) rfl rfl (by omega) (by omega)
  | succ n ih =>
    intro d c A I v1 v2 hr hc hC hH hM h2 h1 e1 e2
    subst e1 e2
    have hd : d < 12 := by omega
    refine bs_V_mendLists_4 hS.w _ _ ?_
    refine pk_le 12 d (fun q => by omega) (fun _ => ?_) rfl rfl (by omega) (by omega)
    refine cV_isDirectory hS hM.1 hH (nI d) ⟨hS, ?_⟩
    rw [isr_nI hd, Bool.true_and, nI_clamp (by omega)]
    unfold mLis at h1 h2
    refine b0 (fun q => ?_) (fun q => ?_)
    · rw [if_neg (fun z => by rw [z.1, decide_eq_true z.2.1] at q; cases q)] at h1 h2
      exact ih (d + 1) c A I (by omega) (by omega) hC hH hM h2 h1 rfl (by first | rfl | (simp (disch := omega) only [nI_lit, nI_ofInt1, nI_ofInt4, nI_ofInt2, nI_ofInt3, mI_neg, wI_I, wI_setI, wI_setR, forall_eq, nI_add, pk_mul, pk_sub, pk_div, pk_rem, nI_clamp, nI_leI, nI_ltI, nI_eq, vin_iff, nar0, nar1, nF_ap, bF_ap, oF_ap, bI_0, bI_1, and255, bu_w, bu_p, bu_90, bu_9, row_w, row_at, nF_up, nI_ofIntm] <;> first | done | omega | (congr 1; omega)))
    · rw [Bool.and_eq_true, decide_eq_true_eq] at q
      have hwd := (hM.1 d hd).1 q.1
      have hk4 := hwd.k4 q.2
      have ez : sz (vf A d) = (aH (vf A d)).length := by unfold sz; rw [if_neg (by omega)]
      have hhl := hwd.hl (by omega)
      have hcc := colL_c (vU A) (vf A) d 11 1 [] (by omega) (by omega) (by simp <;> omega) (fun e he => by cases he)
      change (colA A d).length < 12 ∧ ∀ e ∈ colA A d, e < 12 ∧ vU A e = true at hcc
      refine cV_collectEntries hS hM.1 hH d hd (fun K hFK hrK => ⟨hS, pk_in d 12 hd rfl, ?_⟩) rfl
      have hHK : CH K (vf A) := hH.fc hFK (fun a a1 a2 => by simp <;> omega)
      have hPd := hHK d hd
      refine cH_hasList hS (4 + 6 * d) (isH_at d hd) (l := aH (vf A d)) (m := colA A d) (by rw [hPd.2.2.2.2.1, ez]) (by omega) hPd.2.2.2.2.2.2.1 hwd.hb hrK (by omega) (fun x hx => by have := (hcc.2 x hx).1; omega) ⟨hS, ?_⟩ rfl
      refine b1 (fun q2 => ?_) (fun q2 => ?_)
      · rw [if_neg (fun z => z.2.2 (of_decide_eq_true q2).symm)] at h1 h2
        have hfm : fmt I K := hFK.fm (fun a ha => by simp at ha <;> omega)
        exact ih (d + 1) c A K (by omega) (by omega) (hC.fc hFK (by simp <;> omega) (by simp <;> omega) (by simp <;> omega) (by simp <;> omega)) hHK hM (fun z L hL => h2 z L (hfm.tr hL)) (fun z L hL => h1 z L (hfm.lc.tr hL)) rfl (by first | rfl | (simp (disch := omega) only [nI_lit, nI_ofInt1, nI_ofInt4, nI_ofInt2, nI_ofInt3, mI_neg, wI_I, wI_setI, wI_setR, forall_eq, nI_add, pk_mul, pk_sub, pk_div, pk_rem, nI_clamp, nI_leI, nI_ltI, nI_eq, vin_iff, nar0, nar1, nF_ap, bF_ap, oF_ap, bI_0, bI_1, and255, bu_w, bu_p, bu_90, bu_9, row_w, row_at, nF_up, nI_ofIntm] <;> first | done | omega | (congr 1; omega)))
      · rw [if_pos ⟨q.1, q.2, fun z => of_decide_eq_false q2 z.symm⟩] at h1 h2
        have hB := hM.2.2.1
        have hwn : wf (setN (sLi (vf A d) (colA A d)) (nN (vD A) d)) := sLi_wf hwd (nN_lt hB.1 d) (by omega) (fun x hx => (hcc.2 x hx).1)
        refine ⟨pk_in d 12 hd rfl, ?_⟩
        refine cH_setList hS (4 + 6 * d) (isH_at d hd) hPd q.2 hk4 (hwd.2.2.2.2.2.2.2.2.1 (by omega)) hrK (by omega) (fun L hFL hPL => ⟨hS, ?_⟩) rfl
        have hFIL : FC [84, 4 + 6 * d, 4 + 6 * d + 3] I L := (hFK.mono (fun a ha => by simp at ha ⊢ <;> omega)).tr (hFL.mono (fun a ha => by simp at ha ⊢ <;> omega))
        have hHL : CH L (up (vf A) d (setN (sLi (vf A d) (colA A d)) (aN (vf A d)))) := hHK.set d hd hFL (fun a a1 a2 a3 => by simp <;> omega) hPL
        refine cV_store hS hR (hC.fc hFIL (by simp <;> omega) (by simp <;> omega) (by simp <;> omega) (by simp <;> omega)) hB.2.1 hHL d hd (sLi (vf A d) (colA A d)) _ (up_at _ _ _) (by rw [hM.n hd q.1]; rfl) (by rw [up_at]; exact (sLi_wf hwd hwd.2.2.1 (by omega) (fun x hx => (hcc.2 x hx).1)).sok) (nN_lt hB.1 d) (fun q3 J hJ hCB h04 => ?_) (fun q3 J hJ hCB hCH => ⟨hS, ?_⟩) rfl
        · rw [if_pos q3] at h1
          refine h1 ?_ J ((hFIL.lc (fun a ha => by simp at ha <;> omega)).tr (hJ.lc (fun a ha => by simp at ha <;> omega))) hCB h04
          show vo (stA A d (sLi (vf A d) (colA A d))) = false
          rw [stA_o hM.2.2.2]
          exact q3
        · rw [if_neg (by rw [q3]; decide)] at h1 h2
          rw [up_up] at hCH
          have hfm : fmt I J := (hFIL.fm (fun a ha => by simp at ha <;> omega)).tr (hJ.fm (fun a ha => by simp at ha <;> omega))
          exact ih (d + 1) (c + 1) _ J (by omega) (by omega) hCB hCH (hM.st d _ q3 ne20 hwn) (fun z K hK => h2 z K (hfm.tr hK)) (fun z K hK => h1 z K (hfm.lc.tr hK)) (by first | rfl | (simp (disch := omega) only [nI_lit, nI_ofInt1, nI_ofInt4, nI_ofInt2, nI_ofInt3, mI_neg, wI_I, wI_setI, wI_setR, forall_eq, nI_add, pk_mul, pk_sub, pk_div, pk_rem, nI_clamp, nI_leI, nI_ltI, nI_eq, vin_iff, nar0, nar1, nF_ap, bF_ap, oF_ap, bI_0, bI_1, and255, bu_w, bu_p, bu_90, bu_9, row_w, row_at, nF_up, nI_ofIntm] <;> first | done | omega | (congr 1; omega))) (by first | rfl | (simp (disch := omega) only [nI_lit, nI_ofInt1, nI_ofInt4, nI_ofInt2, nI_ofInt3, mI_neg, wI_I, wI_setI, wI_setR, forall_eq, nI_add, pk_mul, pk_sub, pk_div, pk_rem, nI_clamp, nI_leI, nI_ltI, nI_eq, vin_iff, nar0, nar1, nF_ap, bF_ap, oF_ap, bI_0, bI_1, and255, bu_w, bu_p, bu_90, bu_9, row_w, row_at, nF_up, nI_ofIntm] <;> first | done | omega | (congr 1; omega)))
theorem cV_nt42 (hS : shC S) (r : Nat) {l : List (Option Nat)} (hd : dlo l) (hr : r < 12) : ∀ (m i : Nat) (T : Nat → Bool) (I : Nat → Nat → Int32) {v1 v3 : Int32}, i + m = l.length → LyP I (4 + 6 * r + 4) l → CT I T →
    (∀ J T', FC [76] I J → CT J T' → (∀ c, c < 128 → (T' c = true ↔ T c = true ∨ some c ∈ l.drop i)) → fx_Go G (1, 12) mm_V_noteTaken 24 [(0, fx_r G 0), (1, .int (nI (r + 1)))] [] (fx_wI S J) Q) → v1 = nI r → v3 = nI i →
    fx_Go G (1, 12) mm_V_noteTaken 42 [(0, fx_r G 0), (1, .int v1), (2, fx_r G (4 + 6 * r + 4)), (3, .int v3)] [] (fx_wI S I) Q := by
  intro m
  have h63 := hd.1
  induction m with
  | zero =>
    intro i T I v1 v3 hi hL hT hF e1 e3
    subst e1 e3
    refine bs_V_noteTaken_42 hS.w _ (4 + 6 * r + 4) _ (isH_at r hr).y ?_
    rw [wI_I, hL.1]
    refine pk_le l.length i (fun _ => ?_) (fun q => by omega) rfl rfl (by omega) (by omega)
    rw [show nI r + Int32.ofInt 1 = nI (r + 1) from nI_1 r]
    refine hF I T (FC.r _ _) hT (fun c _ => ⟨fun q => Or.inl q, fun q => ?_⟩)
    rcases q with q | q
    · exact q
    · rw [List.drop_eq_nil_of_le (by omega)] at q
      cases q
  | succ m ih =>
    intro i T I v1 v3 hi hL hT hF e1 e3
    subst e1 e3
    have ed := dropO l i (by omega)
    refine bs_V_noteTaken_42 hS.w _ (4 + 6 * r + 4) _ (isH_at r hr).y ?_
    simp only [wI_I, wI_setI, forall_eq]
    rw [hL.1]
    refine pk_le l.length i (fun q => by omega) (fun _ => ?_) rfl rfl (by omega) (by omega)
    rw [nI_clamp (n := i) (by omega), hL.2 i (by omega)]
    refine ⟨pk_in i 63 (by omega) rfl, ?_⟩
    refine cV_isDataCluster hS (go l i) (fun c e => by have := hd.g _ _ e; omega) ⟨hS, ?_⟩ rfl
    cases hg : go l i with
    | none =>
      rw [hg] at ed
      refine b0 (fun _ => ?_) (fun q => by cases q)
      refine ih (i + 1) T I (by omega) hL hT (fun J T' hJ hT' hh => hF J T' hJ hT' (fun c hc => ?_)) rfl (by first | rfl | (simp (disch := omega) only [nI_lit, nI_ofInt1, nI_ofInt4, nI_ofInt2, nI_ofInt3, mI_neg, wI_I, wI_setI, wI_setR, forall_eq, nI_add, pk_mul, pk_sub, pk_div, pk_rem, nI_clamp, nI_leI, nI_ltI, nI_eq, vin_iff, nar0, nar1, nF_ap, bF_ap, oF_ap, bI_0, bI_1, and255, bu_w, bu_p, bu_90, bu_9, row_w, row_at, nF_up, nI_ofIntm] <;> first | done | omega | (congr 1; omega)))
      rw [hh c hc, ed]
      simp
    | some e =>
      rw [hg] at ed
      have he := hd.g _ _ hg
      have hbool : (decide (48 ≤ e) && decide (e < 128)) = true := by rw [decide_eq_true he.1, decide_eq_true he.2]; rfl
      refine b0 (fun q => ?_) (fun _ => ?_)
      · change (decide (48 ≤ e) && decide (e < 128)) = false at q
        rw [hbool] at q
        cases q
      · simp only [wI_I, wI_setI, forall_eq]
        rw [hL.2 i (by omega), hg]
        refine ⟨pk_in i 63 (by omega) rfl, pk_in e 128 he.2 rfl, ?_⟩
        rw [show (oI (some e)).toNatClampNeg = e from nI_clamp (by omega)]
        have hw : FC [76] I (fx_w I 76 e (vp_nar .boolean 1)) := FC.w [76] I 76 _ _ (by simp <;> omega)
        refine ih (i + 1) (up T e true) _ (by omega) (hL.fc hw (by simp <;> omega) (by simp <;> omega)) (fun x hx => ?_) (fun J T' hJ hT' hh => hF J T' (hw.tr hJ) hT' (fun c hc => ?_)) rfl (by first | rfl | (simp (disch := omega) only [nI_lit, nI_ofInt1, nI_ofInt4, nI_ofInt2, nI_ofInt3, mI_neg, wI_I, wI_setI, wI_setR, forall_eq, nI_add, pk_mul, pk_sub, pk_div, pk_rem, nI_clamp, nI_leI, nI_ltI, nI_eq, vin_iff, nar0, nar1, nF_ap, bF_ap, oF_ap, bI_0, bI_1, and255, bu_w, bu_p, bu_90, bu_9, row_w, row_at, nF_up, nI_ofIntm] <;> first | done | omega | (congr 1; omega)))
        · by_cases q : x = e
          · subst q
            rw [fw_at, up_at]
            rfl
          · rw [fw_nj q, up_ne _ _ q]
            exact hT x hx
        · rw [hh c hc, ed, List.mem_cons, Option.some.injEq]
          by_cases q : c = e
          · subst q
            rw [up_at]
            simp
          · rw [up_ne _ _ q]
            simp [q]
theorem cV_nt24 {F : fx_S → Prop} (hS : shC S) {g : Nat → AS} (hd : ∀ r, r < 12 → dlo (aL (g r))) : ∀ (m r : Nat) (T : Nat → Bool) (I : Nat → Nat → Int32) {v1 : Int32}, r + m = 12 → CH I g → CT I T → (∀ c, c < 128 → (T c = true ↔ ∃ x, x < r ∧ some c ∈ aL (g x))) →
    (∀ J T', FC [76] I J → CT J T' → (∀ c, c < 128 → (T' c = true ↔ ∃ x, x < 12 ∧ some c ∈ aL (g x))) → F (fx_wI S J)) → v1 = nI r →
    fx_Go G (1, 12) mm_V_noteTaken 24 [(0, fx_r G 0), (1, .int v1)] [] (fx_wI S I) (fx_qv F Q) := by
  intro m
  induction m with
  | zero =>
    intro r T I v1 hr hH hT hh hF e1
    subst e1
    have : r = 12 := by omega
    subst this
    refine bs_V_noteTaken_24 hS.w _ ?_
    exact pk_le 12 12 (fun _ => hF I T (FC.r _ _) hT hh) (fun q => by omega) rfl rfl (by omega) (by omega)
  | succ m ih =>
    intro r T I v1 hr hH hT hh hF e1
    subst e1
    have hr' : r < 12 := by omega
    refine bs_V_noteTaken_24 hS.w _ ?_
    refine pk_le 12 r (fun q => by omega) (fun _ => ?_) rfl rfl (by omega) (by omega)
    rw [nI_clamp (by omega)]
    refine ⟨pk_in r 12 hr' rfl, ?_⟩
    refine cV_nt42 hS r (hd r hr') hr' (aL (g r)).length 0 T I (by omega) (hH r hr').2.2.2.2.2.2.2 hT (fun J T' hJ hT' hx => ?_) rfl rfl
    refine ih (r + 1) T' J (by omega) (hH.fc hJ (fun a a1 a2 => by simp <;> omega)) hT' (fun c hc => ?_) (fun K T'' hK => hF K T'' (hJ.tr hK)) rfl
    rw [hx c hc, hh c hc, List.drop_zero]
    refine ⟨fun q => ?_, fun q => ?_⟩
    · rcases q with ⟨x, x1, x2⟩ | q
      · exact ⟨x, by omega, x2⟩
      · exact ⟨r, by omega, q⟩
    · obtain ⟨x, x1, x2⟩ := q
      by_cases e : x = r
      · subst e
        exact Or.inr x2
      · exact Or.inl ⟨x, by omega, x2⟩
theorem cV_nt2 (hS : shC S) : ∀ (m c : Nat) (I : Nat → Nat → Int32) {v1 : Int32}, c + m = 128 → (∀ x, x < c → I 76 x = bI false) →
    (∀ J, FC [76] I J → CT J (fun _ => false) → fx_Go G (1, 12) mm_V_noteTaken 24 [(0, fx_r G 0), (1, .int (nI 0))] [] (fx_wI S J) Q) → v1 = nI c →
    fx_Go G (1, 12) mm_V_noteTaken 2 [(0, fx_r G 0), (1, .int v1)] [] (fx_wI S I) Q := by
  intro m
  induction m with
  | zero =>
    intro c I v1 hc hI hF e1
    subst e1
    refine bs_V_noteTaken_2 hS.w _ ?_
    exact pk_le 128 c (fun _ => hF I (FC.r _ _) (fun x hx => hI x (by omega))) (fun q => by omega) rfl rfl (by omega) (by omega)
  | succ m ih =>
    intro c I v1 hc hI hF e1
    subst e1
    refine bs_V_noteTaken_2 hS.w _ ?_
    refine pk_le 128 c (fun q => by omega) (fun _ => ?_) rfl rfl (by omega) (by omega)
    simp only [wI_setI, forall_eq]
    rw [nI_clamp (by omega)]
    refine ⟨pk_in c 128 (by omega) rfl, ?_⟩
    have hw : FC [76] I (fx_w I 76 c (vp_nar .boolean 0)) := FC.w [76] I 76 _ _ (by simp <;> omega)
    refine ih (c + 1) _ (by omega) (fun x hx => ?_) (fun J hJ => hF J (hw.tr hJ)) (by first | rfl | (simp (disch := omega) only [nI_lit, nI_ofInt1, nI_ofInt4, nI_ofInt2, nI_ofInt3, mI_neg, wI_I, wI_setI, wI_setR, forall_eq, nI_add, pk_mul, pk_sub, pk_div, pk_rem, nI_clamp, nI_leI, nI_ltI, nI_eq, vin_iff, nar0, nar1, nF_ap, bF_ap, oF_ap, bI_0, bI_1, and255, bu_w, bu_p, bu_90, bu_9, row_w, row_at, nF_up, nI_ofIntm] <;> first | done | omega | (congr 1; omega)))
    by_cases e : x = c
    · subst e
      rw [fw_at]
      rfl
    · rw [fw_nj e]
      exact hI x (by omega)
theorem cV_noteTaken {F : fx_S → Prop} (hS : shC S) {U : Nat → Bool} {g : Nat → AS} (hK : GK U g) (hH : CH I g) (hF : ∀ J, FC [76] I J → (∀ T, tkT U g 12 T → CT J T) → F (fx_wI S J)) :
    fx_Go G (1, 12) mm_V_noteTaken 0 [(0, fx_r G 0)] [] (fx_wI S I) (fx_qv F Q) := by
  have hd : ∀ r, r < 12 → dlo (aL (g r)) := by
    intro r hr
    cases hu : U r with
    | true => exact ((hK r hr).1 hu).dl
    | false =>
      obtain ⟨n, _, e⟩ := (hK r hr).2 hu
      rw [e]
      exact ⟨by show 0 ≤ 63; omega, fun c hc => by cases hc⟩
  refine bs_V_noteTaken_0 hS.w ?_
  refine cV_nt2 hS 128 0 I (by omega) (fun x hx => by omega) (fun J hJ hT => ?_) rfl
  refine cV_nt24 hS hd 12 0 _ J (by omega) (hH.fc hJ (fun a a1 a2 => by simp <;> omega)) hT (fun c _ => ⟨fun q => by (cases q), fun q => ?_⟩) (fun K T' hK' hT' hx => hF K (hJ.tr hK') (fun T hTk c hc => ?_)) rfl
  · obtain ⟨x, x1, _⟩ := q
    omega
  · rw [hT' c hc]
    congr 1
    have e1 := hx c hc
    have e2 := hTk c hc
    have e3 : (∃ x, x < 12 ∧ some c ∈ aL (g x)) ↔ ∃ r, r < 12 ∧ U r = true ∧ some c ∈ aL (g r) := by
      refine ⟨fun q => ?_, fun q => ?_⟩
      · obtain ⟨x, x1, x2⟩ := q
        cases hu : U x with
        | true => exact ⟨x, x1, hu, x2⟩
        | false =>
          obtain ⟨n, _, e⟩ := (hK x x1).2 hu
          rw [e] at x2
          cases x2
      · obtain ⟨x, x1, _, x2⟩ := q
        exact ⟨x, x1, x2⟩
    cases z : T c with
    | true => exact e1.mpr (e3.mpr (e2.mp z))
    | false =>
      cases z2 : T' c with
      | false => rfl
      | true => rw [e2.mpr (e3.mp (e1.mp z2))] at z; cases z
end CM
