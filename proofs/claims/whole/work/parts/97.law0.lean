/-! The law: its pieces. -/
def LwS (S : fx_S) (c : Nat) : Prop := shC S ∧ shM S ∧ S.2.1 95 = (103, 1) ∧ fx_m S = 96 ∧ fx_x S ≤ c ∧ fx_k S ≤ 11000 + 6 * c
theorem LwS.rm {S : fx_S} {c : Nat} (h : LwS S c) (hc : c ≤ 600) : fx_roomx S := ⟨by rw [h.2.2.2.1]; have := h.2.2.2.2.1; omega, by have := h.2.2.2.2.2; omega⟩
theorem LwS.exc {S : fx_S} {c : Nat} (h : LwS S c) : LwS (fx_exc S) (c + 1) := by
  obtain ⟨h1, h2, h3, h4, h5, h6⟩ := h
  refine ⟨h1, h2, h3, h4, ?_, ?_⟩
  · show S.1.2.1 + 1 ≤ c + 1
    have : S.1.2.1 ≤ c := h5
    omega
  · show S.1.2.2 + 6 ≤ 11000 + 6 * (c + 1)
    have : S.1.2.2 ≤ 11000 + 6 * c := h6
    omega
theorem LwS.mono {S : fx_S} {c : Nat} (h : LwS S c) : LwS S (c + 1) := by
  obtain ⟨h1, h2, h3, h4, h5, h6⟩ := h
  exact ⟨h1, h2, h3, h4, by omega, by omega⟩
theorem LwS.setJ {S : fx_S} {c : Nat} (h : LwS S c) (x : Int64) : LwS (fx_setJ S 95 0 x) c := h
theorem LwS.is {S : fx_S} {c : Nat} (h : LwS S c) (I : Nat → Nat → Int32) : fx_is (fx_wI S I) 95 103 := ⟨by show S.1.1 > 95; have : S.1.1 = 96 := h.2.2.2.1; omega, by show (S.2.1 95).1 = 103; rw [h.2.2.1]⟩
theorem LwS.ln {S : fx_S} {c : Nat} (h : LwS S c) (I : Nat → Nat → Int32) : vp_in 0 (fx_ln (fx_wI S I) 95) := by
  have e : fx_ln (fx_wI S I) 95 = 1 := by show (S.2.1 95).2 = 1; rw [h.2.2.1]
  rw [e]
  exact pk_in 0 1 (by omega) rfl
theorem MS.lc {I I' : Nat → Nat → Int32} {A : VS} (h : MS I A) (hL : LC I I') : MS I' A := by
  obtain ⟨h1, h2, h3, h4, h5, U, T, h6, h7, h8⟩ := h
  exact ⟨by rw [hL 86 (by omega)]; exact h1, by rw [hL 85 (by omega)]; exact h2, by rw [hL 85 (by omega)]; exact h3, h4.cg (hL 89 (by omega)), by rw [hL 85 (by omega)]; exact h5, U, T, by rw [hL 87 (by omega)]; exact h6, by rw [hL 88 (by omega)]; exact h7, h8⟩
theorem ShP.k {I I' : Nat → Nat → Int32} {h : Nat} {s : AS} (hP : ShP I h s) (hK : K85 I I') (hh : h + 5 < 85) : ShP I' h s := by
  obtain ⟨h1, h2, h3, h4, h5, h6, h7, h8⟩ := hP
  have e := hK h (by omega)
  exact ⟨by rw [e]; exact h1, by rw [e]; exact h2, by rw [e]; exact h3, by rw [e]; exact h4, by rw [e]; exact h5, h6.cg (hK _ (by omega)) (hK _ (by omega)), h7.cg (hK _ (by omega)), h8.cg (hK _ (by omega)) (hK _ (by omega))⟩
theorem CS.k {I I' : Nat → Nat → Int32} {A : VS} (h : CS I A) (hK : K85 I I') : CS I' A := by
  refine ⟨⟨by rw [hK 2 (by omega)]; exact h.1.1, by rw [hK 1 (by omega)]; exact h.1.2.1, h.1.2.2.cg (hK 77 (by omega)) (hK 78 (by omega))⟩, by rw [hK 0 (by omega)]; exact h.2.1, fun ho => ?_⟩
  obtain ⟨g1, g2⟩ := h.2.2 ho
  exact ⟨fun r hr => (g1 r hr).k hK (by omega), fun c hc => by rw [hK 76 (by omega)]; exact g2 c hc⟩
def Qh (H : Nat → fx_S → Prop) : fx_R → fx_S → Prop := fun o S => match o with
  | .inr k => H k S
  | .inl _ => False
theorem qi_qh {F : Int32 → fx_S → Prop} {H : Nat → fx_S → Prop} : ∀ o S1, fx_qi F (Qh H) o S1 → fx_qh F H o S1 := by
  intro o S1 hq
  match o, hq with
  | .inl (some (.int r)), hq => exact hq
  | .inr k, hq => exact hq
theorem qv_qh {F : fx_S → Prop} {H : Nat → fx_S → Prop} : ∀ o S1, fx_qv F (Qh H) o S1 → fx_qhv F H o S1 := by
  intro o S1 hq
  match o, hq with
  | .inl none, hq => exact hq
  | .inr k, hq => exact hq
theorem sMk_c (A : VS) (v : Int32) (isF : Bool) : (sMk A v isF).1 ≤ 3 := by
  unfold sMk
  split
  · show 1 ≤ 3; omega
  · split
    · split
      · show 3 ≤ 3; omega
      · simp only
        split
        · show 1 ≤ 3; omega
        · split
          · show 1 ≤ 3; omega
          · show 0 ≤ 3; omega
    · show 2 ≤ 3; omega
theorem sWri_c (A : VS) (v a n b : Int32) : (sWri A v a n b).1 ≤ 3 := by
  unfold sWri
  split
  · show 1 ≤ 3; omega
  · split
    · simp only
      split
      · split
        · show 1 ≤ 3; omega
        · show 0 ≤ 3; omega
      · split
        · show 3 ≤ 3; omega
        · split
          · show 1 ≤ 3; omega
          · show 0 ≤ 3; omega
    · show 2 ≤ 3; omega
theorem sCut_c (A : VS) (v w : Int32) : (sCut A v w).1 ≤ 2 := by
  unfold sCut
  split
  · show 1 ≤ 2; omega
  · split
    · simp only
      split
      · show 1 ≤ 2; omega
      · show 0 ≤ 2; omega
    · show 2 ≤ 2; omega
theorem sRem_c (A : VS) (v : Int32) : (sRem A v).1 ≤ 2 := by
  unfold sRem
  split
  · show 1 ≤ 2; omega
  · split
    · simp only
      split
      · show 1 ≤ 2; omega
      · split
        · show 1 ≤ 2; omega
        · show 0 ≤ 2; omega
    · show 2 ≤ 2; omega
theorem sMov_c (A : VS) (v w : Int32) : (sMov A v w).1 ≤ 2 := by
  unfold sMov
  split
  · show 1 ≤ 2; omega
  · split
    · simp only
      split
      · show 1 ≤ 2; omega
      · split
        · show 1 ≤ 2; omega
        · split
          · show 1 ≤ 2; omega
          · show 0 ≤ 2; omega
    · show 2 ≤ 2; omega
section LAW
variable {G : fx_G} {S : fx_S} {I : Nat → Nat → Int32} {Q : fx_R → fx_S → Prop} {A : VS} {c : Nat}
theorem fx_Jat (S : fx_S) (x : Int64) : fx_J (fx_setJ S 95 0 x) 95 0 = x := by
  show fx_row S.2.2.2.2 95 (vp_updL (fx_J S 95) 0 x) 95 0 = x
  rw [fx_row_self]
  exact pk_uLs
theorem cL_good {F : Int32 → fx_S → Prop} (hL : LwS S c) (x : Int32) (I1 : Nat → Nat → Int32) (hF : ∀ S1, LwS S1 (c + 1) → fx_J S1 95 0 = x.toInt64 → F (nI 0) (fx_wI S1 I1)) :
    fx_is (fx_wI S I1) 95 103 ∧ vp_in 0 (fx_ln (fx_wI S I1) 95) ∧ ∀ S6, S6 = fx_setJ (fx_wI S I1) 95 ((0 : Int32).toNatClampNeg) x.toInt64 → fx_qi F Q (.inl (some (.int 0))) S6 := by
  refine ⟨hL.is I1, hL.ln I1, fun S6 e6 => ?_⟩
  subst e6
  exact hF (fx_setJ S 95 0 x.toInt64) (hL.setJ _).mono (fx_Jat S _)
theorem cL_create {F : Int32 → fx_S → Prop} (hL : LwS S c) (hc : c ≤ 600) (hC : CS I A) (hB : BI A) (hO : vo A = true → OI A) (v1 : Int32) (isF : Bool) {v2 : Int32}
    (hF : ∀ S1 I1, LwS S1 (c + 1) → ((sCre A v1 isF).1 = 0 → fx_J S1 95 0 = (sCre A v1 isF).2.1.toInt64) → LC I I1 → CS I1 (sCre A v1 isF).2.2 → F (nI (sCre A v1 isF).1) (fx_wI S1 I1)) (e2 : v2 = bI isF) :
    fx_Go G (9, 126) mm_L_create 0 [(0, fx_r G 0), (1, .int v1), (2, .int v2), (3, fx_r G 95)] [] (fx_wI S I) (fx_qi F Q) := by
  have hcd : (sCre A v1 isF).1 ≤ 3 := sMk_c A v1 isF
  refine bk_L_create_0 0 _ _ 95 ⟨hL.1.is (by omega) rfl, fx_cons (cV_create hL.1 (hL.rm hc) hC hB hO v1 isF (fun h0 I1 hLC hCS => ?_) (fun h0 I1 hLC hCS => ?_) e2) qi_qh⟩
  · exact cL_good hL _ I1 (fun S1 hS1 hJ => by have := hF S1 I1 hS1 (fun _ => hJ) hLC hCS; rw [h0] at this; exact this)
  · have hx := hF (fx_exc S) I1 hL.exc (fun z => absurd z h0) hLC hCS
    generalize (sCre A v1 isF).1 = cd at *
    have : cd = 1 ∨ cd = 2 ∨ cd = 3 := by omega
    rcases this with e | e | e <;> subst e
    · exact Or.inl ⟨rfl, hx⟩
    · exact Or.inr (Or.inl ⟨rfl, hx⟩)
    · exact Or.inr (Or.inr ⟨rfl, hx⟩)
theorem cL_write {F : Int32 → fx_S → Prop} (hL : LwS S c) (hc : c ≤ 600) (hC : CS I A) (hB : BI A) (hO : vo A = true → OI A) (v1 v2 v3 v4 : Int32)
    (hF : ∀ S1 I1, LwS S1 (c + 1) → ((sWri A v1 v2 v3 v4).1 = 0 → fx_J S1 95 0 = (sWri A v1 v2 v3 v4).2.1.toInt64) → LC I I1 → CS I1 (sWri A v1 v2 v3 v4).2.2 → F (nI (sWri A v1 v2 v3 v4).1) (fx_wI S1 I1)) :
    fx_Go G (9, 129) mm_L_write 0 [(0, fx_r G 0), (1, .int v1), (2, .int v2), (3, .int v3), (4, .int v4), (5, fx_r G 95)] [] (fx_wI S I) (fx_qi F Q) := by
  have hcd := sWri_c A v1 v2 v3 v4
  refine bk_L_write_0 0 _ _ _ _ 95 ⟨hL.1.is (by omega) rfl, fx_cons (cV_write hL.1 (hL.rm hc) hC hB hO v1 v2 v3 v4 (fun h0 I1 hLC hCS => ?_) (fun h0 I1 hLC hCS => ?_)) qi_qh⟩
  · exact cL_good hL _ I1 (fun S1 hS1 hJ => by have := hF S1 I1 hS1 (fun _ => hJ) hLC hCS; rw [h0] at this; exact this)
  · have hx := hF (fx_exc S) I1 hL.exc (fun z => absurd z h0) hLC hCS
    generalize (sWri A v1 v2 v3 v4).1 = cd at *
    have : cd = 1 ∨ cd = 2 ∨ cd = 3 := by omega
    rcases this with e | e | e <;> subst e
    · exact Or.inl ⟨rfl, hx⟩
    · exact Or.inr (Or.inl ⟨rfl, hx⟩)
    · exact Or.inr (Or.inr ⟨rfl, hx⟩)
theorem cL_cut {F : Int32 → fx_S → Prop} (hL : LwS S c) (hc : c ≤ 600) (hC : CS I A) (hB : BI A) (hO : vo A = true → OI A) (v1 v2 : Int32)
    (hF : ∀ S1 I1, LwS S1 (c + 1) → ((sCut A v1 v2).1 = 0 → fx_J S1 95 0 = (sCut A v1 v2).2.1.toInt64) → LC I I1 → CS I1 (sCut A v1 v2).2.2 → F (nI (sCut A v1 v2).1) (fx_wI S1 I1)) :
    fx_Go G (9, 127) mm_L_cut 0 [(0, fx_r G 0), (1, .int v1), (2, .int v2), (3, fx_r G 95)] [] (fx_wI S I) (fx_qi F Q) := by
  have hcd := sCut_c A v1 v2
  refine bk_L_cut_0 0 _ _ 95 ⟨hL.1.is (by omega) rfl, fx_cons (cV_cut hL.1 (hL.rm hc) hC hB hO v1 v2 (fun h0 I1 hLC hCS => ?_) (fun h0 I1 hLC hCS => ?_)) qi_qh⟩
  · exact cL_good hL _ I1 (fun S1 hS1 hJ => by have := hF S1 I1 hS1 (fun _ => hJ) hLC hCS; rw [h0] at this; exact this)
  · have hx := hF (fx_exc S) I1 hL.exc (fun z => absurd z h0) hLC hCS
    generalize (sCut A v1 v2).1 = cd at *
    have : cd = 1 ∨ cd = 2 := by omega
    rcases this with e | e <;> subst e
    · exact Or.inl ⟨rfl, hx⟩
    · exact Or.inr ⟨rfl, hx⟩
theorem cL_remove {F : Int32 → fx_S → Prop} (hL : LwS S c) (hc : c ≤ 600) (hC : CS I A) (hB : BI A) (hO : vo A = true → OI A) (v1 : Int32)
    (hF : ∀ S1 I1, LwS S1 (c + 1) → ((sRem A v1).1 = 0 → fx_J S1 95 0 = (sRem A v1).2.1.toInt64) → LC I I1 → CS I1 (sRem A v1).2.2 → F (nI (sRem A v1).1) (fx_wI S1 I1)) :
    fx_Go G (9, 127) mm_L_remove 0 [(0, fx_r G 0), (1, .int v1), (2, fx_r G 95)] [] (fx_wI S I) (fx_qi F Q) := by
  have hcd := sRem_c A v1
  refine bk_L_remove_0 0 _ 95 ⟨hL.1.is (by omega) rfl, fx_cons (cV_remove hL.1 (hL.rm hc) hC hB hO v1 (fun h0 I1 hLC hCS => ?_) (fun h0 I1 hLC hCS => ?_)) qi_qh⟩
  · exact cL_good hL _ I1 (fun S1 hS1 hJ => by have := hF S1 I1 hS1 (fun _ => hJ) hLC hCS; rw [h0] at this; exact this)
  · have hx := hF (fx_exc S) I1 hL.exc (fun z => absurd z h0) hLC hCS
    generalize (sRem A v1).1 = cd at *
    have : cd = 1 ∨ cd = 2 := by omega
    rcases this with e | e <;> subst e
    · exact Or.inl ⟨rfl, hx⟩
    · exact Or.inr ⟨rfl, hx⟩
theorem cL_move {F : Int32 → fx_S → Prop} (hL : LwS S c) (hc : c ≤ 600) (hC : CS I A) (hB : BI A) (hO : vo A = true → OI A) (v1 v2 : Int32)
    (hF : ∀ S1 I1, LwS S1 (c + 1) → LC I I1 → CS I1 (sMov A v1 v2).2 → F (nI (sMov A v1 v2).1) (fx_wI S1 I1)) :
    fx_Go G (9, 124) mm_L_move 0 [(0, fx_r G 0), (1, .int v1), (2, .int v2)] [] (fx_wI S I) (fx_qi F Q) := by
  have hcd := sMov_c A v1 v2
  refine bk_L_move_0 0 _ _ ⟨hL.1.is (by omega) rfl, fx_cons (cV_move hL.1 (hL.rm hc) hC hB hO v1 v2 (fun h0 I1 hLC hCS => ?_) (fun h0 I1 hLC hCS => ?_)) qv_qh⟩
  · have := hF S I1 hL.mono hLC hCS
    rw [h0] at this
    exact this
  · have hx := hF (fx_exc S) I1 hL.exc hLC hCS
    generalize (sMov A v1 v2).1 = cd at *
    have : cd = 1 ∨ cd = 2 := by omega
    rcases this with e | e <;> subst e
    · exact Or.inl ⟨rfl, hx⟩
    · exact Or.inr ⟨rfl, hx⟩
theorem cL_mount {F : Int32 → fx_S → Prop} (hL : LwS S c) (hc : c ≤ 600) (hC : CB I A) (hB : BI A) (f : Nat → AS) (hf : MR (vD A) f) (U : Nat → Bool) (hU : okU (vD A) U)
    (hF : ∀ S1 I1, LwS S1 (c + 1) → (vo (sMnt (mSt A U f)).2 = true → fx_J S1 95 0 = (nI (sMnt (mSt A U f)).1).toInt64) → LC I I1 → (∀ T, (vo (sMnt (mSt A U f)).2 = true → tkT (vU (sMnt (mSt A U f)).2) (vf (sMnt (mSt A U f)).2) 12 T) → CS I1 (setT (sMnt (mSt A U f)).2 T)) → F (nI (if vo (sMnt (mSt A U f)).2 = true then 0 else 1)) (fx_wI S1 I1)) :
    fx_Go G (10, 140) mm_L_mount 0 [(0, fx_r G 0), (1, fx_r G 95)] [] (fx_wI S I) (fx_qi F Q) := by
  refine bk_L_mount_0 0 95 ⟨hL.1.is (by omega) rfl, fx_cons (cV_mount hL.1 (hL.rm hc) hC hB f hf U hU (fun ho I1 hLC hCB h04 hCH hCT => ?_) (fun ho I1 hLC hCB h04 => ?_)) qi_qh⟩
  · refine cL_good hL _ I1 (fun S1 hS1 hJ => ?_)
    have := hF S1 I1 hS1 (fun _ => hJ) hLC (fun T hT => ⟨hCB, by rw [show vo (setT (sMnt (mSt A U f)).2 T) = true from ho]; exact h04, fun _ => ⟨hCH, hCT T (hT ho)⟩⟩)
    rw [if_pos ho] at this
    exact this
  · have := hF (fx_exc S) I1 hL.exc (fun z => by rw [ho] at z; cases z) hLC (fun T hT => ⟨hCB, by rw [show vo (setT (sMnt (mSt A U f)).2 T) = false from ho]; exact h04, fun z => by rw [show vo (setT (sMnt (mSt A U f)).2 T) = false from ho] at z; cases z⟩)
    rw [if_neg (by rw [ho]; decide)] at this
    exact ⟨rfl, this⟩
theorem cL_tail {W : fx_S → Prop} (hL : LwS S c) {cd : Nat} (hcd : cd < 10) {x : Int32} (hJ : cd = 0 → fx_J S 95 0 = x.toInt64) (h0 : I 85 0 = nI cd) (hW : W (fx_wI S I)) {v5 : Int32} (e5 : v5 = nI cd) :
    fx_is (fx_wI S I) 85 5 ∧ fx_Go G (0, 0) mm_M_thrown 0 [(0, fx_r G 85)] [] (fx_wI S I) (fx_qi (fun x6 S4 => (x6 = v5 → (¬ v5 = 0 → W S4) ∧ (v5 = 0 → fx_is S4 95 103 ∧ vp_in 0 (fx_ln S4 95) ∧ ((lg_cmp (fx_J S4 95 ((0 : Int32).toNatClampNeg)) x.toInt64) = 0 → W S4) ∧ (¬ (lg_cmp (fx_J S4 95 ((0 : Int32).toNatClampNeg)) x.toInt64) = 0 → Q (.inl (some (.int 0))) S4))) ∧ (¬ x6 = v5 → Q (.inl (some (.int 0))) S4)) Q) := by
  refine ⟨hL.2.1.is (by omega) rfl, bs_M_thrown_0 (shM.w hL.2.1) ?_⟩
  show (fx_I (fx_wI S I) 85 0 = v5 → _) ∧ _
  rw [wI_I, h0, e5]
  refine ⟨fun _ => ⟨fun _ => hW, fun z => ⟨hL.is I, hL.ln I, fun _ => hW, fun q => absurd ?_ q⟩⟩, fun q => absurd rfl q⟩
  have hz : cd = 0 := by
    have z' : nI cd = nI 0 := z
    rw [nI_eq (by omega) (by omega)] at z'
    exact z'
  rw [lg_cmp_eq]
  exact hJ hz
end LAW
