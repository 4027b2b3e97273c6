/-! The class's disk; a sheet is stored. -/
def dlo (l : List (Option Nat)) : Prop := l.length ≤ 63 ∧ ∀ c, some c ∈ l → 48 ≤ c ∧ c < 128
theorem dlo.y {l : List (Option Nat)} (h : dlo l) : yok l := ⟨h.1, fun c hc => by have := h.2 c hc; omega⟩
theorem dlo.g {l : List (Option Nat)} (h : dlo l) (i c : Nat) (e : go l i = some c) : 48 ≤ c ∧ c < 128 := by
  by_cases hi : i < l.length
  · exact h.2 c (e ▸ go_mem hi)
  · rw [go_out (by omega)] at e
    cases e
def CB (I : Nat → Nat → Int32) (A : VS) : Prop := I 2 = nF (vD A) ∧ I 1 1 = nI (vt A) ∧ NmP I 77 (vl A)
def CH (I : Nat → Nat → Int32) (g : Nat → AS) : Prop := ∀ r, r < 12 → ShP I (4 + 6 * r) (g r)
def CT (I : Nat → Nat → Int32) (T : Nat → Bool) : Prop := ∀ c, c < 128 → I 76 c = bI (T c)
theorem CH.fc {cs : List Nat} {I I' : Nat → Nat → Int32} {g : Nat → AS} (h : CH I g) (hF : FC cs I I') (hc : ∀ a, 4 ≤ a → a < 76 → a ∉ cs) : CH I' g := fun r hr => (h r hr).fc hF (fun a a1 a2 => hc a (by omega) (by omega))
theorem CB.fc {cs : List Nat} {I I' : Nat → Nat → Int32} {A : VS} (h : CB I A) (hF : FC cs I I') (h1 : 1 ∉ cs) (h2 : 2 ∉ cs) (h3 : 77 ∉ cs) (h4 : 78 ∉ cs) : CB I' A := ⟨by rw [hF 2 h2]; exact h.1, by rw [hF 1 h1]; exact h.2.1, h.2.2.fc hF h3 h4⟩
theorem CT.fc {cs : List Nat} {I I' : Nat → Nat → Int32} {T : Nat → Bool} (h : CT I T) (hF : FC cs I I') (h1 : 76 ∉ cs) : CT I' T := fun c hc => by rw [hF 76 h1]; exact h c hc
section CD
variable {G : fx_G} {S : fx_S} {I : Nat → Nat → Int32} {Q : fx_R → fx_S → Prop}
theorem cD_isCutNow {F : Int32 → fx_S → Prop} (hS : shC S) (t : Nat) (ht : I 1 1 = nI t) (ht2 : t < 1000) (hF : ∀ J, FC [1] I J → J 1 1 = nI (t - 1) → F (bI (decide (t = 1))) (fx_wI S J)) : fx_Go G (0, 0) mm_D_isCutNow 0 [(0, fx_r G 1)] [] (fx_wI S I) (fx_qi F Q) := by
  refine bs_D_isCutNow_0 hS.w ?_
  simp only [wI_I, wI_setI, forall_eq, ht]
  refine ne_pair (pk_eq t 0 (fun q => ?_) (fun q => ?_) rfl rfl (by omega) (by omega))
  · have := hF I (FC.r _ _) (by rw [ht, q])
    rw [decide_eq_false (by omega)] at this
    exact this
  · have e1 : nI t - 1 = nI (t - 1) := by rw [show (1 : Int32) = nI 1 from rfl, pk_sub (by omega)]
    rw [e1, fw_at]
    have := hF _ (FC.w [1] I 1 1 (nI (t - 1)) (by simp <;> omega)) (fw_at _ _ _ _)
    refine ne_pair (pk_eq (t - 1) 0 (fun q2 => ?_) (fun q2 => ?_) rfl rfl (by omega) (by omega))
    · rw [decide_eq_true (by omega)] at this
      exact this
    · rw [decide_eq_false (by omega)] at this
      exact this
theorem cD_laySector {F : fx_S → Prop} (hS : shC S) {D b : Nat → Nat} (hD : I 2 = nF D) (hb : I 83 = nF b) (r w : Nat) (hr : r < 12) (hw : w < 2) {v1 v2 : Int32} (hF : F (fx_wI S (fx_row I 2 (nF (secD D r w b))))) (e1 : v1 = nI r) (e2 : v2 = nI w) :
    fx_Go G (1, 18) mm_D_laySector 0 [(0, fx_r G 1), (1, .int v1), (2, .int v2), (3, fx_r G 83)] [] (fx_wI S I) (fx_qv F Q) := by
  subst e1 e2
  refine bs_D_laySector_0 hS.w _ _ 83 isA_image ?_
  simp only [wI_I, wI_setR, forall_eq, hD, hb]
  have a1 : nI w * 32 = nI (32 * w) := by rw [show (32 : Int32) = nI 32 from rfl, pk_mul, Nat.mul_comm]
  have a2 : nI r * 64 + nI w * 32 = nI (64 * r + 32 * w) := by rw [a1, show (64 : Int32) = nI 64 from rfl, pk_mul, nI_add, Nat.mul_comm r 64]
  rw [a2, a1, show (32 : Int32).toNatClampNeg = 32 from rfl, nI_clamp (by omega), nI_clamp (by omega)]
  refine ⟨⟨nI_pos (by omega), nI_pos (by omega), by decide, by rw [nI_clamp (by omega)]; show 32 * w + 32 ≤ 64; omega, by rw [nI_clamp (by omega)]; show 64 * r + 32 * w + 32 ≤ 2048; omega⟩, ?_⟩
  have e : va_cpy (nF b) (nF D) (32 * w) (64 * r + 32 * w) 32 = nF (secD D r w b) := by
    funext k
    unfold secD secP
    by_cases hk : 64 * r + 32 * w ≤ k ∧ k < 64 * r + 32 * w + 32
    · rw [pk_cpy_in hk.1 hk.2, nF_ap, nF_ap, if_pos hk]
      congr 2
      omega
    · rw [pk_cpy_out (by omega), nF_ap, nF_ap, if_neg hk]
  rw [e]
  exact hF
theorem cD_liftRecord {F : fx_S → Prop} (hS : shC S) {D : Nat → Nat} (hD : I 2 = nF D) (r : Nat) (hr : r < 12) {v1 : Int32} (hF : ∀ b, (∀ k, k < 64 → b k = D (64 * r + k)) → F (fx_wI S (fx_row I 83 (nF b)))) (e1 : v1 = nI r) :
    fx_Go G (1, 18) mm_D_liftRecord 0 [(0, fx_r G 1), (1, .int v1), (2, fx_r G 83)] [] (fx_wI S I) (fx_qv F Q) := by
  subst e1
  refine bs_D_liftRecord_0 hS.w _ 83 isA_image ?_
  simp only [wI_I, wI_setR, forall_eq, hD]
  have a2 : nI r * 64 = nI (64 * r) := by rw [show (64 : Int32) = nI 64 from rfl, pk_mul, Nat.mul_comm r 64]
  rw [a2, show (0 : Int32).toNatClampNeg = 0 from rfl, show (64 : Int32).toNatClampNeg = 64 from rfl, nI_clamp (by omega)]
  refine ⟨⟨nI_pos (by omega), by decide, by decide, by rw [nI_clamp (by omega)]; show 64 * r + 64 ≤ 2048; omega, by show 0 + 64 ≤ 64; omega⟩, ?_⟩
  obtain ⟨b, hb⟩ := nF_surj (I 83)
  rw [hb]
  have e : va_cpy (nF D) (nF b) (64 * r) 0 64 = nF (fun k => if k < 64 then D (64 * r + k) else b k) := by
    funext k
    by_cases hk : k < 64
    · rw [pk_cpy_in (Nat.zero_le _) (by omega), nF_ap, nF_ap, if_pos hk, Nat.sub_zero]
    · rw [pk_cpy_out (by omega), nF_ap, nF_ap, if_neg hk]
  rw [e]
  exact hF _ (fun k hk => if_pos hk)
theorem cD_pf {l : List (Option Nat)} (hl : dlo l) (k : Nat) (D : Nat → Nat) : (∃ c, go l (k / 16) = some c ∧ 48 ≤ c ∧ c < 128) ∨ go l (k / 16) = none := by
  cases h : go l (k / 16) with
  | none => exact Or.inr rfl
  | some c => exact Or.inl ⟨c, rfl, hl.g _ _ h⟩
theorem cD_fileByte {F : Int32 → fx_S → Prop} (hS : shC S) (a : Nat) (ha : isY a) {l : List (Option Nat)} (hL : LyP I a l) (hl : dlo l) {D : Nat → Nat} (hD : I 2 = nF D) (k : Nat) (hk : k < 100000) {v2 : Int32} (hF : F (nI (fby D l k)) (fx_wI S I)) (e2 : v2 = nI k) :
    fx_Go G (1, 13) mm_D_fileByte 0 [(0, fx_r G 1), (1, fx_r G a), (2, .int v2)] [] (fx_wI S I) (fx_qi F Q) := by
  subst e2
  have a1 : nI k / 16 = nI (k / 16) := by rw [show (16 : Int32) = nI 16 from rfl, pk_div (by omega) (by omega) (by omega)]
  have a2 : nI k - nI k / 16 * 16 = nI (k % 16) := pk_rem (d := 16) (by omega) (by omega) (by omega)
  refine bs_D_fileByte_0 hS.w a _ ha ?_
  rw [a2, a1]
  refine cY_placeOf hS a ha hL hl.1 (k / 16) (by omega) ⟨hS, ?_⟩ rfl
  refine cV_isDataCluster hS (go l (k / 16)) (fun c e => by have := hl.g _ _ e; omega) ⟨hS, ?_⟩ rfl
  unfold fby at hF
  rcases cD_pf hl k D with ⟨c, e, c1, c2⟩ | e
  · rw [e] at hF ⊢
    simp only [oI, wI_I, hD] at hF ⊢
    refine b0 (fun q => ?_) (fun _ => ?_)
    · rw [dcl_t c1 c2] at q
      cases q
    · have e3 : nI c * 16 + nI (k % 16) = nI (16 * c + k % 16) := by rw [show (16 : Int32) = nI 16 from rfl, pk_mul, nI_add, Nat.mul_comm]
      rw [e3, nI_clamp (by omega)]
      exact ⟨pk_in _ 2048 (by omega) rfl, hF⟩
  · rw [e] at hF ⊢
    exact b0 (fun _ => hF) (fun q => by cases q)
theorem cD_putFileByte {F : fx_S → Prop} (hS : shC S) (a : Nat) (ha : isY a) {l : List (Option Nat)} (hL : LyP I a l) (hl : dlo l) {D : Nat → Nat} (hD : I 2 = nF D) (k v : Nat) (hk : k < 100000) {v2 v3 : Int32} (hF : F (fx_wI S (fx_row I 2 (nF (plD D l k v))))) (e2 : v2 = nI k) (e3 : v3 = nI v) :
    fx_Go G (1, 13) mm_D_putFileByte 0 [(0, fx_r G 1), (1, fx_r G a), (2, .int v2), (3, .int v3)] [] (fx_wI S I) (fx_qv F Q) := by
  subst e2 e3
  have a1 : nI k / 16 = nI (k / 16) := by rw [show (16 : Int32) = nI 16 from rfl, pk_div (by omega) (by omega) (by omega)]
  have a2 : nI k - nI k / 16 * 16 = nI (k % 16) := pk_rem (d := 16) (by omega) (by omega) (by omega)
  refine bs_D_putFileByte_0 hS.w a _ _ ha ?_
  rw [a2, a1]
  refine cY_placeOf hS a ha hL hl.1 (k / 16) (by omega) ⟨hS, ?_⟩ rfl
  refine cV_isDataCluster hS (go l (k / 16)) (fun c e => by have := hl.g _ _ e; omega) ⟨hS, ?_⟩ rfl
  unfold plD at hF
  rcases cD_pf hl k D with ⟨c, e, c1, c2⟩ | e
  · rw [e] at hF ⊢
    simp only [oI, wI_setI, forall_eq] at hF ⊢
    refine b0 (fun q => ?_) (fun _ => ?_)
    · rw [dcl_t c1 c2] at q
      cases q
    · have e3 : nI c * 16 + nI (k % 16) = nI (16 * c + k % 16) := by rw [show (16 : Int32) = nI 16 from rfl, pk_mul, nI_add, Nat.mul_comm]
      rw [e3, nI_clamp (by omega)]
      refine ⟨pk_in _ 2048 (by omega) rfl, ?_⟩
      rw [← row_self hD, row_w, nF_up]
      exact hF
  · rw [e] at hF ⊢
    rw [row_self hD] at hF
    exact b0 (fun _ => hF) (fun q => by cases q)
theorem cD_clear3 {F : fx_S → Prop} (hS : shC S) (a : Nat) (ha : isY a) (h2 : a ≠ 2 ∧ a + 1 ≠ 2) {l : List (Option Nat)} (hl : dlo l) (to : Nat) (hto : to < 100000) : ∀ (n k : Nat) (D : Nat → Nat) (I : Nat → Nat → Int32) {v3 v4 : Int32}, n = to - k → k < 100000 → LyP I a l → I 2 = nF D → F (fx_wI S (fx_row I 2 (nF (plw l (fun _ => some 0) n k D)))) → v3 = nI to → v4 = nI k →
    fx_Go G (2, 29) mm_D_clearFile 3 [(0, fx_r G 1), (1, fx_r G a), (3, .int v3), (4, .int v4)] [] (fx_wI S I) (fx_qv F Q) := by
  intro n
  induction n with
  | zero =>
    intro k D I v3 v4 hn hk hL hD hF e3 e4
    subst e3 e4
    refine bs_D_clearFile_3 hS.w a _ _ ha ?_
    refine pk_le to k (fun _ => ?_) (fun q => by omega) rfl rfl (by omega) (by omega)
    unfold plw at hF
    rw [row_self hD] at hF
    exact hF
  | succ n ih =>
    intro k D I v3 v4 hn hk hL hD hF e3 e4
    subst e3 e4
    refine bs_D_clearFile_3 hS.w a _ _ ha ?_
    refine pk_le to k (fun q => by omega) (fun _ => ?_) rfl rfl (by omega) (by omega)
    refine cD_putFileByte hS a ha hL hl hD k 0 hk ⟨hS, ?_⟩ rfl rfl
    refine ih (k + 1) (plD D l k 0) _ (by omega) (by omega) (hL.cg (fx_row_ne _ _ h2.1) (fx_row_ne _ _ h2.2)) (row_at _ _ _) ?_ rfl (by first | rfl | (simp (disch := omega) only [nI_lit, nI_ofInt1, nI_ofInt4, nI_ofInt2, nI_ofInt3, mI_neg, wI_I, wI_setI, wI_setR, forall_eq, nI_add, pk_mul, pk_sub, pk_div, pk_rem, nI_clamp, nI_leI, nI_ltI, nI_eq, vin_iff, nar0, nar1, nF_ap, bF_ap, oF_ap, bI_0, bI_1, and255, bu_w, bu_p, bu_90, bu_9, row_w, row_at, nF_up, nI_ofIntm] <;> first | done | omega | (congr 1; omega)))
    rw [row_row]
    exact hF
theorem cD_clearFile {F : fx_S → Prop} (hS : shC S) (a : Nat) (ha : isY a) (h2 : a ≠ 2 ∧ a + 1 ≠ 2) {l : List (Option Nat)} (hL : LyP I a l) (hl : dlo l) {D : Nat → Nat} (hD : I 2 = nF D) (k to : Nat) (hk : k < 100000) (hto : to < 100000) {v2 v3 : Int32} (hF : F (fx_wI S (fx_row I 2 (nF (plw l (fun _ => some 0) (to - k) k D))))) (e2 : v2 = nI k) (e3 : v3 = nI to) :
    fx_Go G (2, 29) mm_D_clearFile 0 [(0, fx_r G 1), (1, fx_r G a), (2, .int v2), (3, .int v3)] [] (fx_wI S I) (fx_qv F Q) := by
  refine bs_D_clearFile_0 hS.w a _ _ ha ?_
  exact cD_clear3 hS a ha h2 hl to hto (to - k) k D I rfl hk hL hD hF e3 e2
theorem cV_storeSector {F : fx_S → Prop} (hS : shC S) (hR : fx_roomx S) {D b : Nat → Nat} (hD : I 2 = nF D) (hb : I 83 = nF b) (t : Nat) (ht : I 1 1 = nI t) (ht2 : t < 1000) (r w : Nat) (hr : r < 12) (hw : w < 2) {v1 v2 : Int32}
    (h1 : t = 1 → ∀ J, FC [0, 1] I J → J 1 1 = nI 0 → J 0 4 = nI 0 → Q (.inr 1) (fx_exc (fx_wI S J))) (h2 : t ≠ 1 → ∀ J, FC [1, 2] I J → J 1 1 = nI (t - 1) → J 2 = nF (secD D r w b) → F (fx_wI S J)) (e1 : v1 = nI r) (e2 : v2 = nI w) :
    fx_Go G (6, 82) mm_V_storeSector 0 [(0, fx_r G 0), (1, .int v1), (2, .int v2)] [] (fx_wI S I) (fx_qv F Q) := by
  refine bs_V_storeSector_0 hS.w _ _ ?_
  refine cD_isCutNow hS t ht ht2 (fun J hJ h11 => ⟨hS, ?_⟩)
  refine b0 (fun q => ?_) (fun q => ?_)
  · have q' : t ≠ 1 := of_decide_eq_false q
    refine cD_laySector hS (D := D) (b := b) (by rw [hJ 2 (by simp <;> omega)]; exact hD) (by rw [hJ 83 (by simp <;> omega)]; exact hb) r w hr hw ⟨hS, ?_⟩ e1 e2
    exact h2 q' _ ((hJ.mono (fun a ha => by simp at ha ⊢ <;> omega)).tr (FC.row [1, 2] _ 2 _ (by simp <;> omega))) (by rw [fx_row_ne _ _ (by decide)]; exact h11) (row_at _ _ _)
  · have q' : t = 1 := of_decide_eq_true q
    simp only [wI_setI, forall_eq]
    refine ⟨hR, ?_⟩
    exact h1 q' _ ((hJ.mono (fun a ha => by simp at ha ⊢ <;> omega)).tr (FC.w [0, 1] _ 0 _ _ (by simp <;> omega))) (by rw [fw_ne (by decide), h11, q']) (fw_at _ _ _ _)
theorem cV_store {F : fx_S → Prop} (hS : shC S) (hR : fx_roomx S) {A : VS} (hC : CB I A) (ht : vt A ≤ 20) {g : Nat → AS} (hH : CH I g) (r : Nat) (hr : r < 12) (t : AS) (n : Nat) (hg : g r = setN t n) (hN : nxt n = nN (vD A) r) (hs : sok (g r)) (hn : nN (vD A) r < 65536) {v1 : Int32}
    (h1 : stOk (vt A) = false → ∀ J, FC [0, 1, 2, 83, 4 + 6 * r] I J → CB J (stA A r t) → J 0 4 = nI 0 → Q (.inr 1) (fx_exc (fx_wI S J)))
    (h2 : stOk (vt A) = true → ∀ J, FC [1, 2, 83, 4 + 6 * r] I J → CB J (stA A r t) → CH J (up g r (setN t (nN (vD A) r))) → F (fx_wI S J)) (e1 : v1 = nI r) :
    fx_Go G (7, 96) mm_V_store 0 [(0, fx_r G 0), (1, .int v1)] [] (fx_wI S I) (fx_qv F Q) := by
  subst e1
  obtain ⟨c1, c2, c3⟩ := hC
  have hh := isH_at r hr
  have hP := hH r hr
  rw [hg] at hP hs
  have hs' : sok (setN t (nN (vD A) r)) := ⟨hn, hs.2⟩
  refine bs_V_store_0 hS.w _ ?_
  rw [nI_clamp (by omega)]
  refine ⟨pk_in r 12 hr rfl, ?_⟩
  refine cH_takeNextNumber hS (4 + 6 * r) hh hP hs.1 (fun I1 hF1 hP1 => ⟨hS, pk_in r 12 hr rfl, ?_⟩)
  change ShP I1 (4 + 6 * r) (setN (setN t n) (nxt n)) at hP1
  rw [hN] at hP1
  change ShP I1 (4 + 6 * r) (setN t (nN (vD A) r)) at hP1
  refine cH_encode hS (4 + 6 * r) hh (by omega) hP1 hs' (fun I2 b hF2 hb2 hbe => ⟨hS, ?_⟩)
  have hbe' : ∀ i, i < 64 → b i = encB t (nN (vD A) r) i := hbe
  have hD2 : I2 2 = nF (vD A) := by rw [hF2 2 (by simp <;> omega), hF1 2 (by simp <;> omega)]; exact c1
  have ht2 : I2 1 1 = nI (vt A) := by rw [hF2 1 (by simp <;> omega), hF1 1 (by simp <;> omega)]; exact c2
  have hF12 : FC [83, 4 + 6 * r] I I2 := (hF1.mono (fun a ha => by simp at ha ⊢ <;> omega)).tr (hF2.mono (fun a ha => by simp at ha ⊢ <;> omega))
  have hst := stD_cg (D := vD A) (r := r) (t := vt A) hbe'
  have fin1 : ∀ J, FC [0, 1, 2, 83, 4 + 6 * r] I J → J 2 = nF (stD (vD A) r b (vt A)) → J 1 1 = nI (vt A - 2) → CB J (stA A r t) := by
    intro J hJ g2 g1
    refine ⟨by rw [g2, hst]; rfl, by rw [g1]; rfl, c3.fc hJ (by simp <;> omega) (by simp <;> omega)⟩
  refine cV_storeSector hS hR hD2 hb2 (vt A) ht2 (by omega) r 0 hr (by omega) (fun q J hJ g1 g4 => ?_) (fun q J hJ g1 g2 => ⟨hS, ?_⟩) rfl rfl
  · have hJ' : FC [0, 1, 2, 83, 4 + 6 * r] I J := (hF12.mono (fun a ha => by simp at ha ⊢ <;> omega)).tr (hJ.mono (fun a ha => by simp at ha ⊢ <;> omega))
    refine h1 (by rw [q]; rfl) J hJ' (fin1 J hJ' ?_ (by rw [g1, q])) g4
    rw [hJ 2 (by simp <;> omega), hD2]
    unfold stD
    rw [if_pos q]
  · have hb3 : J 83 = nF b := by rw [hJ 83 (by simp <;> omega)]; exact hb2
    refine cV_storeSector hS hR g2 hb3 (vt A - 1) g1 (by omega) r 1 hr (by omega) (fun q2 K hK k1 k4 => ?_) (fun q2 K hK k1 k2 => ⟨hS, ?_⟩) rfl rfl
    · have hK' : FC [0, 1, 2, 83, 4 + 6 * r] I K := ((hF12.mono (fun a ha => by simp at ha ⊢ <;> omega)).tr (hJ.mono (fun a ha => by simp at ha ⊢ <;> omega))).tr (hK.mono (fun a ha => by simp at ha ⊢ <;> omega))
      have e2 : vt A = 2 := by omega
      refine h1 (by rw [e2]; rfl) K hK' (fin1 K hK' ?_ (by rw [k1, e2])) k4
      rw [hK 2 (by simp <;> omega), g2]
      unfold stD
      rw [if_neg q, if_pos e2]
    · have hK0 : FC [1, 2, 83, 4 + 6 * r] I K := ((hF12.mono (fun a ha => by simp at ha ⊢ <;> omega)).tr (hJ.mono (fun a ha => by simp at ha ⊢ <;> omega))).tr (hK.mono (fun a ha => by simp at ha ⊢ <;> omega))
      have q3 : vt A ≠ 2 := by omega
      refine h2 (by unfold stOk; rw [decide_eq_false q, decide_eq_false q3]; rfl) K hK0 (fin1 K (hK0.mono (fun a ha => by simp at ha ⊢ <;> omega)) ?_ (by rw [k1]; congr 1)) (fun x hx => ?_)
      · rw [k2]
        unfold stD
        rw [if_neg q, if_neg q3]
      · unfold up
        by_cases e : x = r
        · subst e
          rw [if_pos rfl]
          exact hP1.fc (((hF2.mono (cs' := [1, 2, 83]) (fun a ha => by simp at ha ⊢ <;> omega)).tr (hJ.mono (fun a ha => by simp at ha ⊢ <;> omega))).tr (hK.mono (fun a ha => by simp at ha ⊢ <;> omega))) (fun a a1 a2 => by simp <;> omega)
        · rw [if_neg e]
          exact (hH x hx).fc hK0 (fun a a1 a2 => by simp <;> omega)
end CD
