/-! Words, clusters; lists of a sheet. -/
def dcl : Option Nat → Bool
  | some c => decide (48 ≤ c) && decide (c < 128)
  | none => false
theorem dcl_t {c : Nat} (h1 : 48 ≤ c) (h2 : c < 128) : dcl (some c) = true := by
  show (decide (48 ≤ c) && decide (c < 128)) = true
  rw [decide_eq_true h1, decide_eq_true h2]
  rfl
section CW
variable {G : fx_G} {S : fx_S} {I : Nat → Nat → Int32} {Q : fx_R → fx_S → Prop}
theorem cV_isDataCluster {F : Int32 → fx_S → Prop} (hS : shC S) {v0 : Int32} (o : Option Nat) (ho : ∀ c, o = some c → c < 256) (h : F (bI (dcl o)) (fx_wI S I)) (e0 : v0 = oI o) : fx_Go G (0, 0) mm_V_isDataCluster 0 [(0, .int v0)] [] (fx_wI S I) (fx_qi F Q) := by
  subst e0
  refine bs_V_isDataCluster_0 hS.w _ ?_
  cases o with
  | none => exact ⟨fun _ => h, fun q => absurd (by decide) q⟩
  | some c =>
    have hc := ho c rfl
    have hq : ∀ b, b = (decide (48 ≤ c) && decide (c < 128)) → fx_qi F Q (.inl (some (.int (bI b)))) (fx_wI S I) := by
      intro b hb; rw [hb]; exact h
    simp only [oI]
    refine pk_lt c 48 (fun q => hq false (by rw [decide_eq_false (by omega)]; rfl)) (fun q => ?_) rfl rfl (by omega) (by omega)
    exact pk_le 128 c (fun q2 => hq false (by rw [decide_eq_false (p := c < 128) (by omega), Bool.and_false])) (fun q2 => hq true (by rw [decide_eq_true (by omega), decide_eq_true (by omega)]; rfl)) rfl rfl (by omega) (by omega)
theorem cV_clustersFor {F : Int32 → fx_S → Prop} (hS : shC S) {v0 : Int32} (n : Nat) (hn : n < 10000) (h : F (nI ((n + 15) / 16)) (fx_wI S I)) (e0 : v0 = nI n) : fx_Go G (0, 0) mm_V_clustersFor 0 [(0, .int v0)] [] (fx_wI S I) (fx_qi F Q) := by
  subst e0
  refine bs_V_clustersFor_0 hS.w _ ?_
  simp (disch := omega) only [nI_lit, nI_ofInt1, nI_ofInt4, nI_ofInt2, nI_ofInt3, mI_neg, wI_I, wI_setI, wI_setR, forall_eq, nI_add, pk_mul, pk_sub, pk_div, pk_rem, nI_clamp, nI_leI, nI_ltI, nI_eq, vin_iff, nar0, nar1, nF_ap, bF_ap, oF_ap, bI_0, bI_1, and255, bu_w, bu_p, bu_90, bu_9, row_w, row_at, nF_up, nI_ofIntm]
  rw [show n + 16 - 1 = n + 15 by omega]
  exact h
theorem cV_endOfLast {F : Int32 → fx_S → Prop} (hS : shC S) {v0 : Int32} (n : Nat) (hn : n < 10000) (h : F (nI (16 * ((n + 15) / 16))) (fx_wI S I)) (e0 : v0 = nI n) : fx_Go G (1, 12) mm_V_endOfLastCluster 0 [(0, .int v0)] [] (fx_wI S I) (fx_qi F Q) := by
  refine bs_V_endOfLastCluster_0 hS.w _ ?_
  refine cV_clustersFor hS n hn ⟨hS, ?_⟩ e0
  rw [show nI ((n + 15) / 16) * 16 = nI (16 * ((n + 15) / 16)) by rw [show (16 : Int32) = nI 16 from rfl, pk_mul, Nat.mul_comm]]
  exact h
theorem cV_wordAt {F : Int32 → fx_S → Prop} (hS : shC S) (v : Nat) (hv : isA v 64) {b : Nat → Nat} (hb : I v = nF b) {v1 : Int32} (p : Nat) (hp : p < 63) (h : F (nI (wrd b p)) (fx_wI S I)) (e1 : v1 = nI p) : fx_Go G (0, 0) mm_V_wordAt 0 [(0, fx_r G v), (1, .int v1)] [] (fx_wI S I) (fx_qi F Q) := by
  subst e1
  refine bs_V_wordAt_0 hS.w v _ hv ?_
  simp (disch := omega) only [nI_lit, nI_ofInt1, nI_ofInt4, nI_ofInt2, nI_ofInt3, mI_neg, wI_I, wI_setI, wI_setR, forall_eq, nI_add, pk_mul, pk_sub, pk_div, pk_rem, nI_clamp, nI_leI, nI_ltI, nI_eq, vin_iff, nar0, nar1, nF_ap, bF_ap, oF_ap, bI_0, bI_1, and255, bu_w, bu_p, bu_90, bu_9, row_w, row_at, nF_up, nI_ofIntm, hb]
  exact ⟨by omega, by omega, h⟩
theorem shr8 (w : Nat) (hw : w < 65536) : (nI w >>> (8 &&& 31)) &&& 255 = nI (w / 256) := by
  have e := pk_shrN (n := w) (by omega) (8 &&& 31) 8 (by decide)
  rw [e, show (255 : Int32) = nI 255 from rfl, and255 _ (by omega)]
  congr 1
  omega
theorem cV_putWord {F : fx_S → Prop} (hS : shC S) (v : Nat) (hv : isA v 64) {b : Nat → Nat} (hb : I v = nF b) {v1 v2 : Int32} (p w : Nat) (hp : p < 63) (hw : w < 65536) (h : F (fx_wI S (fx_row I v (nF (up (up b p (w % 256)) (p + 1) (w / 256)))))) (e1 : v1 = nI p) (e2 : v2 = nI w) : fx_Go G (0, 0) mm_V_putWord 0 [(0, fx_r G v), (1, .int v1), (2, .int v2)] [] (fx_wI S I) (fx_qv F Q) := by
  subst e1 e2
  refine bs_V_putWord_0 hS.w v _ _ hv ?_
  simp only [wI_setI, forall_eq]
  rw [shr8 w hw, show nI w &&& 255 = nI (w % 256) from and255 w (by omega), pk_cl p rfl (by omega), pk_cl (p + 1) (by first | rfl | (simp (disch := omega) only [nI_lit, nI_ofInt1, nI_ofInt4, nI_ofInt2, nI_ofInt3, mI_neg, wI_I, wI_setI, wI_setR, forall_eq, nI_add, pk_mul, pk_sub, pk_div, pk_rem, nI_clamp, nI_leI, nI_ltI, nI_eq, vin_iff, nar0, nar1, nF_ap, bF_ap, oF_ap, bI_0, bI_1, and255, bu_w, bu_p, bu_90, bu_9, row_w, row_at, nF_up, nI_ofIntm] <;> first | done | omega | (congr 1; omega))) (by omega)]
  refine ⟨pk_in p 64 (by omega) rfl, pk_in (p + 1) 64 (by omega) (by first | rfl | (simp (disch := omega) only [nI_lit, nI_ofInt1, nI_ofInt4, nI_ofInt2, nI_ofInt3, mI_neg, wI_I, wI_setI, wI_setR, forall_eq, nI_add, pk_mul, pk_sub, pk_div, pk_rem, nI_clamp, nI_leI, nI_ltI, nI_eq, vin_iff, nar0, nar1, nF_ap, bF_ap, oF_ap, bI_0, bI_1, and255, bu_w, bu_p, bu_90, bu_9, row_w, row_at, nF_up, nI_ofIntm] <;> first | done | omega | (congr 1; omega))), ?_⟩
  rw [← row_self hb, row_w, nF_up, row_w, nF_up]
  exact h
end CW
