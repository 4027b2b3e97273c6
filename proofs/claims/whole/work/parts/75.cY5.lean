/-! The class's layouts read from bytes. -/
section CY5
variable {G : fx_G} {S : fx_S} {I : Nat → Nat → Int32} {Q : fx_R → fx_S → Prop}
theorem cY_encode {F : Int32 → fx_S → Prop} (hS : shC S) (a v : Nat) (ha : isY a) (hv : isA v 64) (hva : v ≠ a ∧ v ≠ a + 1) {l : List (Option Nat)} (hl : yok l) (hL : LyP I a l) {b : Nat → Nat} (hb : I v = nF b) {v2 : Int32} (e : Nat) (he : e + (rn 48 l).length < 64) (hz : ∀ k, e ≤ k → k < 64 → b k = 0)
    (h : F (nI (e + (rn 48 l).length)) (fx_wI S (fx_row I v (nF (putL b e (rn 48 l)))))) (e2 : v2 = nI e) : fx_Go G (1, 13) mm_Y_encode 0 [(0, fx_r G a), (1, fx_r G v), (2, .int v2)] [] (fx_wI S I) (fx_qi F Q) := by
  refine bs_Y_encode_0 hS.w a v _ ha hv ?_
  exact cY_en12 hS a v ha hv hva hl l.length 0 e 48 e b I (by omega) (by omega) (fun _ => rfl) hL hb (by omega) (by rw [List.drop_zero]; exact he) hz (fun I' eI => by rw [List.drop_zero] at eI ⊢; rw [eI]; exact h) e2 e2 rfl rfl
theorem cY_de12 {F : fx_S → Prop} (hS : shC S) (a v : Nat) (ha : isY a) (hv : isA v 64) (hva : v ≠ a ∧ v ≠ a + 1) (b : Nat → Nat) (e : Nat) (he : e ≤ 64) : ∀ (n : Nat) (rest acc : List (Option Nat)) (p w : Nat) (I : Nat → Nat → Int32) {v3 v4 v5 : Int32}, rest.length ≤ n → acc.length + rest.length ≤ 63 → (∀ c, some c ∈ rest → c < 256) → w < 256 → I v = nF b → LyP I a acc → e = p + (rn w rest).length + 1 → (∀ i, i ≤ (rn w rest).length → b (p + i) = gd (rn w rest ++ [0]) i) →
    (∀ I', FC [a, a + 1] I I' → LyP I' a (acc ++ rest) → F (fx_wI S I')) → v3 = nI e → v4 = nI p → v5 = nI w →
    fx_Go G (1, 15) mm_Y_decode 12 [(0, fx_r G a), (1, fx_r G v), (3, .int v3), (4, .int v4), (5, .int v5)] [] (fx_wI S I) (fx_qv F Q) := by
  intro n
  have fin : ∀ (acc : List (Option Nat)) (p w : Nat) (I : Nat → Nat → Int32) {v3 v4 v5 : Int32}, LyP I a acc → e = p + 1 → (∀ I', FC [a, a + 1] I I' → LyP I' a (acc ++ []) → F (fx_wI S I')) → v3 = nI e → v4 = nI p → v5 = nI w →
      fx_Go G (1, 15) mm_Y_decode 12 [(0, fx_r G a), (1, fx_r G v), (3, .int v3), (4, .int v4), (5, .int v5)] [] (fx_wI S I) (fx_qv F Q) := by
    intro acc p w I v3 v4 v5 hL hee h e3 e4 e5
    subst e3 e4 e5
    rw [List.append_nil] at h
    refine bs_Y_decode_12 hS.w a v _ _ _ ha hv ?_
    exact pk_le e (p + 2) (fun _ => h I (FC.r _ _) hL) (fun z => absurd z (by omega)) rfl (by first | rfl | (simp (disch := omega) only [nI_lit, nI_ofInt1, nI_ofInt4, nI_ofInt2, nI_ofInt3, mI_neg, wI_I, wI_setI, wI_setR, forall_eq, nI_add, pk_mul, pk_sub, pk_div, pk_rem, nI_clamp, nI_leI, nI_ltI, nI_eq, vin_iff, nar0, nar1, nF_ap, bF_ap, oF_ap, bI_0, bI_1, and255, bu_w, bu_p, bu_90, bu_9, row_w, row_at, nF_up, nI_ofIntm] <;> first | done | omega | (congr 1; omega))) (by omega) (by omega)
  induction n with
  | zero =>
    intro rest acc p w I v3 v4 v5 hn hl hx hw hb hL hee hbb h e3 e4 e5
    have hnil : rest = [] := List.eq_nil_of_length_eq_zero (by omega)
    subst hnil
    exact fin acc p w I hL hee h e3 e4 e5
  | succ n ih =>
    intro rest acc p w I v3 v4 v5 hn hl hx hw hb hL hee hbb h e3 e4 e5
    cases rest with
    | nil => exact fin acc p w I hL hee h e3 e4 e5
    | cons x t =>
      subst e3 e4 e5
      have hct := cont_le x t
      simp only [List.length_cons] at hn hl
      have hxt : ∀ c, some c ∈ t.drop (cont x t) → c < 256 := fun c hc => hx c (List.mem_cons_of_mem _ (List.mem_of_mem_drop hc))
      have hx0 : ∀ c, x = some c → c < 256 := fun c hc => hx c (by rw [hc]; exact List.mem_cons_self ..)
      have hsplit : acc ++ runO x (cont x t + 1) ++ t.drop (cont x t) = acc ++ x :: t := by
        rw [runO_c, List.append_assoc]
        congr 1
        have := List.take_append_drop (cont x t + 1) (x :: t)
        rw [List.drop_succ_cons] at this
        exact this
      refine bs_Y_decode_12 hS.w a v _ _ _ ha hv ?_
      simp only [wI_I, hb]
      cases x with
      | none =>
        rw [rn_none] at hbb hee
        simp only [List.length_cons] at hbb hee
        have b0 : b p = 1 := hbb 0 (by omega)
        have b1' : b (p + 1) = cont none t + 1 := hbb 1 (by omega)
        refine pk_le e (p + 2) (fun z => absurd z (by omega)) (fun _ => ⟨pk_in p 64 (by omega) rfl, ?_⟩) rfl (by first | rfl | (simp (disch := omega) only [nI_lit, nI_ofInt1, nI_ofInt4, nI_ofInt2, nI_ofInt3, mI_neg, wI_I, wI_setI, wI_setR, forall_eq, nI_add, pk_mul, pk_sub, pk_div, pk_rem, nI_clamp, nI_leI, nI_ltI, nI_eq, vin_iff, nar0, nar1, nF_ap, bF_ap, oF_ap, bI_0, bI_1, and255, bu_w, bu_p, bu_90, bu_9, row_w, row_at, nF_up, nI_ofIntm] <;> first | done | omega | (congr 1; omega))) (by omega) (by omega)
        rw [pk_cl p rfl (by omega), nF_ap, b0, pk_cl (p + 1) (by first | rfl | (simp (disch := omega) only [nI_lit, nI_ofInt1, nI_ofInt4, nI_ofInt2, nI_ofInt3, mI_neg, wI_I, wI_setI, wI_setR, forall_eq, nI_add, pk_mul, pk_sub, pk_div, pk_rem, nI_clamp, nI_leI, nI_ltI, nI_eq, vin_iff, nar0, nar1, nF_ap, bF_ap, oF_ap, bI_0, bI_1, and255, bu_w, bu_p, bu_90, bu_9, row_w, row_at, nF_up, nI_ofIntm] <;> first | done | omega | (congr 1; omega))) (by omega), nF_ap, b1']
        refine ⟨fun z => absurd z (by decide), fun _ => ⟨pk_in p 64 (by omega) rfl, fun _ => ⟨pk_in (p + 1) 64 (by omega) (by first | rfl | (simp (disch := omega) only [nI_lit, nI_ofInt1, nI_ofInt4, nI_ofInt2, nI_ofInt3, mI_neg, wI_I, wI_setI, wI_setR, forall_eq, nI_add, pk_mul, pk_sub, pk_div, pk_rem, nI_clamp, nI_leI, nI_ltI, nI_eq, vin_iff, nar0, nar1, nF_ap, bF_ap, oF_ap, bI_0, bI_1, and255, bu_w, bu_p, bu_90, bu_9, row_w, row_at, nF_up, nI_ofIntm] <;> first | done | omega | (congr 1; omega))), ?_⟩, fun z => absurd z (by decide)⟩⟩
        refine cY_append hS a ha hL none (cont none t + 1) hx0 (by omega) (fun I2 hF2 hL2 => ⟨hS, ?_⟩) rfl rfl
        refine ih (t.drop (cont none t)) _ (p + 2) w I2 (by rw [List.length_drop]; omega) (by rw [List.length_append, runO_len, List.length_drop]; omega) hxt hw ((hF2 v (by simp; exact ⟨hva.1, hva.2⟩)).trans hb) hL2 (by omega) (fun i hi => ?_) (fun I' hF' hL' => h I' (hF2.tr hF') (by rw [hsplit] at hL'; exact hL')) rfl (by first | rfl | (simp (disch := omega) only [nI_lit, nI_ofInt1, nI_ofInt4, nI_ofInt2, nI_ofInt3, mI_neg, wI_I, wI_setI, wI_setR, forall_eq, nI_add, pk_mul, pk_sub, pk_div, pk_rem, nI_clamp, nI_leI, nI_ltI, nI_eq, vin_iff, nar0, nar1, nF_ap, bF_ap, oF_ap, bI_0, bI_1, and255, bu_w, bu_p, bu_90, bu_9, row_w, row_at, nF_up, nI_ofIntm] <;> first | done | omega | (congr 1; omega))) rfl
        rw [show p + 2 + i = p + (i + 2) by omega, hbb (i + 2) (by omega)]; rfl
      | some c =>
        have hc := hx0 c rfl
        rw [rn_some] at hbb hee
        simp only [List.length_cons] at hbb hee
        have b0 : b p = 17 := hbb 0 (by omega)
        have b1' : b (p + 1) = cont (some c) t + 1 := hbb 1 (by omega)
        have b2 : b (p + 2) = (c + 256 - w) % 256 := hbb 2 (by omega)
        refine pk_le e (p + 2) (fun z => absurd z (by omega)) (fun _ => ⟨pk_in p 64 (by omega) rfl, ?_⟩) rfl (by first | rfl | (simp (disch := omega) only [nI_lit, nI_ofInt1, nI_ofInt4, nI_ofInt2, nI_ofInt3, mI_neg, wI_I, wI_setI, wI_setR, forall_eq, nI_add, pk_mul, pk_sub, pk_div, pk_rem, nI_clamp, nI_leI, nI_ltI, nI_eq, vin_iff, nar0, nar1, nF_ap, bF_ap, oF_ap, bI_0, bI_1, and255, bu_w, bu_p, bu_90, bu_9, row_w, row_at, nF_up, nI_ofIntm] <;> first | done | omega | (congr 1; omega))) (by omega) (by omega)
        rw [pk_cl p rfl (by omega), nF_ap, b0, pk_cl (p + 1) (by first | rfl | (simp (disch := omega) only [nI_lit, nI_ofInt1, nI_ofInt4, nI_ofInt2, nI_ofInt3, mI_neg, wI_I, wI_setI, wI_setR, forall_eq, nI_add, pk_mul, pk_sub, pk_div, pk_rem, nI_clamp, nI_leI, nI_ltI, nI_eq, vin_iff, nar0, nar1, nF_ap, bF_ap, oF_ap, bI_0, bI_1, and255, bu_w, bu_p, bu_90, bu_9, row_w, row_at, nF_up, nI_ofIntm] <;> first | done | omega | (congr 1; omega))) (by omega), pk_cl (p + 2) (by first | rfl | (simp (disch := omega) only [nI_lit, nI_ofInt1, nI_ofInt4, nI_ofInt2, nI_ofInt3, mI_neg, wI_I, wI_setI, wI_setR, forall_eq, nI_add, pk_mul, pk_sub, pk_div, pk_rem, nI_clamp, nI_leI, nI_ltI, nI_eq, vin_iff, nar0, nar1, nF_ap, bF_ap, oF_ap, bI_0, bI_1, and255, bu_w, bu_p, bu_90, bu_9, row_w, row_at, nF_up, nI_ofIntm] <;> first | done | omega | (congr 1; omega))) (by omega), nF_ap, nF_ap, b1', b2]
        have ew : (nI w + nI ((c + 256 - w) % 256)) &&& 255 = nI c := by
          rw [nI_add]
          have := and255 (w + (c + 256 - w) % 256) (by omega)
          rw [show (255 : Int32) = nI 255 from rfl, this]
          congr 1
          omega
        rw [ew]
        refine ⟨fun z => absurd z (by decide), fun _ => ⟨pk_in p 64 (by omega) rfl, fun z => absurd rfl z, fun _ => ⟨pk_in (p + 2) 64 (by omega) (by first | rfl | (simp (disch := omega) only [nI_lit, nI_ofInt1, nI_ofInt4, nI_ofInt2, nI_ofInt3, mI_neg, wI_I, wI_setI, wI_setR, forall_eq, nI_add, pk_mul, pk_sub, pk_div, pk_rem, nI_clamp, nI_leI, nI_ltI, nI_eq, vin_iff, nar0, nar1, nF_ap, bF_ap, oF_ap, bI_0, bI_1, and255, bu_w, bu_p, bu_90, bu_9, row_w, row_at, nF_up, nI_ofIntm] <;> first | done | omega | (congr 1; omega))), pk_in (p + 1) 64 (by omega) (by first | rfl | (simp (disch := omega) only [nI_lit, nI_ofInt1, nI_ofInt4, nI_ofInt2, nI_ofInt3, mI_neg, wI_I, wI_setI, wI_setR, forall_eq, nI_add, pk_mul, pk_sub, pk_div, pk_rem, nI_clamp, nI_leI, nI_ltI, nI_eq, vin_iff, nar0, nar1, nF_ap, bF_ap, oF_ap, bI_0, bI_1, and255, bu_w, bu_p, bu_90, bu_9, row_w, row_at, nF_up, nI_ofIntm] <;> first | done | omega | (congr 1; omega))), ?_⟩⟩⟩
        refine cY_append hS a ha hL (some c) (cont (some c) t + 1) hx0 (by omega) (fun I2 hF2 hL2 => ⟨hS, ?_⟩) rfl rfl
        refine ih (t.drop (cont (some c) t)) _ (p + 3) c I2 (by rw [List.length_drop]; omega) (by rw [List.length_append, runO_len, List.length_drop]; omega) hxt hc ((hF2 v (by simp; exact ⟨hva.1, hva.2⟩)).trans hb) hL2 (by omega) (fun i hi => ?_) (fun I' hF' hL' => h I' (hF2.tr hF') (by rw [hsplit] at hL'; exact hL')) rfl (by first | rfl | (simp (disch := omega) only [nI_lit, nI_ofInt1, nI_ofInt4, nI_ofInt2, nI_ofInt3, mI_neg, wI_I, wI_setI, wI_setR, forall_eq, nI_add, pk_mul, pk_sub, pk_div, pk_rem, nI_clamp, nI_leI, nI_ltI, nI_eq, vin_iff, nar0, nar1, nF_ap, bF_ap, oF_ap, bI_0, bI_1, and255, bu_w, bu_p, bu_90, bu_9, row_w, row_at, nF_up, nI_ofIntm] <;> first | done | omega | (congr 1; omega))) rfl
        rw [show p + 3 + i = p + (i + 3) by omega, hbb (i + 3) (by omega)]; rfl
theorem cY_decode {F : fx_S → Prop} (hS : shC S) (a v : Nat) (ha : isY a) (hv : isA v 64) (hva : v ≠ a ∧ v ≠ a + 1) {b : Nat → Nat} (hb : I v = nF b) (l : List (Option Nat)) (hl : l.length ≤ 63) (hx : ∀ c, some c ∈ l → c < 256) {v2 v3 : Int32} (p : Nat) (hp : p + (rn 48 l).length + 1 ≤ 64) (hbb : ∀ i, i ≤ (rn 48 l).length → b (p + i) = gd (rn 48 l ++ [0]) i)
    (h : ∀ I', FC [a, a + 1] I I' → LyP I' a l → F (fx_wI S I')) (e2 : v2 = nI p) (e3 : v3 = nI (p + (rn 48 l).length + 1)) : fx_Go G (1, 15) mm_Y_decode 0 [(0, fx_r G a), (1, fx_r G v), (2, .int v2), (3, .int v3)] [] (fx_wI S I) (fx_qv F Q) := by
  refine bs_Y_decode_0 hS.w a v _ _ ha hv ?_
  simp only [wI_setI, forall_eq]
  refine cY_de12 hS a v ha hv hva b (p + (rn 48 l).length + 1) hp l.length l [] p 48 _ (Nat.le_refl _) (by simp; omega) hx (by omega) ((fw_ne hva.1).trans hb) ⟨fw_at _ _ _ _, fun k hk => absurd hk (Nat.not_lt_zero _)⟩ rfl hbb (fun I' hF hL => h I' ((FC.w [a, a + 1] I a _ _ (by simp)).tr hF) hL) e3 e2 rfl
end CY5
