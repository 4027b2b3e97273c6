/-! The reference's read and run. -/
theorem i_nlt {x y : Int32} : ¬ x < y ↔ y ≤ x := by
  rw [Int32.lt_iff_toInt_lt, Int32.le_iff_toInt_le]
  omega
theorem i_nle {x y : Int32} : ¬ x ≤ y ↔ y < x := by
  rw [Int32.lt_iff_toInt_lt, Int32.le_iff_toInt_le]
  omega
theorem wf.szl {s : AS} (h : wf s) : sz s ≤ 1000 := by
  unfold sz
  split
  · rename_i h3; exact (h.z h3).2
  · rename_i h3; have := h.hl h3; omega
theorem wf.ll {s : AS} (h : wf s) (h3 : aK s = 3) : (aL s).length = (aZ s + 15) / 16 := (h.2.2.2.2.2.2.2.2.2 h3).2.2.1
section MQ3
variable {G : fx_G} {S : fx_S} {I : Nat → Nat → Int32} {Q : fx_R → fx_S → Prop} {F : Int32 → fx_S → Prop} {A : VS}
theorem cM_read (hS : shM S) (h0 : MS I A) (hO : vo A = true → OI A) (v1 v2 : Int32) (h : ∀ I', SC I I' → I' 85 0 = nI 0 → F (qRead A v1 v2) (fx_wI S I')) : fx_Go G (3, 50) mm_M_read 0 [(0, fx_r G 85), (1, .int v1), (2, .int v2)] [] (fx_wI S I) (fx_qi F Q) := by
  refine bs_M_read_0 hS.w _ _ ?_
  simp only [wI_setI, forall_eq, wI_I]
  have h1 : ∀ I', SC (fx_w I 85 0 (nI 0)) I' → I' 85 0 = nI 0 → F (qRead A v1 v2) (fx_wI S I') := fun I' hf => h I' ((sc0 I (nI 0)).tr hf)
  have h2 := h0.keep (sc0 I (nI 0))
  have h3 : fx_w I 85 0 (nI 0) 85 0 = nI 0 := rfl
  rw [show (0 : Int32) = nI 0 from rfl]
  generalize fx_w I 85 0 (nI 0) = J at h1 h2 h3
  clear h h0
  refine cM_us hS h2 v1 ⟨hS, ?_⟩
  have hq : ∀ x, x = qRead A v1 v2 → ∀ I', SC J I' → I' 85 0 = nI 0 → fx_qi F Q (.inl (some (.int x))) (fx_wI S I') := by
    intro x hx I' hf h8; rw [hx]; exact h1 I' hf h8
  have hq0 : ∀ x, x = qRead A v1 v2 → fx_qi F Q (.inl (some (.int x))) (fx_wI S J) := fun x hx => hq x hx J (Fr.rfl' _ _ _) h3
  unfold qRead at hq hq0
  refine b0 (fun hc => hq0 mI (by rw [if_neg (fun z => by rw [hc] at z; exact absurd z.1 (by decide))])) (fun hc => ?_)
  obtain ⟨j, hj, e, hu, ho, ej⟩ := us_j hc
  obtain ⟨hR, hw⟩ := (hO ho).rc j hj hu
  rw [ej] at hq hq0
  subst e
  generalize vf A j = s at hR hw hq hq0
  have hK := hw.1
  have hD := h2.1
  have hsz := hw.szl
  refine ⟨fun q0 => ?_, fun q0 => hq0 mI (by rw [if_neg (fun z => q0 (i_nlt.mp z.2.1))])⟩
  have q0' : ¬ v2 < 0 := i_nlt.mpr q0
  obtain ⟨k, hk, ek⟩ := nI_of q0'
  subst ek
  have hclk : (nI k).toNatClampNeg = k := nI_clamp hk
  rw [hclk] at hq hq0
  refine cM_byteR hS hD j 0 hR hj (by omega) ⟨hS, ?_⟩ rfl rfl
  rw [show rv s 0 = aS s from rfl]
  simp (disch := omega) only [nI_lit, nI_ofInt1, nI_ofInt4, nI_ofInt2, nI_ofInt3, mI_neg, wI_I, wI_setI, wI_setR, forall_eq, nI_add, pk_mul, pk_sub, pk_div, pk_rem, nI_clamp, nI_leI, nI_ltI, nI_eq, vin_iff, nar0, nar1, nF_ap, bF_ap, oF_ap, bI_0, bI_1, and255, bu_w, bu_p, bu_90, bu_9, row_w, row_at, nF_up, nI_ofIntm]
  refine ⟨fun q2 => ?_, fun q2 => ?_⟩
  · have hs1 : aS s = 1 := by omega
    refine cM_sizeOf hS hD j hR hj hw hs1 ⟨hS, ?_⟩ rfl
    simp (disch := omega) only [nI_lit, nI_ofInt1, nI_ofInt4, nI_ofInt2, nI_ofInt3, mI_neg, wI_I, wI_setI, wI_setR, forall_eq, nI_add, pk_mul, pk_sub, pk_div, pk_rem, nI_clamp, nI_leI, nI_ltI, nI_eq, vin_iff, nar0, nar1, nF_ap, bF_ap, oF_ap, bI_0, bI_1, and255, bu_w, bu_p, bu_90, bu_9, row_w, row_at, nF_up, nI_ofIntm]
    refine ⟨fun q3 => ?_, fun q3 => hq0 mI ?_⟩
    · refine cM_isInside hS hD j hR hj hw ⟨hS, ?_⟩ rfl
      have hcond : us A (nI j) = true ∧ ¬ nI k < 0 ∧ nI k < nI (sz s) := ⟨hc, q0', nI_lt q3 (by omega)⟩
      rw [if_pos hcond] at hq hq0
      simp only at hq hq0
      refine b0 (fun q4 => ?_) (fun q4 => ?_)
      · have k3 : aK s = 3 := by have := of_decide_eq_false q4; omega
        rw [if_pos k3] at hq hq0
        have hz := hw.z k3
        have hll := hw.ll k3
        have hpl := hw.pl
        have esz : sz s = aZ s := by unfold sz; rw [if_pos k3]
        have hk16 : k / 16 < (aL s).length := by omega
        have hgx : ∀ c, go (aL s) (k / 16) = some c → c < 2 ^ 31 := fun c e => by have := hpl.2 c (e ▸ go_mem hk16); omega
        refine cM_loadMap hS hD j hR hj hw (fun I' hF hc10 hrow => ⟨hS, ?_⟩) rfl
        have hsc : SC J I' := hF.mono (fun a h => by simp at h ⊢; omega) (fun a h => by simp at h ⊢; omega)
        have h85 : I' 85 0 = nI 0 := (hF.2 0 (by decide)).trans h3
        have hD' : I' 86 = nF (vD A) := (hF.1 86 (by decide) (by decide)).trans hD
        simp (disch := omega) only [nI_lit, nI_ofInt1, nI_ofInt4, nI_ofInt2, nI_ofInt3, mI_neg, wI_I, wI_setI, wI_setR, forall_eq, nI_add, pk_mul, pk_sub, pk_div, pk_rem, nI_clamp, nI_leI, nI_ltI, nI_eq, vin_iff, nar0, nar1, nF_ap, bF_ap, oF_ap, bI_0, bI_1, and255, bu_w, bu_p, bu_90, bu_9, row_w, row_at, nF_up, nI_ofIntm, hrow (k / 16) hk16, oI_ge hgx]
        refine ⟨by omega, fun q5 => ?_, fun q5 => ?_⟩
        · obtain ⟨c, e⟩ := Option.ne_none_iff_exists'.mp q5
          have hc128 := hpl.2 c (e ▸ go_mem hk16)
          rw [e]
          simp only [oI]
          simp (disch := omega) only [nI_lit, nI_ofInt1, nI_ofInt4, nI_ofInt2, nI_ofInt3, mI_neg, wI_I, wI_setI, wI_setR, forall_eq, nI_add, pk_mul, pk_sub, pk_div, pk_rem, nI_clamp, nI_leI, nI_ltI, nI_eq, vin_iff, nar0, nar1, nF_ap, bF_ap, oF_ap, bI_0, bI_1, and255, bu_w, bu_p, bu_90, bu_9, row_w, row_at, nF_up, nI_ofIntm, hD']
          refine ⟨by omega, by omega, hq _ ?_ I' hsc h85⟩
          unfold fby
          rw [e]
          simp only
          rw [show k - k / 16 * 16 = k % 16 by omega]
        · have e : go (aL s) (k / 16) = none := by simpa using q5
          refine hq _ ?_ I' hsc h85
          unfold fby
          rw [e]
      · have k2 : aK s = 2 := of_decide_eq_true q4
        rw [if_neg (by omega)] at hq0
        have hl := hw.hl (by omega)
        have esz : sz s = (aH s).length := by unfold sz; rw [if_neg (by omega)]
        refine cM_attribute hS hD j 2 hR hj hw (by omega) ⟨hS, ?_⟩ rfl rfl
        rw [atR_e hw k2]
        refine cM_byteR hS hD j (10 + (nmA (aM s)).length + 2 + k) hR hj (by omega) ⟨hS, ?_⟩ rfl (by first | rfl | (simp (disch := omega) only [nI_lit, nI_ofInt1, nI_ofInt4, nI_ofInt2, nI_ofInt3, mI_neg, wI_I, wI_setI, wI_setR, forall_eq, nI_add, pk_mul, pk_sub, pk_div, pk_rem, nI_clamp, nI_leI, nI_ltI, nI_eq, vin_iff, nar0, nar1, nF_ap, bF_ap, oF_ap, bI_0, bI_1, and255, bu_w, bu_p, bu_90, bu_9, row_w, row_at, nF_up, nI_ofIntm] <;> first | done | omega | (congr 1; omega)))
        rw [rv_h s (by omega) (by omega)]
        exact hq0 _ rfl
    · rw [if_neg (fun z => absurd ((nI_ltI (by omega) (by omega)).mp z.2.2) (by omega))]
  · have k4 := hw.k4 q2
    have hl := hw.hl (by omega)
    have esz : sz s = (aH s).length := by unfold sz; rw [if_neg (by omega)]
    refine cM_listLength hS hD j hR hj hw k4 ⟨hS, ?_⟩ rfl
    simp (disch := omega) only [nI_lit, nI_ofInt1, nI_ofInt4, nI_ofInt2, nI_ofInt3, mI_neg, wI_I, wI_setI, wI_setR, forall_eq, nI_add, pk_mul, pk_sub, pk_div, pk_rem, nI_clamp, nI_leI, nI_ltI, nI_eq, vin_iff, nar0, nar1, nF_ap, bF_ap, oF_ap, bI_0, bI_1, and255, bu_w, bu_p, bu_90, bu_9, row_w, row_at, nF_up, nI_ofIntm]
    refine ⟨fun q3 => hq0 mI ?_, fun q3 => ?_⟩
    · rw [if_neg (fun z => absurd ((nI_ltI (by omega) (by omega)).mp z.2.2) (by omega))]
    · refine cM_entry hS hD j k hR hj hw k4 (by omega) ⟨hS, hq0 _ ?_⟩ rfl rfl
      rw [if_pos ⟨hc, q0', nI_lt (by omega) (by omega)⟩]
      simp only
      rw [if_neg (by omega)]
theorem cM_run57 (hS : shM S) {D : Nat → Nat} (hD : I 86 = nF D) {s : AS} (r k : Nat) (w : Int32) (hw0 : w = nI 0 ∨ w = nI 1) (hR : Rec D r s) (hr : r < 12) : ∀ (n : Nat) (rest : List (Option Nat)) (p l i : Nat) (q : Option Nat × Nat) {v1 v2 v4 v5 v6 : Int32}, rest.length ≤ n → (∀ c, some c ∈ rest → c < 128) → l < 128 → i ≤ k → k < 1000 → (rls rest)[k - i]? = some q → p + (rn l rest).length < 64 → (∀ i, i ≤ (rn l rest).length → rv s (p + i) = gd (rn l rest ++ [0]) i) →
    F (if w = nI 0 then nI q.2 else oI q.1) (fx_wI S I) → v1 = nI r → v2 = nI k → v4 = nI p → v5 = nI l → v6 = nI i →
    fx_Go G (3, 48) mm_M_run 57 [(0, fx_r G 85), (1, .int v1), (2, .int v2), (3, .int w), (4, .int v4), (5, .int v5), (6, .int v6)] [] (fx_wI S I) (fx_qi F Q) := by
  intro n
  induction n with
  | zero =>
    intro rest p l i q v1 v2 v4 v5 v6 hn _ _ _ _ hq
    have hnil : rest = [] := List.eq_nil_of_length_eq_zero (by omega)
    subst hnil
    simp [rls, rlF] at hq
  | succ n ih =>
    intro rest p l i q v1 v2 v4 v5 v6 hn hx hl hi hk hq hp hb h e1 e2 e4 e5 e6
    subst e1 e2 e4 e5 e6
    cases rest with
    | nil => simp [rls, rlF] at hq
    | cons x t =>
      have hct := cont_le x t
      rw [rls_cons] at hq
      simp only [List.length_cons] at hn
      have hxt : ∀ c, some c ∈ t.drop (cont x t) → c < 128 := fun c hc => hx c (List.mem_cons_of_mem _ (List.mem_of_mem_drop hc))
      refine bs_M_run_57 hS.w _ _ _ _ _ _ ?_
      have nxt' : i ≠ k → (rls (t.drop (cont x t)))[k - (i + 1)]? = some q := by
        intro hne
        rw [show k - i = (k - (i + 1)) + 1 by omega, List.getElem?_cons_succ] at hq
        exact hq
      have here : i = k → q = (x, cont x t + 1) := by
        intro hne
        rw [show k - i = 0 by omega, List.getElem?_cons_zero] at hq
        simpa using hq.symm
      cases x with
      | none =>
        rw [rn_none] at hb hp
        simp only [List.length_cons] at hp hb
        have b0 : rv s p = 1 := hb 0 (by omega)
        have b1' : rv s (p + 1) = cont none t + 1 := hb 1 (by omega)
        refine cM_byteR hS hD r p hR hr (by omega) ⟨hS, ?_⟩ rfl rfl
        rw [b0]
        refine ⟨fun z => absurd rfl z, fun _ => ⟨fun _ => ?_, fun z => absurd z (by decide)⟩⟩
        refine bs_M_run_98 hS.w _ _ _ _ _ _ _ ?_
        simp (disch := omega) only [nI_lit, nI_ofInt1, nI_ofInt4, nI_ofInt2, nI_ofInt3, mI_neg, wI_I, wI_setI, wI_setR, forall_eq, nI_add, pk_mul, pk_sub, pk_div, pk_rem, nI_clamp, nI_leI, nI_ltI, nI_eq, vin_iff, nar0, nar1, nF_ap, bF_ap, oF_ap, bI_0, bI_1, and255, bu_w, bu_p, bu_90, bu_9, row_w, row_at, nF_up, nI_ofIntm]
        refine ⟨fun hne => ⟨fun z => absurd z (by decide), fun _ => ?_⟩, fun he => ?_⟩
        · refine ih (t.drop (cont none t)) (p + 2) l (i + 1) q (by rw [List.length_drop]; omega) hxt hl (by omega) hk (nxt' hne) (by omega) (fun i hi => ?_) h rfl rfl rfl rfl rfl
          rw [show p + 2 + i = p + (i + 2) by omega, hb (i + 2) (by omega)]; rfl
        · have eq := here he
          subst eq
          refine ⟨fun z => ⟨fun y => absurd y (by decide), fun _ => ?_⟩, fun z => ?_⟩
          · rw [if_neg z] at h; exact h
          · rw [if_pos z] at h
            refine cM_byteR hS hD r (p + 1) hR hr (by omega) ⟨hS, ?_⟩ rfl rfl
            rw [b1']
            exact h
      | some c =>
        have hc128 := hx c (List.mem_cons_self ..)
        rw [rn_some] at hb hp
        simp only [List.length_cons] at hp hb
        have b0 : rv s p = 17 := hb 0 (by omega)
        have b1' : rv s (p + 1) = cont (some c) t + 1 := hb 1 (by omega)
        have b2 : rv s (p + 2) = (c + 256 - l) % 256 := hb 2 (by omega)
        refine cM_byteR hS hD r p hR hr (by omega) ⟨hS, ?_⟩ rfl rfl
        rw [b0]
        refine ⟨fun _ => ⟨fun z => absurd rfl z, fun _ => ?_⟩, fun z => absurd z (by decide)⟩
        refine cM_byteR hS hD r (p + 2) hR hr (by omega) ⟨hS, ?_⟩ rfl (by first | rfl | (simp (disch := omega) only [nI_lit, nI_ofInt1, nI_ofInt4, nI_ofInt2, nI_ofInt3, mI_neg, wI_I, wI_setI, wI_setR, forall_eq, nI_add, pk_mul, pk_sub, pk_div, pk_rem, nI_clamp, nI_leI, nI_ltI, nI_eq, vin_iff, nar0, nar1, nF_ap, bF_ap, oF_ap, bI_0, bI_1, and255, bu_w, bu_p, bu_90, bu_9, row_w, row_at, nF_up, nI_ofIntm] <;> first | done | omega | (congr 1; omega)))
        rw [b2]
        simp (disch := omega) only [nI_lit, nI_ofInt1, nI_ofInt4, nI_ofInt2, nI_ofInt3, mI_neg, wI_I, wI_setI, wI_setR, forall_eq, nI_add, pk_mul, pk_sub, pk_div, pk_rem, nI_clamp, nI_leI, nI_ltI, nI_eq, vin_iff, nar0, nar1, nF_ap, bF_ap, oF_ap, bI_0, bI_1, and255, bu_w, bu_p, bu_90, bu_9, row_w, row_at, nF_up, nI_ofIntm]
        rw [show (l + (c + 256 - l) % 256) % 256 = c by omega]
        refine bs_M_run_98 hS.w _ _ _ _ _ _ _ ?_
        simp (disch := omega) only [nI_lit, nI_ofInt1, nI_ofInt4, nI_ofInt2, nI_ofInt3, mI_neg, wI_I, wI_setI, wI_setR, forall_eq, nI_add, pk_mul, pk_sub, pk_div, pk_rem, nI_clamp, nI_leI, nI_ltI, nI_eq, vin_iff, nar0, nar1, nF_ap, bF_ap, oF_ap, bI_0, bI_1, and255, bu_w, bu_p, bu_90, bu_9, row_w, row_at, nF_up, nI_ofIntm]
        refine ⟨fun hne => ⟨fun _ => ?_, fun z => absurd trivial z⟩, fun he => ?_⟩
        · refine ih (t.drop (cont (some c) t)) (p + 3) c (i + 1) q (by rw [List.length_drop]; omega) hxt hc128 (by omega) hk (nxt' hne) (by omega) (fun i hi => ?_) h rfl rfl rfl rfl rfl
          rw [show p + 3 + i = p + (i + 3) by omega, hb (i + 3) (by omega)]; rfl
        · have eq := here he
          subst eq
          refine ⟨fun z => ⟨fun _ => ?_, fun y => absurd trivial y⟩, fun z => ?_⟩
          · rw [if_neg z] at h; exact h
          · rw [if_pos z] at h
            refine cM_byteR hS hD r (p + 1) hR hr (by omega) ⟨hS, ?_⟩ rfl rfl
            rw [b1']
            exact h
theorem rls_le : ∀ (n : Nat) (l : List (Option Nat)), (rlF n l).length ≤ l.length
  | 0, l => by simp [rlF]
  | n + 1, [] => by simp [rlF]
  | n + 1, x :: t => by
    simp only [rlF, List.length_cons]
    have := rls_le n (t.drop (cont x t))
    rw [List.length_drop] at this
    omega
theorem rls_pos {l : List (Option Nat)} (h : 0 < (rls l).length) : l ≠ [] := by
  intro e
  subst e
  simp [rls, rlF] at h
theorem cM_run (hS : shM S) (h0 : MS I A) (hB : BI A) (hO : vo A = true → OI A) (v1 v2 v3 : Int32) (h : ∀ I', SC I I' → I' 85 0 = nI 0 → F (qRun A v1 v2 v3) (fx_wI S I')) : fx_Go G (3, 48) mm_M_run 0 [(0, fx_r G 85), (1, .int v1), (2, .int v2), (3, .int v3)] [] (fx_wI S I) (fx_qi F Q) := by
  refine bs_M_run_0 hS.w _ _ _ ?_
  simp only [wI_setI, forall_eq, wI_I]
  have h1 := h _ (sc0 I (nI 0)) rfl
  have h2 := h0.keep (sc0 I (nI 0))
  rw [show (0 : Int32) = nI 0 from rfl]
  generalize fx_w I 85 0 (nI 0) = J at h1 h2
  clear h h0
  have hq : ∀ x, x = qRun A v1 v2 v3 → fx_qi F Q (.inl (some (.int x))) (fx_wI S J) := by
    intro x hx; rw [hx]; exact h1
  unfold qRun at hq
  refine cM_uk hS h2 hB hO v1 1 (by omega) ⟨hS, ?_⟩ rfl
  refine b0 (fun hc => hq mI (by rw [if_neg (fun z => by rw [hc] at z; exact absurd z.1 (by decide))])) (fun hc => ?_)
  obtain ⟨j, hj, e, hu, ho, ej, hs⟩ := uk_j hc
  obtain ⟨hR, hw⟩ := (hO ho).rc j hj hu
  rw [ej] at hq
  subst e
  generalize vf A j = s at hR hw hq hs
  have hD := h2.1
  have hpl := hw.pl
  have hrl := rls_le (aL s).length (aL s)
  change (rls (aL s)).length ≤ (aL s).length at hrl
  refine ⟨fun q0 => hq mI (by rw [if_neg (fun z => z.2.1 q0)]), fun q0 => ?_⟩
  obtain ⟨k, hk, ek⟩ := nI_of q0
  subst ek
  have hclk : (nI k).toNatClampNeg = k := nI_clamp hk
  rw [hclk] at hq
  have bad : ¬ v3 = nI 0 → ¬ v3 = nI 1 → fx_qi F Q (.inl (some (.int mI))) (fx_wI S J) := by
    intro z0 z1
    refine hq mI ?_
    split
    · split
      · first | rfl | rw [if_neg z0, if_neg z1]
      · rfl
    · rfl
  refine ⟨fun q3 => bad (fun e => ?_) (fun e => ?_), fun q3 => ⟨fun q4 => ?_, fun q4 => bad (fun e => ?_) (fun e => ?_)⟩⟩
  · rw [e] at q3; exact absurd q3 (by decide)
  · rw [e] at q3; exact absurd q3 (by decide)
  · have hw01 : v3 = nI 0 ∨ v3 = nI 1 := by
      obtain ⟨x, hx, ex⟩ := nI_of2 (M := nI 1) (n := 1) rfl q3 q4
      rcases (show x = 0 ∨ x = 1 by omega) with e | e
      · left; rw [ex, e]
      · right; rw [ex, e]
    refine cM_runsOf hS hD j hR hj hw ⟨hS, ?_⟩ rfl
    simp (disch := omega) only [nI_lit, nI_ofInt1, nI_ofInt4, nI_ofInt2, nI_ofInt3, mI_neg, wI_I, wI_setI, wI_setR, forall_eq, nI_add, pk_mul, pk_sub, pk_div, pk_rem, nI_clamp, nI_leI, nI_ltI, nI_eq, vin_iff, nar0, nar1, nF_ap, bF_ap, oF_ap, bI_0, bI_1, and255, bu_w, bu_p, bu_90, bu_9, row_w, row_at, nF_up, nI_ofIntm]
    refine ⟨fun q5 => ?_, fun q5 => hq mI ?_⟩
    · have hne := rls_pos (show 0 < (rls (aL s)).length by omega)
      have k3 : aK s = 3 := by
        cases Classical.em (aK s = 3) with
        | inl h => exact h
        | inr h => exact absurd (hw.2.2.2.2.2.2.2.2.1 h) hne
      have hl := hw.l3 k3
      refine cM_attribute hS hD j 3 hR hj hw (by omega) ⟨hS, ?_⟩ rfl rfl
      rw [atR_e hw k3]
      simp (disch := omega) only [nI_lit, nI_ofInt1, nI_ofInt4, nI_ofInt2, nI_ofInt3, mI_neg, wI_I, wI_setI, wI_setR, forall_eq, nI_add, pk_mul, pk_sub, pk_div, pk_rem, nI_clamp, nI_leI, nI_ltI, nI_eq, vin_iff, nar0, nar1, nF_ap, bF_ap, oF_ap, bI_0, bI_1, and255, bu_w, bu_p, bu_90, bu_9, row_w, row_at, nF_up, nI_ofIntm]
      have hget : (rls (aL s))[k]? = some (rls (aL s))[k] := List.getElem?_eq_getElem q5
      refine cM_run57 hS hD j k v3 hw01 hR hj (aL s).length (aL s) (10 + (nmA (aM s)).length + 4) 48 0 (rls (aL s))[k] (Nat.le_refl _) (fun c hc => (hpl.2 c hc).2) (by omega) (by omega) (by omega) (by rw [Nat.sub_zero]; exact hget) (by omega) (fun i _ => rv_3 s k3 i) (hq _ ?_) rfl rfl rfl rfl rfl
      have hcond : uk A (nI j) 1 = true ∧ ¬ nI k < 0 ∧ nI k < nI (rls (aL s)).length := ⟨hc, q0, nI_lt q5 (by omega)⟩
      rw [if_pos hcond, hget]
      simp only
      rcases hw01 with e | e
      · rw [if_pos e, if_pos e]
      · rw [e, if_neg (by decide), if_neg (by decide), if_pos rfl]
    · rw [if_neg (fun z => q5 ((nI_ltI (by omega) (by omega)).mp z.2.2))]
  · rw [e] at q4; exact absurd (by decide) q4
  · rw [e] at q4; exact absurd (by decide) q4
end MQ3
