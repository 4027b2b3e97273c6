/-! The reference's write: what is outside. -/
def wv (b : Int32) (j : Nat) : Nat := (b.toBitVec.toNat + j) % 256
theorem wv_eq (b : Int32) (k a : Nat) (h : a ≤ k) (hk : k < 2 ^ 31) : (b + nI k - nI a) &&& nI 255 = nI (wv b (k - a)) := by
  rw [pk_and (b + nI k - nI a) 8 (m := nI 255) (by decide)]
  congr 1
  show (b.toBitVec + BitVec.ofNat 32 k - BitVec.ofNat 32 a).toNat % 2 ^ 8 = (b.toBitVec.toNat + (k - a)) % 256
  rw [BitVec.toNat_sub, BitVec.toNat_add, BitVec.toNat_ofNat, BitVec.toNat_ofNat]
  have := b.toBitVec.isLt
  omega
def gr (s : AS) (a n : Nat) : Nat := if a + n ≤ sz s then sz s else a + n
def lay (s : AS) : Nat := if aK s = 2 then sz s else 0
def pad (s : AS) (N : Nat) : List (Option Nat) := aL s ++ List.replicate (N - (aL s).length) none
theorem pad_go (s : AS) (N i : Nat) : go (pad s N) i = go (aL s) i := by
  unfold pad
  by_cases h : i < (aL s).length
  · rw [go_l h]
  · rw [go_r (by omega), go_out (l := aL s) (by omega)]
    unfold go
    rw [List.getD_eq_getElem?_getD, List.getElem?_replicate]
    split <;> rfl
theorem pad_len (s : AS) (N : Nat) (h : (aL s).length ≤ N) : (pad s N).length = N := by
  unfold pad
  rw [List.length_append, List.length_replicate]
  omega
theorem pad_mem {s : AS} {N c : Nat} (h : some c ∈ pad s N) : some c ∈ aL s := by
  unfold pad at h
  rcases List.mem_append.mp h with h | h
  · exact h
  · have := List.eq_of_mem_replicate h
    cases this
theorem alT_out (fr : Nat → Bool) : ∀ (n i : Nat) (T : Nat → Bool) (m : Nat → Option Nat) (j : Nat), j < i → (alT fr n i T m).2 j = m j
  | 0, _, _, _, _, _ => rfl
  | n + 1, i, T, m, j, h => by
    unfold alT
    split
    · cases hl : lowF T 80 48 with
      | none => rfl
      | some c =>
        simp only
        rw [alT_out fr n (i + 1) _ _ j (by omega)]
        unfold up
        rw [if_neg (by omega)]
    · exact alT_out fr n (i + 1) T m j (by omega)
theorem alT_rng (fr : Nat → Bool) : ∀ (n i : Nat) (T : Nat → Bool) (m : Nat → Option Nat), (∀ j c, m j = some c → 48 ≤ c ∧ c < 128) → ∀ j c, (alT fr n i T m).2 j = some c → 48 ≤ c ∧ c < 128
  | 0, _, _, _, h, j, c, e => h j c e
  | n + 1, i, T, m, h, j, c, e => by
    unfold alT at e
    split at e
    · cases hl : lowF T 80 48 with
      | none => rw [hl] at e; exact h j c e
      | some c' =>
        rw [hl] at e
        refine alT_rng fr n (i + 1) _ _ (fun j' c'' e' => ?_) j c e
        unfold up at e'
        split at e'
        · cases e'
          have := lowF_T T 80 48 c' hl
          omega
        · exact h j' c'' e'
    · exact alT_rng fr n (i + 1) T m h j c e
theorem alT_some (fr : Nat → Bool) : ∀ (n i : Nat) (T : Nat → Bool) (m : Nat → Option Nat), frcF (fun j => !fr j) n i ≤ frcF T 80 48 → ∀ j, i ≤ j → j < i + n → fr j = true → ∃ c, (alT fr n i T m).2 j = some c
  | 0, i, _, _, _, j, h1, h2, _ => by omega
  | n + 1, i, T, m, h, j, h1, h2, hj => by
    rw [show frcF (fun j => !fr j) (n + 1) i = (if (!fr i) = false then 1 else 0) + frcF (fun j => !fr j) n (i + 1) from rfl] at h
    unfold alT
    split
    · rename_i hf
      rw [hf, if_pos (show (!true) = false from rfl)] at h
      obtain ⟨c, l1, l2, l3, l4⟩ := lowF_some T 80 48 (by omega)
      have hup := frcF_up T c 80 48 l2 l3 l4
      rw [l1]
      simp only
      by_cases e : j = i
      · subst e
        refine ⟨c, ?_⟩
        rw [alT_out fr n (j + 1) _ _ j (by omega)]
        unfold up
        rw [if_pos rfl]
      · exact alT_some fr n (i + 1) _ _ (by omega) j (by omega) (by omega) hj
    · rename_i hf
      have hf' : fr i = false := by simpa using hf
      rw [hf', if_neg (show ¬ (!false) = false by decide)] at h
      by_cases e : j = i
      · rw [e, hf'] at hj; cases hj
      · exact alT_some fr n (i + 1) T m (by omega) j (by omega) (by omega) hj
theorem tbT_up (fr : Nat → Bool) (m : Nat → Option Nat) (c : Nat) : ∀ (n i : Nat) (T : Nat → Bool), tbT fr m n i (up T c false) = up (tbT fr m n i T) c false
  | 0, _, _ => rfl
  | n + 1, i, T => by
    unfold tbT
    split
    · cases m i with
      | none => rfl
      | some e =>
        simp only
        rw [← tbT_up fr m c n (i + 1)]
        congr 1
        funext x
        unfold up
        by_cases h1 : x = e <;> by_cases h2 : x = c <;> simp [h1, h2]
    · exact tbT_up fr m c n (i + 1) T
theorem tb_al (fr : Nat → Bool) : ∀ (n i : Nat) (T : Nat → Bool) (m : Nat → Option Nat), frcF (fun j => !fr j) n i ≤ frcF T 80 48 → tbT fr (alT fr n i T m).2 n i (alT fr n i T m).1 = T
  | 0, _, _, _, _ => rfl
  | n + 1, i, T, m, h => by
    rw [show frcF (fun j => !fr j) (n + 1) i = (if (!fr i) = false then 1 else 0) + frcF (fun j => !fr j) n (i + 1) from rfl] at h
    by_cases hf : fr i = true
    · rw [hf, if_pos (show (!true) = false from rfl)] at h
      obtain ⟨c, l1, l2, l3, l4⟩ := lowF_some T 80 48 (by omega)
      have hup := frcF_up T c 80 48 l2 l3 l4
      have e : alT fr (n + 1) i T m = alT fr n (i + 1) (up T c true) (up m i (some c)) := by
        rw [show alT fr (n + 1) i T m = if fr i = true then (match lowF T 80 48 with
          | some c => alT fr n (i + 1) (up T c true) (up m i (some c))
          | none => (T, m)) else alT fr n (i + 1) T m from rfl, if_pos hf, l1]
      rw [e]
      have ih := tb_al fr n (i + 1) (up T c true) (up m i (some c)) (by omega)
      have em : (alT fr n (i + 1) (up T c true) (up m i (some c))).2 i = some c := by
        rw [alT_out fr n (i + 1) _ _ i (by omega)]
        unfold up
        rw [if_pos rfl]
      generalize alT fr n (i + 1) (up T c true) (up m i (some c)) = p at *
      rw [show tbT fr p.2 (n + 1) i p.1 = if fr i = true then (match p.2 i with
        | some c => tbT fr p.2 n (i + 1) (up p.1 c false)
        | none => p.1) else tbT fr p.2 n (i + 1) p.1 from rfl, if_pos hf, em]
      simp only
      rw [tbT_up, ih]
      funext x
      unfold up
      by_cases hx : x = c
      · subst hx; simp [l4]
      · simp [hx]
    · have hf' : fr i = false := by simpa using hf
      rw [hf', if_neg (show ¬ (!false) = false by decide)] at h
      have e : alT fr (n + 1) i T m = alT fr n (i + 1) T m := by
        rw [show alT fr (n + 1) i T m = if fr i = true then (match lowF T 80 48 with
          | some c => alT fr n (i + 1) (up T c true) (up m i (some c))
          | none => (T, m)) else alT fr n (i + 1) T m from rfl, if_neg hf]
      rw [e, show tbT fr (alT fr n (i + 1) T m).2 (n + 1) i (alT fr n (i + 1) T m).1 = if fr i = true then (match (alT fr n (i + 1) T m).2 i with
        | some c => tbT fr (alT fr n (i + 1) T m).2 n (i + 1) (up (alT fr n (i + 1) T m).1 c false)
        | none => (alT fr n (i + 1) T m).1) else tbT fr (alT fr n (i + 1) T m).2 n (i + 1) (alT fr n (i + 1) T m).1 from rfl, if_neg hf]
      exact tb_al fr n (i + 1) T m (by omega)
/-- the list of the first N -/
def lsO (N : Nat) (m : Nat → Option Nat) : List (Option Nat) := (List.range N).map m
theorem lsO_len (N : Nat) (m : Nat → Option Nat) : (lsO N m).length = N := by unfold lsO; simp
theorem lsO_go (N : Nat) (m : Nat → Option Nat) (i : Nat) (h : i < N) : go (lsO N m) i = m i := by
  unfold go lsO
  rw [List.getD_eq_getElem?_getD, List.getElem?_map, List.getElem?_range h]
  rfl
theorem lsO_mem {N : Nat} {m : Nat → Option Nat} {c : Nat} (h : some c ∈ lsO N m) : ∃ j, m j = some c := by
  unfold lsO at h
  obtain ⟨j, _, e⟩ := List.mem_map.mp h
  exact ⟨j, e⟩
/-- what comes at a place of the file: a byte, or it stays -/
def wval (s : AS) (a n : Nat) (b : Int32) (fr : Nat → Bool) (k : Nat) : Option Nat :=
  if a ≤ k ∧ k < a + n then some (wv b (k - a)) else if k < lay s then some (gd (aH s) k) else if sz s ≤ k ∨ fr (k / 16) = true then some 0 else none
section MWRI
variable {G : fx_G} {S : fx_S} {I : Nat → Nat → Int32} {Q : fx_R → fx_S → Prop} {F : Int32 → fx_S → Prop} {A : VS}
theorem cM_wo189 (hS : shM S) {s : AS} (hw : wf s) (v1 : Int32) (a n : Nat) (b : Int32) (fr : Nat → Bool) {pl : List (Option Nat)} (hl : pl.length ≤ 63) (hx : ∀ c, some c ∈ pl → c < 128) (ha : a ≤ 1000) (hn : n ≤ 60) (g : Nat) (hg : g ≤ 1000) : ∀ (m k : Nat) (D : Nat → Nat) (I : Nat → Nat → Int32) {v9 : Int32}, k + m = 16 * pl.length → I 86 = nF D → I 85 10 = nI pl.length → rowO I 91 pl → (∀ j, j < pl.length → I 92 j = bI (fr j)) → (aK s = 2 → rowL I 93 (aH s)) →
    fx_Go G (1, 15) mm_M_store 0 [(0, fx_r G 85), (1, .int v1)] [] (fx_wI S (fx_row I 86 (nF (plw pl (wval s a n b fr) m k D)))) (fx_qi (fun x2 S1 => shM S1 ∧ (x2 = 0 → fx_Go G (0, 0) mm_M_refuse 0 [(0, fx_r G 85), (1, .int 1)] [] S1 (fx_qi (fun x4 S3 => shM S3 ∧ Q (.inl (some (.int x4))) S3) Q)) ∧ (¬ x2 = 0 → Q (.inl (some (.int (nI g)))) S1)) Q) → v9 = nI k →
    fx_Go G (4, 60) mm_M_writeOutside 189 [(0, fx_r G 85), (1, .int v1), (2, .int (nI a)), (3, .int (nI n)), (4, .int b), (5, .int (nI (sz s))), (6, .int (nI g)), (8, .int (nI (lay s))), (9, .int v9)] [] (fx_wI S I) Q := by
  have hsz := hw.szl
  have hlay : lay s ≤ 1000 := by unfold lay; split <;> omega
  intro m
  induction m with
  | zero =>
    intro k D I v9 hk hD hc hm hf hb h e9
    subst e9
    unfold plw at h
    rw [row_self hD] at h
    refine bs_M_writeOutside_189 hS.w _ _ _ _ _ _ _ _ ?_
    simp only [wI_I, hc]
    exact pk_le (16 * pl.length) k (fun _ => h) (fun q => absurd q (by omega)) (by rw [show (16 : Int32) = nI 16 from rfl, pk_mul]) rfl (by omega) (by omega)
  | succ m ih =>
    intro k D I v9 hk hD hc hm hf hb h e9
    subst e9
    unfold plw at h
    have hk16 : k / 16 < pl.length := by omega
    have plc : ∀ v : Nat, wval s a n b fr k = some v → ∀ x : Int32, x = nI v → fx_Go G (0, 0) mm_M_place 0 [(0, fx_r G 85), (1, .int (nI k)), (2, .int x)] [] (fx_wI S I) (fx_qv (fun S1 => shM S1 ∧ fx_Go G (4, 60) mm_M_writeOutside 189 [(0, fx_r G 85), (1, .int v1), (2, .int (nI a)), (3, .int (nI n)), (4, .int b), (5, .int (nI (sz s))), (6, .int (nI g)), (8, .int (nI (lay s))), (9, .int (nI k + Int32.ofInt 1))] [] S1 Q) Q) := by
      intro v hv x hx'
      rw [hv] at h
      refine cM_place hS hD hm (by omega) hx k v (by omega) ⟨hS, ?_⟩ rfl hx'
      refine ih (k + 1) (plD D pl k v) _ (by omega) (row_at _ _ _) hc hm hf hb ?_ (by first | rfl | (simp (disch := omega) only [nI_lit, nI_ofInt1, nI_ofInt4, nI_ofInt2, nI_ofInt3, mI_neg, wI_I, wI_setI, wI_setR, forall_eq, nI_add, pk_mul, pk_sub, pk_div, pk_rem, nI_clamp, nI_leI, nI_ltI, nI_eq, vin_iff, nar0, nar1, nF_ap, bF_ap, oF_ap, bI_0, bI_1, and255, bu_w, bu_p, bu_90, bu_9, row_w, row_at, nF_up, nI_ofIntm] <;> first | done | omega | (congr 1; omega)))
      rw [row_row]
      exact h
    unfold wval at h plc
    have old : ¬ (a ≤ k ∧ k < a + n) → fx_Go G (4, 60) mm_M_writeOutside 220 [(0, fx_r G 85), (1, .int v1), (2, .int (nI a)), (3, .int (nI n)), (4, .int b), (5, .int (nI (sz s))), (6, .int (nI g)), (8, .int (nI (lay s))), (9, .int (nI k))] [.int (nI 0)] (fx_wI S I) Q := by
      intro hno
      rw [if_neg hno] at h plc
      refine bs_M_writeOutside_220 hS.w _ _ _ _ _ _ _ _ _ ?_
      refine ⟨fun _ => ?_, fun q => absurd rfl q⟩
      refine pk_le (lay s) k (fun q1 => ?_) (fun q1 => ?_) rfl rfl (by omega) (by omega)
      · rw [if_neg (by omega)] at h plc
        refine pk_le (sz s) k (fun q2 => plc 0 (by rw [if_pos (Or.inl q2)]) _ rfl) (fun q2 => ⟨pk_in (k / 16) 64 (by omega) (by first | rfl | (simp (disch := omega) only [nI_lit, nI_ofInt1, nI_ofInt4, nI_ofInt2, nI_ofInt3, mI_neg, wI_I, wI_setI, wI_setR, forall_eq, nI_add, pk_mul, pk_sub, pk_div, pk_rem, nI_clamp, nI_leI, nI_ltI, nI_eq, vin_iff, nar0, nar1, nF_ap, bF_ap, oF_ap, bI_0, bI_1, and255, bu_w, bu_p, bu_90, bu_9, row_w, row_at, nF_up, nI_ofIntm] <;> first | done | omega | (congr 1; omega))), ?_⟩) rfl rfl (by omega) (by omega)
        have e16 : (nI k / 16).toNatClampNeg = k / 16 := pk_cl (k / 16) (by first | rfl | (simp (disch := omega) only [nI_lit, nI_ofInt1, nI_ofInt4, nI_ofInt2, nI_ofInt3, mI_neg, wI_I, wI_setI, wI_setR, forall_eq, nI_add, pk_mul, pk_sub, pk_div, pk_rem, nI_clamp, nI_leI, nI_ltI, nI_eq, vin_iff, nar0, nar1, nF_ap, bF_ap, oF_ap, bI_0, bI_1, and255, bu_w, bu_p, bu_90, bu_9, row_w, row_at, nF_up, nI_ofIntm] <;> first | done | omega | (congr 1; omega))) (by omega)
        simp only [wI_I]
        rw [e16, hf _ hk16]
        refine b0 (fun q3 => ?_) (fun q3 => plc 0 (by rw [if_pos (Or.inr q3)]) _ rfl)
        rw [if_neg (fun z => by
          rcases z with z | z
          · omega
          · rw [q3] at z; cases z)] at h
        exact ih (k + 1) D I (by omega) hD hc hm hf hb h (by first | rfl | (simp (disch := omega) only [nI_lit, nI_ofInt1, nI_ofInt4, nI_ofInt2, nI_ofInt3, mI_neg, wI_I, wI_setI, wI_setR, forall_eq, nI_add, pk_mul, pk_sub, pk_div, pk_rem, nI_clamp, nI_leI, nI_ltI, nI_eq, vin_iff, nar0, nar1, nF_ap, bF_ap, oF_ap, bI_0, bI_1, and255, bu_w, bu_p, bu_90, bu_9, row_w, row_at, nF_up, nI_ofIntm] <;> first | done | omega | (congr 1; omega)))
      · rw [if_pos q1] at h plc
        have k2 : aK s = 2 := by
          unfold lay at q1
          split at q1
          · assumption
          · omega
        have esz : sz s = (aH s).length := by unfold sz; rw [if_neg (by omega)]
        have hll : lay s = sz s := by unfold lay; rw [if_pos k2]
        have hhl := hw.hl (by omega)
        refine ⟨pk_in k 64 (by omega) rfl, plc (gd (aH s) k) rfl _ ?_⟩
        simp only [wI_I]
        rw [pk_cl k rfl (by omega)]
        exact hb k2 k (by omega)
    refine bs_M_writeOutside_189 hS.w _ _ _ _ _ _ _ _ ?_
    simp only [wI_I, hc]
    refine pk_le (16 * pl.length) k (fun q => absurd q (by omega)) (fun _ => ?_) (by rw [show (16 : Int32) = nI 16 from rfl, pk_mul]) rfl (by omega) (by omega)
    refine pk_lt k a (fun q => old (by omega)) (fun q => ?_) rfl rfl (by omega) (by omega)
    refine pk_le (a + n) k (fun q2 => old (by omega)) (fun q2 => ?_) (nI_add a n) rfl (by omega) (by omega)
    refine bs_M_writeOutside_220 hS.w _ _ _ _ _ _ _ _ _ ?_
    refine ⟨fun q3 => absurd q3 (by decide), fun _ => plc (wv b (k - a)) (by rw [if_pos ⟨q, q2⟩]) _ (wv_eq b k a q (by omega))⟩
end MWRI
