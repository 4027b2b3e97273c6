/-! The class's sheets. -/
def ShP (I : Nat → Nat → Int32) (h : Nat) (s : AS) : Prop := I h 0 = nI (aS s) ∧ I h 1 = nI (aP s) ∧ I h 2 = nI (aN s) ∧ I h 3 = nI (aK s) ∧ I h 4 = nI (sz s) ∧ NmP I (h + 1) (aM s) ∧ rowL I (h + 3) (aH s) ∧ LyP I (h + 4) (aL s)
theorem ShP.fc {cs : List Nat} {I I' : Nat → Nat → Int32} {h : Nat} {s : AS} (hP : ShP I h s) (hF : FC cs I I') (hc : ∀ a, h ≤ a → a ≤ h + 5 → a ∉ cs) : ShP I' h s := by
  obtain ⟨h1, h2, h3, h4, h5, h6, h7, h8⟩ := hP
  have e := hF h (hc h (by omega) (by omega))
  exact ⟨by rw [e]; exact h1, by rw [e]; exact h2, by rw [e]; exact h3, by rw [e]; exact h4, by rw [e]; exact h5, h6.fc hF (hc _ (by omega) (by omega)) (hc _ (by omega) (by omega)), h7.cg (hF _ (hc _ (by omega) (by omega))), h8.fc hF (hc _ (by omega) (by omega)) (hc _ (by omega) (by omega))⟩
def bec (st par n : Nat) : AS := (st, par, n, [], if st = 1 then 2 else if st = 2 then 4 else 0, [], 0, [])
section CH
variable {G : fx_G} {S : fx_S} {I : Nat → Nat → Int32} {Q : fx_R → fx_S → Prop}
theorem cH_bec30 {F : fx_S → Prop} (hS : shC S) (h : Nat) (hh : isH h) (st par n k : Nat) (hk : k = if st = 1 then 2 else if st = 2 then 4 else 0) (h0 : I h 0 = nI st) (h1 : I h 1 = nI par) (h2 : I h 2 = nI n) {z0 : Int32}
    (hF : ∀ I', FC [h, h + 1, h + 4] I I' → ShP I' h (bec st par n) → F (fx_wI S I')) (ez : z0 = nI k) : fx_Go G (1, 12) mm_H_become 30 [(0, fx_r G h)] [.int z0, fx_r G h] (fx_wI S I) (fx_qv F Q) := by
  subst ez
  refine bs_H_become_30 hS.w h _ h hh hh ?_
  simp only [wI_setI, forall_eq]
  refine cN_clear hS (h + 1) hh.n (fun I2 hF2 hN2 => ⟨hS, ?_⟩)
  simp only [wI_setI, forall_eq]
  have e2 : I2 h = fx_w (fx_w I h 3 (nI k)) h 4 0 h := hF2 h (by simp)
  refine hF (fx_w I2 (h + 4) 1 0) ?_ ?_
  · exact (((FC.w [h, h + 1, h + 4] I h _ _ (by simp)).tr (FC.w [h, h + 1, h + 4] _ h _ _ (by simp))).tr (hF2.mono (fun a ha => by simp at ha ⊢; omega))).tr (FC.w [h, h + 1, h + 4] _ (h + 4) _ _ (by simp))
  · have e3 : fx_w I2 (h + 4) 1 0 h = fx_w (fx_w I h 3 (nI k)) h 4 0 h := (fw_ne (by omega)).trans e2
    refine ⟨?_, ?_, ?_, ?_, ?_, ?_, fun j hj => absurd hj (Nat.not_lt_zero _), ⟨fw_at _ _ _ _, fun j hj => absurd hj (Nat.not_lt_zero _)⟩⟩
    · rw [e3, fw_nj (by omega), fw_nj (by omega)]; exact h0
    · rw [e3, fw_nj (by omega), fw_nj (by omega)]; exact h1
    · rw [e3, fw_nj (by omega), fw_nj (by omega)]; exact h2
    · rw [e3, fw_nj (by omega), fw_at, hk]; rfl
    · rw [e3, fw_at]
      show nI 0 = nI (sz (bec st par n))
      unfold sz bec aK aZ aH
      simp
    · exact hN2.cg (fw_ne (by omega)) (fw_ne (by omega))
theorem cH_become {F : fx_S → Prop} (hS : shC S) (h : Nat) (hh : isH h) (st par n : Nat) (hst : st < 256) (h2 : I h 2 = nI n) {v1 v2 : Int32} (hF : ∀ I', FC [h, h + 1, h + 4] I I' → ShP I' h (bec st par n) → F (fx_wI S I')) (e1 : v1 = nI st) (e2 : v2 = nI par) :
    fx_Go G (1, 12) mm_H_become 0 [(0, fx_r G h), (1, .int v1), (2, .int v2)] [] (fx_wI S I) (fx_qv F Q) := by
  subst e1 e2
  have main : ∀ k : Nat, k = (if st = 1 then 2 else if st = 2 then 4 else 0) → fx_Go G (1, 12) mm_H_become 30 [(0, fx_r G h)] [.int (nI k), fx_r G h] (fx_wI S (fx_w (fx_w I h 0 (nI st)) h 1 (nI par))) (fx_qv F Q) := by
    intro k hk
    refine cH_bec30 hS h hh st par n k hk ?_ (fw_at _ _ _ _) ?_ (fun I' hF' hP => hF I' (((FC.w [h, h + 1, h + 4] I h _ _ (by simp)).tr (FC.w [h, h + 1, h + 4] _ h _ _ (by simp))).tr hF') hP) rfl
    · rw [fw_nj (by omega), fw_at]
    · rw [fw_nj (by omega), fw_nj (by omega)]; exact h2
  refine bs_H_become_0 hS.w h _ _ hh ?_
  simp only [wI_setI, forall_eq]
  refine ne_pair (pk_eq st 1 (fun q => main 2 (by rw [if_pos q])) (fun q => ?_) rfl rfl (by omega) (by omega))
  exact ne_pair (pk_eq st 2 (fun q2 => main 4 (by rw [if_neg q, if_pos q2])) (fun q2 => main 0 (by rw [if_neg q, if_neg q2])) rfl rfl (by omega) (by omega))
theorem cH_takeNextNumber {F : fx_S → Prop} (hS : shC S) (h : Nat) (hh : isH h) {s : AS} (hP : ShP I h s) (hn : aN s < 65536) (hF : ∀ I', FC [h] I I' → ShP I' h (setN s (nxt (aN s))) → F (fx_wI S I')) : fx_Go G (0, 0) mm_H_takeNextNumber 0 [(0, fx_r G h)] [] (fx_wI S I) (fx_qv F Q) := by
  have main : ∀ x : Int32, x = nI (nxt (aN s)) → F (fx_wI S (fx_w I h 2 x)) := by
    intro x ex
    subst ex
    refine hF _ (FC.w _ _ _ _ _ (by simp)) ?_
    obtain ⟨h1, h2, h3, h4, h5, h6, h7, h8⟩ := hP
    refine ⟨?_, ?_, fw_at _ _ _ _, ?_, ?_, h6.cg (fw_ne (by omega)) (fw_ne (by omega)), h7.cg (fw_ne (by omega)), h8.cg (fw_ne (by omega)) (fw_ne (by omega))⟩
    · rw [fw_nj (by omega)]; exact h1
    · rw [fw_nj (by omega)]; exact h2
    · rw [fw_nj (by omega)]; exact h4
    · rw [fw_nj (by omega)]; exact h5
  refine bs_H_takeNextNumber_0 hS.w h hh ?_
  simp only [wI_I, wI_setI, forall_eq, hP.2.2.1]
  refine pk_lt (aN s) 65535 (fun q => main _ ?_) (fun q => main _ ?_) rfl rfl (by omega) (by omega)
  · unfold nxt; rw [if_neg (by omega)]; exact nI_1 _
  · unfold nxt; rw [if_pos (by omega)]; rfl
theorem cH_nameBytes {F : Int32 → fx_S → Prop} (hS : shC S) (h : Nat) (hh : isH h) {l : List Nat} (hN : NmP I (h + 1) l) (hl : l.length ≤ 8) (hF : F (nI (nmA l).length) (fx_wI S I)) : fx_Go G (0, 0) mm_H_nameBytes 0 [(0, fx_r G h)] [] (fx_wI S I) (fx_qi F Q) := by
  have hL := nmA_len l
  refine bs_H_nameBytes_0 hS.w h hh ?_
  simp only [wI_I, hN.1]
  refine ne_pair (pk_eq l.length 0 (fun q => ?_) (fun q => ?_) rfl rfl (by omega) (by omega))
  · rw [if_pos q] at hL; rw [hL] at hF; exact hF
  · rw [if_neg q] at hL
    rw [hL] at hF
    rw [show (2 : Int32) + nI l.length = nI (l.length + 2) by rw [show (2 : Int32) = nI 2 from rfl, nI_add, Nat.add_comm]]
    exact hF
theorem cH_dataBytes {F : Int32 → fx_S → Prop} (hS : shC S) (h : Nat) (hh : isH h) {s : AS} (hP : ShP I h s) (hy : yok (aL s)) (hk : aK s < 5) (hF : F (nI (dtA s).length) (fx_wI S I)) : fx_Go G (2, 27) mm_H_dataBytes 0 [(0, fx_r G h)] [] (fx_wI S I) (fx_qi F Q) := by
  obtain ⟨h1, h2, h3, h4, h5, h6, h7, h8⟩ := hP
  have hL := dtA_len s
  refine bs_H_dataBytes_0 hS.w h hh ?_
  simp only [wI_I, h4, h5]
  refine ne_pair (pk_eq (aK s) 0 (fun q => ?_) (fun q => ?_) rfl rfl (by omega) (by omega))
  · rw [if_pos q] at hL; rw [hL] at hF; exact hF
  · rw [if_neg q] at hL
    refine ne_pair (pk_eq (aK s) 3 (fun q2 => ?_) (fun q2 => ?_) rfl rfl (by omega) (by omega))
    · rw [if_pos q2] at hL
      rw [hL] at hF
      exact cY_attributeBytes hS (h + 4) hh.y h8 hy ⟨hS, hF⟩
    · rw [if_neg q2] at hL
      rw [hL] at hF
      rw [show sz s = (aH s).length by unfold sz; rw [if_neg q2], show (2 : Int32) + nI (aH s).length = nI ((aH s).length + 2) by rw [show (2 : Int32) = nI 2 from rfl, nI_add, Nat.add_comm]]
      exact hF
theorem cH_attributeBytes {F : Int32 → fx_S → Prop} (hS : shC S) (h : Nat) (hh : isH h) {s : AS} (hP : ShP I h s) (hy : yok (aL s)) (hk : aK s < 5) (hl : (aM s).length ≤ 8) (hF : F (nI (atA s).length) (fx_wI S I)) : fx_Go G (3, 40) mm_H_attributeBytes 0 [(0, fx_r G h)] [] (fx_wI S I) (fx_qi F Q) := by
  refine bs_H_attributeBytes_0 hS.w h hh ?_
  refine cH_nameBytes hS h hh hP.2.2.2.2.2.1 hl ⟨hS, ?_⟩
  refine cH_dataBytes hS h hh hP hy hk ⟨hS, ?_⟩
  rw [nI_add, ← atA_len]
  exact hF
theorem cH_mostInside {F : Int32 → fx_S → Prop} (hS : shC S) (h : Nat) (hh : isH h) {l : List Nat} (hN : NmP I (h + 1) l) (hl : l.length ≤ 8) (hF : F (nI (52 - (nmA l).length)) (fx_wI S I)) : fx_Go G (1, 13) mm_H_mostInside 0 [(0, fx_r G h)] [] (fx_wI S I) (fx_qi F Q) := by
  have hL := nmA_len l
  have h10 : (nmA l).length ≤ 10 := by rw [hL]; split <;> omega
  refine bs_H_mostInside_0 hS.w h hh ?_
  refine cH_nameBytes hS h hh hN hl ⟨hS, ?_⟩
  rw [show (54 : Int32) = nI 54 from rfl, show (2 : Int32) = nI 2 from rfl, pk_sub (by omega), pk_sub (by omega), show 54 - (nmA l).length - 2 = 52 - (nmA l).length by omega]
  exact hF
end CH
