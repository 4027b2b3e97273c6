/-! The law's loop. -/
theorem ltl {Ln v : Nat} (h : Ln ≤ 2560) (hv : v < 10000) : (Int32.ofNat Ln - 5 < nI v) ↔ Ln < v + 5 := by
  rw [Int32.lt_iff_toInt_lt, show Int32.ofNat Ln - 5 = nI Ln - nI 5 from rfl, pk_sub_toInt (by omega) (by omega), nI_toInt (by omega)]
  omega
theorem law_loop {G : fx_G} {b Ln : Nat} {xs : Nat → Int32} (hLn : Ln ≤ 2560) (hX : va_X b Ln xs G.1 G.1.heap) (hb : b < fx_B G) : ∀ (m c : Nat) (S : fx_S) (I : Nat → Nat → Int32) (A : VS) {v4 : Int32}, c + m = 513 → LwS S c → CS I A → MS I A → INV (1 + 24 * c) A → v4 = nI (5 * c) →
    fx_Go G (11, 154) mm_L_law 23 [(0, .ref b), (1, fx_r G 0), (2, fx_r G 85), (3, fx_r G 95), (4, .int v4)] [] (fx_wI S I) (fun o _ => o = .inl (some (.int 1))) := by
  intro m
  induction m with
  | zero =>
    intro c S I A v4 hc hL hC hM hI e4
    subst e4
    refine bk_L_law_23 hX hb 0 85 95 _ ?_
    exact ⟨fun _ => rfl, fun z => absurd ((ltl hLn (by omega)).mpr (by omega)) z⟩
  | succ m ih =>
    intro c S I A v4 hc hL hC hM hI e4
    refine bk_L_law_23 hX hb 0 85 95 _ ?_
    refine ⟨fun _ => rfl, fun z => ?_⟩
    rw [e4, ltl hLn (by omega)] at z
    have hv : 5 * c + 5 ≤ Ln := by omega
    have hp0 : vp_in v4 Ln := pk_in (5 * c) Ln (by omega) e4 (by omega)
    have hp1 : vp_in (v4 + 1) Ln := pk_in (5 * c + 1) Ln (by omega) (by rw [e4]; exact nI_add _ 1) (by omega)
    have hp2 : vp_in (v4 + 2) Ln := pk_in (5 * c + 2) Ln (by omega) (by rw [e4]; exact nI_add _ 2) (by omega)
    have hp3 : vp_in (v4 + 3) Ln := pk_in (5 * c + 3) Ln (by omega) (by rw [e4]; exact nI_add _ 3) (by omega)
    have hp4 : vp_in (v4 + 4) Ln := pk_in (5 * c + 4) Ln (by omega) (by rw [e4]; exact nI_add _ 4) (by omega)
    have nx : ∀ S' I' A', LwS S' (c + 1) → CS I' A' → MS I' A' → INV (1 + 24 * c + 24) A' → fx_Go G (11, 154) mm_L_law 755 [(0, .ref b), (1, fx_r G 0), (2, fx_r G 85), (3, fx_r G 95), (4, .int v4)] [] (fx_wI S' I') (fun o _ => o = .inl (some (.int 1))) := by
      intro S' I' A' h1 h2 h3 h4
      refine bk_L_law_755 hX hb 0 85 95 _ ?_
      exact ih (c + 1) S' I' A' (by omega) h1 h2 h3 (h4.mono (by omega)) (by rw [e4, show Int32.ofInt 5 = nI 5 from rfl, nI_add]; congr 1)
    have hB := hI.bi
    have hO : vo A = true → OI A := fun ho => (hI.2 ho).1
    have hN : 1 + 24 * c + 24 < 65535 := by omega
    have hc6 : c ≤ 600 := by omega
    have isC : ∀ {S' : fx_S} {c' : Nat} (I' : Nat → Nat → Int32), LwS S' c' → fx_is (fx_wI S' I') 0 4 := fun I' h => h.1.is (by omega) rfl
    have isM : ∀ {S' : fx_S} {c' : Nat} (I' : Nat → Nat → Int32), LwS S' c' → fx_is (fx_wI S' I') 85 5 := fun I' h => h.2.1.is (by omega) rfl
    have same : ∀ I', SC I I' → fx_Go G (11, 154) mm_L_law 755 [(0, .ref b), (1, fx_r G 0), (2, fx_r G 85), (3, fx_r G 95), (4, .int v4)] [] (fx_wI S I') (fun o _ => o = .inl (some (.int 1))) := fun I' h => nx S I' A hL.mono (hC.k h.k) (hM.keep h) (hI.mono (by omega))
    refine ⟨hp0, fun _ => ?_, fun _ => ?_, fun _ => ?_, fun _ => ?_, fun _ => ?_, fun _ => ?_, fun _ => ?_, fun _ => ?_, fun _ => ?_, fun _ => ?_, fun _ => ?_, fun _ => ?_, fun _ => ?_, fun _ => ?_, fun _ => ?_, fun _ _ _ _ _ _ _ _ _ _ _ _ _ _ _ => ?_⟩
    · refine ⟨hp1, isC I hL, ?_⟩
      rw [pk_char]
      have hch : (xs (v4 + 1).toNatClampNeg).toBitVec.toNat % 65536 < 65536 := Nat.mod_lt _ (by omega)
      generalize (xs (v4 + 1).toNatClampNeg).toBitVec.toNat % 65536 = ch at hch ⊢
      refine cV_type hL.1 hC hB ch hch (fun I1 hLC hC1 => ⟨hp1, isM I1 hL, ?_⟩)
      exact cM_type hL.2.1 (hM.lc hLC) hB ch hch (fun I2 hK hM2 _ => ⟨fun _ => nx S I2 _ hL.mono (hC1.k hK) hM2 ((sType_inv hI ch).mono (by omega)), fun q => absurd rfl q⟩)
    · have cr : ∀ (isF : Bool), (isF = true ↔ ¬ xs (v4 + 2).toNatClampNeg = 0) → fx_Go G (11, 154) mm_L_law 160 [(0, .ref b), (1, fx_r G 0), (2, fx_r G 85), (3, fx_r G 95), (4, .int v4)] [.int (bI isF), .int (xs (v4 + 1).toNatClampNeg), fx_r G 0] (fx_wI S I) (fun o _ => o = .inl (some (.int 1))) := by
        intro isF hF
        refine bk_L_law_160 hX hb 0 85 95 _ _ _ 0 ?_
        refine cL_create hL hc6 hC hB hO (xs (v4 + 1).toNatClampNeg) isF (fun S1 I1 hS1 hJ hLC hCS => ⟨hp1, hp2, ?_⟩) rfl
        have m187 : fx_Go G (11, 154) mm_L_law 187 [(0, .ref b), (1, fx_r G 0), (2, fx_r G 85), (3, fx_r G 95), (4, .int v4), (5, .int (nI (sCre A (xs (v4 + 1).toNatClampNeg) isF).1))] [.int (bI isF), .int (xs (v4 + 1).toNatClampNeg), fx_r G 85] (fx_wI S1 I1) (fun o _ => o = .inl (some (.int 1))) := by
          refine bk_L_law_187 hX hb 0 85 95 _ _ _ _ 85 ⟨isM I1 hS1, ?_⟩
          have hcd : (sCre A (xs (v4 + 1).toNatClampNeg) isF).1 ≤ 3 := sMk_c _ _ _
          exact cM_create hS1.2.1 (hM.lc hLC) hB hO _ isF (fun I2 hK hM2 h00 => cL_tail (Q := fun o _ => o = .inl (some (.int 1))) (W := fun S4 => fx_Go G (11, 154) mm_L_law 755 [(0, .ref b), (1, fx_r G 0), (2, fx_r G 85), (3, fx_r G 95), (4, .int v4)] [] S4 (fun o _ => o = .inl (some (.int 1)))) hS1 (by omega) hJ h00 (nx S1 I2 _ hS1 (hCS.k hK) hM2 (sCre_inv hI _ isF hN)) rfl) rfl
        cases isF with
        | true => exact ⟨fun q => absurd q (hF.mp rfl), fun _ => m187⟩
        | false => exact ⟨fun _ => m187, fun q => by cases hF.mpr q⟩
      refine ⟨hp1, hp2, fun q => ?_, fun q => ?_⟩
      · exact cr false ⟨fun z => (by cases z), fun z => absurd q z⟩
      · exact cr true ⟨fun _ => q, fun _ => rfl⟩
    · refine ⟨hp1, hp2, hp3, hp4, ?_⟩
      refine cL_write hL hc6 hC hB hO _ _ _ _ (fun S1 I1 hS1 hJ hLC hCS => ⟨hp1, hp2, hp3, hp4, isM I1 hS1, ?_⟩)
      have hcd := sWri_c A (xs (v4 + 1).toNatClampNeg) (xs (v4 + 2).toNatClampNeg) (xs (v4 + 3).toNatClampNeg) (xs (v4 + 4).toNatClampNeg)
      exact cM_write hS1.2.1 (hM.lc hLC) hB hO _ _ _ _ (fun I2 hK hM2 h00 => cL_tail (Q := fun o _ => o = .inl (some (.int 1))) (W := fun S4 => fx_Go G (11, 154) mm_L_law 755 [(0, .ref b), (1, fx_r G 0), (2, fx_r G 85), (3, fx_r G 95), (4, .int v4)] [] S4 (fun o _ => o = .inl (some (.int 1)))) hS1 (by omega) hJ h00 (nx S1 I2 _ hS1 (hCS.k hK) hM2 (sWri_inv hI _ _ _ _ hN)) rfl)
    · refine ⟨hp1, hp2, ?_⟩
      refine cL_cut hL hc6 hC hB hO _ _ (fun S1 I1 hS1 hJ hLC hCS => ⟨hp1, hp2, isM I1 hS1, ?_⟩)
      have hcd := sCut_c A (xs (v4 + 1).toNatClampNeg) (xs (v4 + 2).toNatClampNeg)
      exact cM_cut hS1.2.1 (hM.lc hLC) hB hO _ _ (fun I2 hK hM2 h00 => cL_tail (Q := fun o _ => o = .inl (some (.int 1))) (W := fun S4 => fx_Go G (11, 154) mm_L_law 755 [(0, .ref b), (1, fx_r G 0), (2, fx_r G 85), (3, fx_r G 95), (4, .int v4)] [] S4 (fun o _ => o = .inl (some (.int 1)))) hS1 (by omega) hJ h00 (nx S1 I2 _ hS1 (hCS.k hK) hM2 (sCut_inv hI _ _ hN)) rfl)
    · refine ⟨hp1, ?_⟩
      refine cL_remove hL hc6 hC hB hO _ (fun S1 I1 hS1 hJ hLC hCS => ⟨hp1, isM I1 hS1, ?_⟩)
      have hcd := sRem_c A (xs (v4 + 1).toNatClampNeg)
      exact cM_remove hS1.2.1 (hM.lc hLC) hB hO _ (fun I2 hK hM2 h00 => cL_tail (Q := fun o _ => o = .inl (some (.int 1))) (W := fun S4 => fx_Go G (11, 154) mm_L_law 755 [(0, .ref b), (1, fx_r G 0), (2, fx_r G 85), (3, fx_r G 95), (4, .int v4)] [] S4 (fun o _ => o = .inl (some (.int 1)))) hS1 (by omega) hJ h00 (nx S1 I2 _ hS1 (hCS.k hK) hM2 (sRem_inv hI _ hN)) rfl)
    · refine ⟨hp1, hp2, ?_⟩
      refine cL_move hL hc6 hC hB hO _ _ (fun S1 I1 hS1 hLC hCS => ⟨hp1, hp2, isM I1 hS1, ?_⟩)
      refine cM_move hS1.2.1 (hM.lc hLC) hB hO _ _ (fun I2 hK hM2 h00 => ⟨isM I2 hS1, bs_M_thrown_0 (shM.w hS1.2.1) ?_⟩)
      refine ⟨fun _ => nx S1 I2 _ hS1 (hCS.k hK) hM2 (sMov_inv hI _ _ hN), fun q => absurd ?_ q⟩
      exact h00
    · refine ⟨hp1, isC I hL, ?_⟩
      refine cV_fail hL.1 hC _ (fun I1 hLC hC1 => ⟨hp1, isM I1 hL, ?_⟩)
      exact cM_fail hL.2.1 (hM.lc hLC) _ (fun I2 hK hM2 _ => ⟨fun _ => nx S I2 _ hL.mono (hC1.k hK) hM2 ((sFail_inv hI _).mono (by omega)), fun q => absurd rfl q⟩)
    · obtain ⟨⟨f, hAI⟩, _⟩ := id hI
      obtain ⟨_, _, _, _, _, U0, _, h87, _, _⟩ := id hM
      have hok : okU (vD A) (fun x => if x < 12 then inU (vD A) x else U0 x) := fun r hr => if_pos hr
      refine cL_mount hL hc6 hC.1 hB f hAI.mr (fun x => if x < 12 then inU (vD A) x else U0 x) hok (fun S1 I1 hS1 hJ hLC hCS => ⟨isM I1 hS1, ?_⟩)
      refine cM_mount hS1.2.1 (hM.lc hLC) hB (U0 := U0) (by rw [hLC 87 (by omega)]; exact h87) f (fun r hr hu => ⟨(hAI.mr.1 r hr hu).1, (hAI.mr.1 r hr hu).2.1⟩) (fun U T hU hU2 hT I2 hK hM2 h00 => ?_)
      have eU : U = fun x => if x < 12 then inU (vD A) x else U0 x := by
        funext x
        by_cases hx : x < 12
        · rw [if_pos hx]; exact hU x hx
        · rw [if_neg hx]; exact hU2 x (by omega)
      subst eU
      have hinv := sMnt_inv hAI hN _ T hU hT
      have hCT := hCS T hT
      generalize hB' : sMnt (mSt A (fun x => if x < 12 then inU (vD A) x else U0 x) f) = R at *
      have hcd : (if vo R.2 = true then 0 else 1) < 10 := by split <;> omega
      refine cL_tail (Q := fun o _ => o = .inl (some (.int 1))) (W := fun S4 => fx_Go G (11, 154) mm_L_law 755 [(0, .ref b), (1, fx_r G 0), (2, fx_r G 85), (3, fx_r G 95), (4, .int v4)] [] S4 (fun o _ => o = .inl (some (.int 1)))) hS1 hcd (fun z => ?_) h00 (nx S1 I2 _ hS1 (hCT.k hK) hM2 hinv) rfl
      by_cases hv : vo R.2 = true
      · rw [if_pos hv]
        exact hJ hv
      · rw [if_neg hv] at z
        omega
    · refine ⟨isC I hL, ?_⟩
      refine cV_on hL.1 hC ⟨isM I hL, ?_⟩
      exact cM_on hL.2.1 hM (fun I' hSC _ => ⟨fun _ => same I' hSC, fun q => absurd rfl q⟩)
    · refine ⟨hp1, isC I hL, ?_⟩
      refine cV_find hL.1 hC hB hO _ (fun I1 hLC hC1 => ⟨hp1, isM I1 hL, ?_⟩)
      exact cM_find hL.2.1 (hM.lc hLC) hB hO _ (fun I2 hK hM2 _ => ⟨fun _ => nx S I2 _ hL.mono (hC1.k hK) hM2 (hI.clr.mono (by omega)), fun q => absurd rfl q⟩)
    · refine ⟨hp1, hp2, isC I hL, ?_⟩
      refine cV_record hL.1 hC hB hO _ _ ⟨hp1, hp2, isM I hL, ?_⟩
      exact cM_record hL.2.1 hM hO _ _ (fun I' hSC _ => ⟨fun _ => same I' hSC, fun q => absurd rfl q⟩)
    · refine ⟨hp1, hp2, isC I hL, ?_⟩
      refine cV_read hL.1 hC hB hO _ _ ⟨hp1, hp2, isM I hL, ?_⟩
      exact cM_read hL.2.1 hM hO _ _ (fun I' hSC _ => ⟨fun _ => same I' hSC, fun q => absurd rfl q⟩)
    · refine ⟨hp1, hp2, hp3, isC I hL, ?_⟩
      refine cV_run hL.1 hC hB hO _ _ _ ⟨hp1, hp2, hp3, isM I hL, ?_⟩
      exact cM_run hL.2.1 hM hB hO _ _ _ (fun I' hSC _ => ⟨fun _ => same I' hSC, fun q => absurd rfl q⟩)
    · refine ⟨isC I hL, ?_⟩
      refine cV_free hL.1 hC ⟨isM I hL, ?_⟩
      exact cM_free hL.2.1 hM (fun I' hSC _ => ⟨fun _ => same I' hSC, fun q => absurd rfl q⟩)
    · refine ⟨hp1, isC I hL, ?_⟩
      refine cV_at hL.1 hC _ ⟨hp1, isM I hL, ?_⟩
      exact cM_at hL.2.1 hM _ (fun I' hSC _ => ⟨fun _ => same I' hSC, fun q => absurd rfl q⟩)
    · exact nx S I A hL.mono hC hM (hI.mono (by omega))
