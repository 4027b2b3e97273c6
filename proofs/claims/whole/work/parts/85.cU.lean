/-! The class's cut. -/
theorem cutS_wf {s : AS} {k n : Nat} (h : wf s) (h1 : aS s = 1) (hk : k ≤ sz s) (hn : n < 65536) : wf (setN (cutS s k) n) := by
  have hka := h.ka
  have h4 : aK s ≠ 4 := fun z => by have := h.1; omega
  by_cases c : aK s = 2 ∨ k = 0
  · rw [cutS_2 c]
    have hal : (nmA (aM s)).length + ((if aK s = 2 then (aH s).take k else []).length + 2) ≤ 54 := by
      by_cases c2 : aK s = 2
      · rw [if_pos c2, List.length_take]
        have := h.hl (by omega)
        omega
      · rw [if_neg c2]
        have := h.l3 (by omega)
        show (nmA (aM s)).length + (0 + 2) ≤ 54
        omega
    refine ⟨Or.inl ⟨rfl, Or.inl rfl⟩, h.2.1, hn, h.nl, h.nx, ?_, fun x hx => ?_, fun z => by (cases z), fun _ => rfl, fun z => by (cases z)⟩
    · rw [atA_len, dtA_len]
      exact hal
    · change x ∈ (if aK s = 2 then (aH s).take k else []) at hx
      by_cases c2 : aK s = 2
      · rw [if_pos c2] at hx
        exact h.hb x (List.mem_of_mem_take hx)
      · rw [if_neg c2] at hx
        cases hx
  · rw [cutS_3 c]
    have h3 : aK s = 3 := by omega
    have ez : sz s = aZ s := by unfold sz; rw [if_pos h3]
    have hz := h.z h3
    have hl := h.ll h3
    have h9 := h.2.2.2.2.2.2.2.2.2 h3
    refine ⟨Or.inl ⟨rfl, Or.inr rfl⟩, h.2.1, hn, h.nl, h.nx, ?_, fun x hx => by (cases hx), fun z => by (cases z), fun z => absurd rfl z, fun _ => ⟨?_, ?_, ?_, rfl, fun x hx => h9.2.2.2.2 x (List.mem_of_mem_take hx)⟩⟩
    · rw [atA_len, dtA_len]
      show (nmA (aM s)).length + (5 + (rn 48 ((aL s).take ((k + 15) / 16))).length) ≤ 54
      have := rn_take (aL s).length (aL s) 48 ((k + 15) / 16) (Nat.le_refl _)
      have := h.l3 h3
      omega
    · show 0 < k
      omega
    · show k ≤ 1000
      omega
    · show ((aL s).take ((k + 15) / 16)).length = (k + 15) / 16
      rw [List.length_take]
      omega
theorem cutD_lo {D : Nat → Nat} {s : AS} {k : Nat} (h : wf s) (q : Nat) (hq : q < 768) : cutD D s k q = D q := by
  unfold cutD
  split
  · rfl
  · exact plw_lo (fun c hc => h.dl.2 c (List.mem_of_mem_take hc)) _ q hq _ _ _
theorem cutD_lt {D : Nat → Nat} {s : AS} {k : Nat} (hB : ∀ q, D q < 256) (q : Nat) : cutD D s k q < 256 := by
  unfold cutD
  split
  · exact hB q
  · exact plw_lt (fun k v e => by cases e; omega) _ _ _ hB q
theorem BI.sd {A : VS} (h : BI A) {D : Nat → Nat} (hD : ∀ k, D k < 256) : BI (setD A D) := ⟨hD, h.2⟩
theorem wrd_lo {D D' : Nat → Nat} (h : ∀ q, q < 768 → D' q = D q) {p : Nat} (hp : p < 767) : wrd D' p = wrd D p := by
  unfold wrd
  rw [h p (by omega), h (p + 1) (by omega)]
section CU
variable {G : fx_G} {S : fx_S} {I : Nat → Nat → Int32} {Q : fx_R → fx_S → Prop} {A : VS}
theorem cV_cut {F : Int32 → fx_S → Prop} (hS : shC S) (hR : fx_roomx S) (hC : CS I A) (hB : BI A) (hO : vo A = true → OI A) (v1 v2 : Int32)
    (h0 : (sCut A v1 v2).1 = 0 → ∀ I', LC I I' → CS I' (sCut A v1 v2).2.2 → F (sCut A v1 v2).2.1 (fx_wI S I'))
    (h1 : (sCut A v1 v2).1 ≠ 0 → ∀ I', LC I I' → CS I' (sCut A v1 v2).2.2 → Q (.inr (sCut A v1 v2).1) (fx_exc (fx_wI S I'))) :
    fx_Go G (8, 109) mm_V_cut 0 [(0, fx_r G 0), (1, .int v1), (2, .int v2)] [] (fx_wI S I) (fx_qi F Q) := by
  refine bs_V_cut_0 hS.w _ _ ?_
  refine cV_requireRunning hS hR hC.2.1 (fun q => ?_) (fun ho => ⟨hS, ?_⟩)
  · have e : sCut A v1 v2 = (1, nI 0, A) := by unfold sCut; rw [if_pos q]
    rw [e] at h1
    exact h1 ne10 I (LC.r I) hC
  · have hOA := hO ho
    have hK := hOA.gk hB
    obtain ⟨hH, hT⟩ := hC.2.2 ho
    have hb : ∀ (o : Bool), (o = true ↔ uk A v1 1 = true ∧ ¬ v2 < 0 ∧ v2 ≤ nI (sz (vf A v1.toNatClampNeg))) → fx_Go G (8, 109) mm_V_cut 34 [(0, fx_r G 0), (1, .int v1), (2, .int v2)] [.int (bI o)] (fx_wI S I) (fx_qi F Q) := by
      intro o hoo
      refine bs_V_cut_34 hS.w _ _ _ ?_
      refine cV_require hS hR (fun q => ?_) (fun q => ⟨hS, ?_⟩) rfl
      · have e : sCut A v1 v2 = (2, nI 0, A) := by
          unfold sCut
          rw [if_neg (by rw [ho]; decide), if_neg (fun z => by rw [hoo.mpr z] at q; cases q)]
        rw [e] at h1
        exact h1 ne20 I (LC.r I) hC
      · have hc := hoo.mp q
        obtain ⟨r, hr, er, hur, _, ec, hs1⟩ := uk_j hc.1
        subst er
        rw [ec] at hc
        have hw := (hK r hr).1 hur
        have hszl := hw.szl
        obtain ⟨k, hk, ek⟩ := nI_of2 (M := nI (sz (vf A r))) (n := sz (vf A r)) (nI_toInt (by omega)) hc.2.1 hc.2.2
        subst ek
        have es : sCut A (nI r) (nI k) = (let A1 := stA (setD A (cutD (vD A) (vf A r) k)) r (cutS (vf A r) k)
          if stOk (vt A) = false then (1, nI 0, A1) else (0, nI (sz (vf A r)), setT A1 (clrT (vT A) ((aL (vf A r)).drop ((k + 15) / 16))))) := by
          unfold sCut
          rw [if_neg (by rw [ho]; decide), ec, if_pos hc, nI_clamp (by omega)]
        rw [es] at h0 h1
        clear es
        have hP := hH r hr
        have hh := isH_at r hr
        have hn0 : aN (vf A r) = wrd (vD A) (64 * r + 2) := ((hOA.rc r hr hur).1.w hw.2.2.1).symm
        have hwc := cutS_wf (n := aN (vf A r)) hw hs1 hk hw.2.2.1
        have fin : ∀ J, FC [2, 4 + 6 * r, 4 + 6 * r + 4, 76] I J → J 2 = nF (cutD (vD A) (vf A r) k) → CT J (clrT (vT A) ((aL (vf A r)).drop ((k + 15) / 16))) → ShP J (4 + 6 * r) (setN (cutS (vf A r) k) (aN (vf A r))) → fx_Go G (7, 96) mm_V_store 0 [(0, fx_r G 0), (1, .int (nI r))] [] (fx_wI S J) (fx_qv (fun S6 => shC S6 ∧ fx_qi F Q (.inl (some (.int (nI (sz (vf A r)))))) S6) (fx_qi F Q)) := by
          intro J hJ hD hTJ hPJ
          have hLJ : LC I J := hJ.lc (fun a ha => by simp at ha <;> omega)
          have hCB : CB J (setT (setD A (cutD (vD A) (vf A r) k)) (clrT (vT A) ((aL (vf A r)).drop ((k + 15) / 16)))) := ⟨hD, by rw [hJ 1 (by simp <;> omega)]; exact hC.1.2.1, hC.1.2.2.fc hJ (by simp <;> omega) (by simp <;> omega)⟩
          have hHJ : CH J (up (vf (setT (setD A (cutD (vD A) (vf A r) k)) (clrT (vT A) ((aL (vf A r)).drop ((k + 15) / 16))))) r (setN (cutS (vf A r) k) (aN (vf A r)))) := hH.set r hr hJ (fun a a1 a2 a3 => by simp <;> omega) hPJ
          have hBJ : BI (setT (setD A (cutD (vD A) (vf A r) k)) (clrT (vT A) ((aL (vf A r)).drop ((k + 15) / 16)))) := hB.sd (cutD_lt hB.1)
          refine cV_storeS hS hR hCB (by rw [hJ 0 (by simp <;> omega), hC.2.1, ho]) hTJ hBJ ho r hr (cutS (vf A r) k) _ hHJ (by rw [hn0]; exact (wrd_lo (fun q hq => cutD_lo hw q hq) (by omega)).symm) hwc.sok (fun q2 K hK' hCK => ?_) (fun q2 K hK' hCK => ⟨hS, ?_⟩) rfl
          · have q2' : stOk (vt A) = false := q2
            simp only [if_pos q2'] at h1
            refine h1 ne10 K (hLJ.tr (hK'.lc (fun a ha => by simp at ha <;> omega))) (hCK.off (fun z => z) ?_ ?_)
            · rw [stA_o (A := setT (setD A (cutD (vD A) (vf A r) k)) (clrT (vT A) ((aL (vf A r)).drop ((k + 15) / 16)))) ho]; exact q2
            · rw [stA_o (A := setD A (cutD (vD A) (vf A r) k)) ho]; exact q2
          · have q2' : stOk (vt A) = true := q2
            rw [if_neg (by rw [q2']; decide)] at h0
            exact h0 rfl K (hLJ.tr (hK'.lc (fun a ha => by simp at ha <;> omega))) hCK
        obtain ⟨p1, p2, p3, p4, p5, p6, p7, p8⟩ := hP
        have hka := hw.ka
        have hk4 : aK (vf A r) ≠ 4 := fun z => by have := hw.1; omega
        have e3 : fx_w I (4 + 6 * r) 4 (nI k) (4 + 6 * r) 3 = nI (aK (vf A r)) := by rw [fw_nj (by omega)]; exact p4
        simp only [wI_I, wI_setI, forall_eq]
        rw [ec, p5, e3]
        have hF1 : FC [4 + 6 * r] I (fx_w I (4 + 6 * r) 4 (nI k)) := FC.w [4 + 6 * r] I _ _ _ (by simp <;> omega)
        have e1j : ∀ j, j ≠ 4 → fx_w I (4 + 6 * r) 4 (nI k) (4 + 6 * r) j = I (4 + 6 * r) j := fun j hj => fw_nj hj
        have e14 : fx_w I (4 + 6 * r) 4 (nI k) (4 + 6 * r) 4 = nI k := fw_at _ _ _ _
        generalize fx_w I (4 + 6 * r) 4 (nI k) = I1 at hF1 e1j e14 ⊢
        refine ⟨pk_in r 12 hr rfl, ?_⟩
        refine ne_pair (pk_eq (aK (vf A r)) 3 (fun q3 => ?_) (fun q3 => ?_) rfl rfl (by omega) (by omega))
        · have ez : sz (vf A r) = aZ (vf A r) := by unfold sz; rw [if_pos q3]
          have hll := hw.ll q3
          refine cV_clustersFor hS k (by omega) ⟨hS, ?_⟩ rfl
          refine cV_releaseFrom hS (4 + 6 * r + 4) hh.y (by omega) hw.dl ((k + 15) / 16) (by omega) (p8.fc hF1 (by simp <;> omega) (by simp <;> omega)) (hT.fc hF1 (by simp <;> omega)) (fun I2 hF2 hL2 hT2 => ⟨hS, ?_⟩) rfl
          refine cV_endOfLast hS k (by omega) ⟨hS, ?_⟩ rfl
          have hF12 : FC [4 + 6 * r, 4 + 6 * r + 4, 76] I I2 := (hF1.mono (fun a ha => by simp at ha ⊢ <;> omega)).tr (hF2.mono (fun a ha => by simp at ha ⊢ <;> omega))
          have e2 : I2 (4 + 6 * r) = I1 (4 + 6 * r) := hF2 _ (by simp <;> omega)
          refine cD_clearFile hS (4 + 6 * r + 4) hh.y (by omega) hL2 ⟨by rw [List.length_take]; omega, fun c hc => hw.dl.2 c (List.mem_of_mem_take hc)⟩ (D := vD A) (by rw [hF12 2 (by simp <;> omega)]; exact hC.1.1) k (16 * ((k + 15) / 16)) (by omega) (by omega) ⟨hS, ?_⟩ rfl rfl
          have hF3 : FC [2] I2 (fx_row I2 2 (nF (plw ((aL (vf A r)).take ((k + 15) / 16)) (fun _ => some 0) (16 * ((k + 15) / 16) - k) k (vD A)))) := FC.row [2] I2 2 _ (by simp <;> omega)
          have hD3 : fx_row I2 2 (nF (plw ((aL (vf A r)).take ((k + 15) / 16)) (fun _ => some 0) (16 * ((k + 15) / 16) - k) k (vD A))) 2 = nF (cutD (vD A) (vf A r) k) := by
            rw [row_at]
            unfold cutD
            by_cases k0 : k = 0
            · subst k0
              rw [if_pos (Or.inr rfl)]
              rfl
            · rw [if_neg (by omega)]
          generalize fx_row I2 2 (nF (plw ((aL (vf A r)).take ((k + 15) / 16)) (fun _ => some 0) (16 * ((k + 15) / 16) - k) k (vD A))) = I3 at hF3 hD3 ⊢
          have hF13 : FC [2, 4 + 6 * r, 4 + 6 * r + 4, 76] I I3 := (hF12.mono (fun a ha => by simp at ha ⊢ <;> omega)).tr (hF3.mono (fun a ha => by simp at ha ⊢ <;> omega))
          have e33 : I3 (4 + 6 * r) = I1 (4 + 6 * r) := (hF3 _ (by simp <;> omega)).trans e2
          have hL3 := hL2.fc hF3 (by simp <;> omega) (by simp <;> omega)
          have hT3 := hT2.fc hF3 (by simp <;> omega)
          refine ne_pair (pk_eq k 0 (fun q4 => ?_) (fun q4 => ?_) rfl rfl (by omega) (by omega))
          · have hF4 : FC [4 + 6 * r] I3 (fx_w I3 (4 + 6 * r) 3 2) := FC.w [4 + 6 * r] I3 _ _ _ (by simp <;> omega)
            have hF14 : FC [2, 4 + 6 * r, 4 + 6 * r + 4, 76] I (fx_w I3 (4 + 6 * r) 3 2) := hF13.tr (hF4.mono (fun a ha => by simp at ha ⊢ <;> omega))
            simp only [wI_setI, forall_eq]
            refine fin _ hF14 (by rw [hF4 2 (by simp <;> omega)]; exact hD3) (hT3.fc hF4 (by simp <;> omega)) ?_
            rw [cutS_2 (Or.inr q4)]
            refine ⟨?_, ?_, ?_, ?_, ?_, p6.fc hF14 (by simp <;> omega) (by simp <;> omega), ?_, ?_⟩
            · rw [fw_nj (by omega), e33, e1j 0 (by omega), p1, hs1]; rfl
            · rw [fw_nj (by omega), e33, e1j 1 (by omega), p2]; rfl
            · rw [fw_nj (by omega), e33, e1j 2 (by omega), p3]; rfl
            · rw [fw_at]; rfl
            · rw [fw_nj (by omega), e33, e14, q4]
              show nI 0 = nI (if aK (vf A r) = 2 then (aH (vf A r)).take 0 else []).length
              rw [if_neg (by omega)]
              rfl
            · show rowL _ _ (if aK (vf A r) = 2 then (aH (vf A r)).take k else [])
              rw [if_neg (by omega)]
              exact fun j hj => absurd hj (Nat.not_lt_zero _)
            · have := hL3.fc hF4 (by simp <;> omega) (by simp <;> omega)
              rw [q4] at this
              exact this
          · refine fin _ hF13 hD3 hT3 ?_
            rw [cutS_3 (by omega)]
            refine ⟨?_, ?_, ?_, ?_, ?_, p6.fc hF13 (by simp <;> omega) (by simp <;> omega), fun j hj => absurd hj (Nat.not_lt_zero _), hL3⟩
            · rw [e33, e1j 0 (by omega), p1, hs1]; rfl
            · rw [e33, e1j 1 (by omega), p2]; rfl
            · rw [e33, e1j 2 (by omega), p3]; rfl
            · rw [e33, e1j 3 (by omega), p4, q3]; rfl
            · rw [e33, e14]; rfl
        · have hk2 : aK (vf A r) = 2 := by omega
          have hL0 : aL (vf A r) = [] := hw.2.2.2.2.2.2.2.2.1 q3
          have ez : sz (vf A r) = (aH (vf A r)).length := by unfold sz; rw [if_neg q3]
          refine fin I1 (hF1.mono (fun a ha => by simp at ha ⊢ <;> omega)) ?_ ?_ ?_
          · rw [hF1 2 (by simp <;> omega), hC.1.1]
            unfold cutD
            rw [if_pos (Or.inl hk2)]
          · rw [hL0]
            intro c hc
            rw [hF1 76 (by simp <;> omega), hT c hc]
            unfold clrT
            simp
          · rw [cutS_2 (Or.inl hk2), if_pos hk2]
            refine ⟨?_, ?_, ?_, ?_, ?_, p6.fc hF1 (by simp <;> omega) (by simp <;> omega), fun j hj => ?_, ?_⟩
            · rw [e1j 0 (by omega), p1, hs1]; rfl
            · rw [e1j 1 (by omega), p2]; rfl
            · rw [e1j 2 (by omega), p3]; rfl
            · rw [e1j 3 (by omega), p4, hk2]; rfl
            · rw [e14]
              show nI k = nI ((aH (vf A r)).take k).length
              rw [List.length_take]
              congr 1
              omega
            · change j < ((aH (vf A r)).take k).length at hj
              rw [List.length_take] at hj
              rw [hF1 _ (by simp <;> omega), p7 j (by omega)]
              show nI (gd (aH (vf A r)) j) = nI (gd ((aH (vf A r)).take k) j)
              rw [gd_take _ _ _ (by omega)]
            · have := p8.fc hF1 (by simp <;> omega) (by simp <;> omega)
              rw [hL0] at this
              exact this
    refine cV_isFile hS hK hH v1 ⟨hS, ?_⟩
    rw [← uk_on ho]
    refine b0 (fun q => ?_) (fun q => ?_)
    · exact hb false ⟨fun z => (by cases z), fun z => by rw [q] at z; cases z.1⟩
    · obtain ⟨r, hr, er, hur, _, ec, hs1⟩ := uk_j q
      refine ⟨fun q2 => ?_, fun q2 => ?_⟩
      · exact hb false ⟨fun z => (by cases z), fun z => absurd q2 z.2.1⟩
      · simp only [wI_I]
        rw [ec, (hH r hr).2.2.2.2.1]
        refine ⟨pk_in r 12 hr er, fun q3 => ?_, fun q3 => ?_⟩
        · exact hb false ⟨fun z => (by cases z), fun z => absurd (by rw [ec] at z; exact z.2.2) (i_nle.mpr q3)⟩
        · exact hb true ⟨fun _ => ⟨q, q2, by rw [ec]; exact i_nlt.mp q3⟩, fun _ => rfl⟩
end CU
