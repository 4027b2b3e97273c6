/-! Cut and write keep what always holds. -/
theorem OJ.sT {N : Nat} {A : VS} (h : OJ N A) (T : Nat → Bool) : OJ N (setT A T) := h
theorem cutS_L {s : AS} {k : Nat} (h : wf s) (h1 : aS s = 1) : aL (cutS s k) = (aL s).take ((k + 15) / 16) := by
  by_cases c : aK s = 2 ∨ k = 0
  · rw [cutS_2 c]
    rcases c with c | c
    · rw [h.2.2.2.2.2.2.2.2.1 (by omega)]
      simp only [List.take_nil]
      rfl
    · rw [c]
      rfl
  · rw [cutS_3 c]
    rfl
theorem cutS_f {s : AS} {k : Nat} : aS (cutS s k) = 1 ∧ aP (cutS s k) = aP s ∧ aM (cutS s k) = aM s := by
  by_cases c : aK s = 2 ∨ k = 0
  · rw [cutS_2 c]
    exact ⟨rfl, rfl, rfl⟩
  · rw [cutS_3 c]
    exact ⟨rfl, rfl, rfl⟩
theorem fil_inv {N : Nat} {A B : VS} {r : Nat} (hI : OI A) (hJB : OJ N B) (hr : r < 12) (hur : vU A r = true) (hs1 : aS (vf A r) = 1) (hf : ∀ x, x ≠ r → vf B x = vf A x ∧ vU B x = vU A x) (hu : vU B r = true) (g1 : aS (vf B r) = 1) (g2 : aP (vf B r) = aP (vf A r)) (ht : TKt (vU B) (vf B) (vT B)) : OI B := by
  have hr0 : r ≠ 0 := fun z => by
    have := hI.2.2.1.2.1
    rw [← z, hs1] at this
    omega
  have hU : ∀ x, vU B x = vU A x := fun x => by
    by_cases e : x = r
    · rw [e, hu, hur]
    · exact (hf x e).2
  have hP : ∀ x, aP (vf B x) = aP (vf A x) := fun x => by
    by_cases e : x = r
    · rw [e]; exact g2
    · rw [(hf x e).1]
  have hSS : ∀ x, aS (vf B x) = aS (vf A x) := fun x => by
    by_cases e : x = r
    · rw [e, g1, hs1]
    · rw [(hf x e).1]
  refine OI.mk hJB ?_ ?_ ?_ ht
  · rw [hU 0]
    exact hI.2.2.1.1
  · refine ⟨fun x hx hux => ?_, fun x hx hux => ?_⟩
    · rw [hU x] at hux
      rw [hP x, hU, hSS]
      exact hI.pt.1 x hx hux
    · rw [hU x] at hux
      exact ldN_cg (fun y _ huy => ⟨by rw [hU y]; exact huy, hP y⟩) 12 x (hI.pt.2 x hx hux)
  · intro e he hue hse
    rw [hU e] at hue
    rw [hSS e] at hse
    have her : e ≠ r := fun z => by rw [z, hs1] at hse; omega
    have hls := hI.ls e he hue hse
    rw [(hf e her).1]
    refine ⟨hls.1, fun x => ?_⟩
    rw [hls.2 x, hU x, hP x]
theorem woR_hole {T : Nat → Bool} {s : AS} {a n : Nat} {l : List (Option Nat)} (h : cpl (fun j => (go (aL s) j).isNone && nds s a n j) (go (aL s)) T ((gr s a n + 15) / 16) 0 48 = some l) (hd : dlo (aL s)) (hi : inj (aL s)) (hT : ∀ c, some c ∈ aL s → T c = true) (hz : gr s a n ≤ 1000) (i : Nat) (hiN : i < (gr s a n + 15) / 16) (h0 : go (aL s) i = none) (hf : ((go (aL s) i).isNone && nds s a n i) = false) : go l i = none := by
  generalize hN : (gr s a n + 15) / 16 = N at h hiN
  have hca := cpl_al (fun j => (go (aL s) j).isNone && nds s a n j) (go (aL s)) T N 0 48 T (go (aL s)) (by omega) (by omega) (fun c c1 c2 => by omega) (fun c _ => rfl) (fun j _ => rfl)
  have hen : frcF (fun j => !((go (aL s) j).isNone && nds s a n j)) N 0 ≤ frcF T 80 48 := Nat.not_lt.mp (fun q => by rw [hca.1 q] at h; cases h)
  obtain ⟨l', e1, e2, e3⟩ := hca.2 hen
  rw [h] at e1
  cases e1
  have hin := alT_in (fun j => (go (aL s) j).isNone && nds s a n j) N 0 T (go (aL s)) hen
  rw [e3 i hiN, Nat.zero_add, hin.2.2.2 i (Or.inr (Or.inr hf))]
  exact h0
theorem sCut_inv {N : Nat} {A : VS} (h : INV N A) (v w : Int32) (hN : N + 24 < 65535) : INV (N + 24) (sCut A v w).2.2 := by
  unfold sCut
  by_cases ho : vo A = false
  · rw [if_pos ho]
    exact h.mono (by omega)
  · have ho' : vo A = true := by simpa using ho
    rw [if_neg ho]
    obtain ⟨hI, hJ⟩ := h.2 ho'
    by_cases hc : uk A v 1 = true ∧ ¬ w < 0 ∧ w ≤ nI (sz (vf A v.toNatClampNeg))
    · rw [if_pos hc]
      obtain ⟨r, hr, er, hur, _, ec, hs1⟩ := uk_j hc.1
      rw [ec] at hc ⊢
      simp only
      have hw := (hJ.rc r hr hur).2
      have hszl := hw.szl
      obtain ⟨k, hk, ek⟩ := nI_of2 (M := nI (sz (vf A r))) (n := sz (vf A r)) (nI_toInt (by omega)) hc.2.1 hc.2.2
      have ekc : w.toNatClampNeg = k := by rw [ek, nI_clamp (by omega)]
      rw [ekc]
      have hr0 : r ≠ 0 := fun z => by
        have := hI.2.2.1.2.1
        rw [← z, hs1] at this
        omega
      have hB := hJ.1.1
      have hg := hJ.good hr hur
      have hJd : OJ N (setD A (cutD (vD A) (vf A r) k)) := hJ.sd (fun q hq => cutD_lo hw q hq) (cutD_lt hB.1)
      have hcf := cutS_f (s := vf A r) (k := k)
      have hcL := cutS_L (k := k) hw hs1
      have hs0 : aS (cutS (vf A r) k) ≠ 0 := by rw [hcf.1]; decide
      have hdd : DDs (up (vU A) r (decide (aS (cutS (vf A r) k) ≠ 0))) (up (vf A) r (cutS (vf A r) k)) := by
        have key : ∀ x i c, up (vU A) r (decide (aS (cutS (vf A r) k) ≠ 0)) x = true → go (aL (up (vf A) r (cutS (vf A r) k) x)) i = some c → vU A x = true ∧ go (aL (vf A x)) i = some c := by
          intro x i c hu hg2
          by_cases e : x = r
          · rw [e, up_at, hcL] at hg2
            rw [e]
            refine ⟨hur, ?_⟩
            by_cases hi : i < (k + 15) / 16
            · rw [go_take _ _ _ hi] at hg2
              exact hg2
            · rw [go_out (by rw [List.length_take]; omega)] at hg2
              cases hg2
          · rw [up_ne _ _ e] at hu hg2
            exact ⟨hu, hg2⟩
        intro x x' i j c hx hx' hu hu' e e'
        obtain ⟨a1, a2⟩ := key x i c hu e
        obtain ⟨b1, b2⟩ := key x' j c hu' e'
        exact hJ.dd x x' i j c hx hx' a1 b1 a2 b2
      have h1 := hJd.st r hr (cutS (vf A r) k) (by omega) (fun _ => ⟨cutS_wf hw hs1 hk (nN_lt hJd.1.1.1 r), by rw [hcf.2.2]; exact hg.1, fun z => absurd z hr0, fun z => by rw [hcf.2.2]; exact hg.2.2 z⟩) (fun z => absurd z hs0) hdd
      by_cases hok : stOk (vt A) = false
      · rw [if_pos hok]
        obtain ⟨f, hf⟩ := h1.2 hok
        exact INV.off ⟨f, hf.mono (by omega)⟩ (by rw [stA_o (A := setD A (cutD (vD A) (vf A r) k)) ho']; exact hok)
      · have hok' : stOk (vt A) = true := by simpa using hok
        rw [if_neg hok]
        have hJ1 := (h1.1 hok').sT (clrT (vT A) ((aL (vf A r)).drop ((k + 15) / 16)))
        refine INV.on (hJ1.mono (by omega)) (fil_inv hI hJ1 hr hur hs1 (fun x hx => stA_f (A := setD A (cutD (vD A) (vf A r) k)) hx) ?_ ?_ ?_ ?_)
        · show vU (stA (setD A (cutD (vD A) (vf A r) k)) r (cutS (vf A r) k)) r = true
          rw [stA_r.2]
          exact decide_eq_true hs0
        · show aS (vf (stA (setD A (cutD (vD A) (vf A r) k)) r (cutS (vf A r) k)) r) = 1
          rw [stA_r.1]
          exact hcf.1
        · show aP (vf (stA (setD A (cutD (vD A) (vf A r) k)) r (cutS (vf A r) k)) r) = aP (vf A r)
          rw [stA_r.1]
          exact hcf.2.1
        · have eL : aL (vf (stA (setD A (cutD (vD A) (vf A r) k)) r (cutS (vf A r) k)) r) = (aL (vf A r)).take ((k + 15) / 16) := by
            rw [stA_r.1]
            exact hcL
          have ef : ∀ x, x ≠ r → vf (stA (setD A (cutD (vD A) (vf A r) k)) r (cutS (vf A r) k)) x = vf A x ∧ vU (stA (setD A (cutD (vD A) (vf A r) k)) r (cutS (vf A r) k)) x = vU A x := fun x hx => stA_f (A := setD A (cutD (vD A) (vf A r) k)) hx
          have eu : vU (stA (setD A (cutD (vD A) (vf A r) k)) r (cutS (vf A r) k)) r = true := by
            rw [stA_r.2]
            exact decide_eq_true hs0
          show TKt (vU (stA (setD A (cutD (vD A) (vf A r) k)) r (cutS (vf A r) k))) (vf (stA (setD A (cutD (vD A) (vf A r) k)) r (cutS (vf A r) k))) (clrT (vT A) ((aL (vf A r)).drop ((k + 15) / 16)))
          generalize stA (setD A (cutD (vD A) (vf A r) k)) r (cutS (vf A r) k) = B at eL ef eu
          intro c hc2
          unfold clrT
          rw [Bool.and_eq_true, Bool.not_eq_true', decide_eq_false_iff_not, hI.tk c hc2]
          refine ⟨fun z => ?_, fun z => ?_⟩
          · obtain ⟨⟨x, x1, x2, x3⟩, z2⟩ := z
            by_cases e : x = r
            · refine ⟨r, hr, eu, ?_⟩
              rw [eL]
              rw [e, ← List.take_append_drop ((k + 15) / 16) (aL (vf A r)), List.mem_append] at x3
              rcases x3 with x3 | x3
              · exact x3
              · exact absurd x3 z2
            · exact ⟨x, x1, by rw [(ef x e).2]; exact x2, by rw [(ef x e).1]; exact x3⟩
          · obtain ⟨x, x1, x2, x3⟩ := z
            by_cases e : x = r
            · rw [e, eL] at x3
              refine ⟨⟨r, hr, hur, List.mem_of_mem_take x3⟩, fun z => ?_⟩
              obtain ⟨i, i1, hi⟩ := mem_go x3
              obtain ⟨j, _, hj⟩ := mem_go z
              rw [List.length_take] at i1
              rw [go_take _ _ _ (by omega)] at hi
              rw [go_drop] at hj
              have := (hJ.dd r r i ((k + 15) / 16 + j) c hr hr hur hur hi hj).2
              omega
            · rw [(ef x e).2] at x2
              rw [(ef x e).1] at x3
              refine ⟨⟨x, x1, x2, x3⟩, fun z => ?_⟩
              obtain ⟨i, _, hi⟩ := mem_go x3
              obtain ⟨j, _, hj⟩ := mem_go z
              rw [go_drop] at hj
              exact e (hJ.dd x r i ((k + 15) / 16 + j) c x1 hr x2 hur hi hj).1
    · rw [if_neg hc]
      exact h.mono (by omega)
theorem sWri_inv {N : Nat} {A : VS} (h : INV N A) (v a' n' b : Int32) (hN : N + 24 < 65535) : INV (N + 24) (sWri A v a' n' b).2.2 := by
  unfold sWri
  by_cases ho : vo A = false
  · rw [if_pos ho]
    exact h.mono (by omega)
  · have ho' : vo A = true := by simpa using ho
    rw [if_neg ho]
    obtain ⟨hI, hJ⟩ := h.2 ho'
    by_cases hc : wok A v a' n' = true
    · rw [if_pos hc]
      unfold wok at hc
      simp only [Bool.and_eq_true, Bool.not_eq_true', decide_eq_false_iff_not, decide_eq_true_eq] at hc
      obtain ⟨hc1, hc2, hc3, hc4, hc5, hc6⟩ := hc
      obtain ⟨r, hr, er, hur, _, ec, hs1⟩ := uk_j hc1
      have hw := (hJ.rc r hr hur).2
      have hszl := hw.szl
      obtain ⟨a, ha, ea⟩ := nI_of2 (M := nI 1000) (n := 1000) rfl hc2 (i_nlt.mp hc3)
      have hn0 : ¬ n' < 0 := fun z => hc4 (Int32.lt_trans z (by decide))
      obtain ⟨n, hn, en⟩ := nI_of2 (M := nI 60) (n := 60) rfl hn0 (i_nlt.mp hc5)
      have hn1 : 1 ≤ n := by
        rw [en, nI_ltI (by omega) (by omega)] at hc4
        omega
      have han : a + n ≤ 1000 := by
        rw [ea, en, nI_add, nI_leI (by omega) (by omega)] at hc6
        exact hc6
      have eac : a'.toNatClampNeg = a := by rw [ea, nI_clamp (by omega)]
      have enc : n'.toNatClampNeg = n := by rw [en, nI_clamp (by omega)]
      rw [ec, eac, enc]
      simp only
      have hr0 : r ≠ 0 := fun z => by
        have := hI.2.2.1.2.1
        rw [← z, hs1] at this
        omega
      have hB := hJ.1.1
      have hg := hJ.good hr hur
      have hM := hg.2.2 hr0
      have hga : a + n ≤ gr (vf A r) a n ∧ sz (vf A r) ≤ gr (vf A r) a n := by unfold gr; split <;> omega
      have hgm : gr (vf A r) a n ≤ 1000 := by unfold gr; split <;> omega
      by_cases hin : aK (vf A r) = 2 ∧ gr (vf A r) a n ≤ 50 - (aM (vf A r)).length
      · rw [if_pos hin]
        have hL0 : aL (vf A r) = [] := hw.2.2.2.2.2.2.2.2.1 (by omega)
        have h1 := hJ.st r hr (wiS (vf A r) a n b) (by omega) (fun _ => ⟨wiS_wf hw hin.1 hM hin.2 (nN_lt hB.1 r), hg.1, fun z => absurd z hr0, fun _ => hM⟩) (fun z => absurd z ne10) (hJ.dd.ls (fun x hx' hu' => by
          by_cases e : x = r
          · rw [e, up_at]
            exact Or.inl rfl
          · rw [up_ne _ _ e] at hu' ⊢
            exact Or.inr ⟨hu', rfl⟩))
        by_cases hok : stOk (vt A) = false
        · rw [if_pos hok]
          obtain ⟨f, hf⟩ := h1.2 hok
          exact INV.off ⟨f, hf.mono (by omega)⟩ (by rw [stA_o ho']; exact hok)
        · have hok' : stOk (vt A) = true := by simpa using hok
          rw [if_neg hok]
          have hJ1 := h1.1 hok'
          have ef : ∀ x, x ≠ r → vf (stA A r (wiS (vf A r) a n b)) x = vf A x ∧ vU (stA A r (wiS (vf A r) a n b)) x = vU A x := fun x hx => stA_f hx
          have eu : vU (stA A r (wiS (vf A r) a n b)) r = true := stA_r.2
          have eL : aL (vf (stA A r (wiS (vf A r) a n b)) r) = [] := by rw [stA_r.1]; rfl
          refine INV.on (hJ1.mono (by omega)) (fil_inv hI hJ1 hr hur hs1 ef eu (by rw [stA_r.1]; rfl) (by rw [stA_r.1]; rfl) ?_)
          show TKt (vU (stA A r (wiS (vf A r) a n b))) (vf (stA A r (wiS (vf A r) a n b))) (vT A)
          intro c hc2
          rw [hI.tk c hc2]
          refine ⟨fun z => ?_, fun z => ?_⟩
          · obtain ⟨x, x1, x2, x3⟩ := z
            have e : x ≠ r := fun z => by rw [z, hL0] at x3; cases x3
            exact ⟨x, x1, by rw [(ef x e).2]; exact x2, by rw [(ef x e).1]; exact x3⟩
          · obtain ⟨x, x1, x2, x3⟩ := z
            have e : x ≠ r := fun z => by rw [z, eL] at x3; cases x3
            rw [(ef x e).2] at x2
            rw [(ef x e).1] at x3
            exact ⟨x, x1, x2, x3⟩
      · rw [if_neg hin]
        have hTT : ∀ c, some c ∈ aL (vf A r) → vT A c = true := fun c hc => (hI.tk c (hw.dl.2 c hc).2).mpr ⟨r, hr, hur, hc⟩
        have hij : inj (aL (vf A r)) := fun i j c ei ej => (hJ.dd r r i j c hr hr hur hur ei ej).2
        cases hcp : cpl (fun j => (go (aL (vf A r)) j).isNone && nds (vf A r) a n j) (go (aL (vf A r))) (vT A) ((gr (vf A r) a n + 15) / 16) 0 48 with
        | none =>
          rw [woR_none hcp]
          exact h.mono (by omega)
        | some l =>
          obtain ⟨T', ew, el, hd, hj, hfr, hT', hkp⟩ := woR_some (D := vD A) (b := b) hcp hw.dl hij hTT hgm
          rw [ew]
          by_cases q2 : (nmA (aM (vf A r))).length + (5 + (rn 48 l).length) ≤ 54
          · rw [if_pos q2]
            simp only
            generalize hDq : plw l (wval (vf A r) a n b (fun j => (go (aL (vf A r)) j).isNone && nds (vf A r) a n j)) (16 * ((gr (vf A r) a n + 15) / 16)) 0 (vD A) = D'
            have hDlt : ∀ q, D' q < 256 := by
              intro q
              rw [← hDq]
              refine plw_lt (fun k v e => ?_) _ _ _ hB.1 q
              unfold wval wv at e
              split at e
              · cases e; omega
              · split at e
                · cases e; exact hw.hg _
                · split at e
                  · cases e; omega
                  · cases e
            have hDlo : ∀ q, q < 768 → D' q = vD A q := fun q hq => by
              rw [← hDq]
              exact plw_lo hd.2 _ q hq _ _ _
            have hJd : OJ N (setT (setD A D') T') := hJ.sd hDlo hDlt
            have hnew : ∀ i c, go l i = some c → ∀ x, x < 12 → x ≠ r → vU A x = true → some c ∉ aL (vf A x) := by
              intro i c hi x hx hxr hux hm
              obtain ⟨j, _, hjj⟩ := mem_go hm
              have hi2 : i < l.length := Nat.not_le.mp (fun z => by rw [go_out z] at hi; cases hi)
              cases hfi : ((go (aL (vf A r)) i).isNone && nds (vf A r) a n i) with
              | true =>
                have t1 := (hfr i c hi).1 hfi
                have hc128 := (hd.g i c hi).2
                have t2 := (hI.tk c hc128).mpr ⟨x, hx, hux, hm⟩
                rw [t1] at t2
                cases t2
              | false =>
                have t1 := (hfr i c hi).2 hfi
                cases hold : go (aL (vf A r)) i with
                | some e =>
                  have := hkp i e (by omega) hold
                  rw [hi] at this
                  cases this
                  exact hxr (hJ.dd x r j i c hx hr hux hur hjj hold).1
                | none =>
                  have hlen := hkp
                  exfalso
                  have hfalse : go l i = none := by
                    have := woR_hole hcp hw.dl hij hTT hgm i (by omega) hold hfi
                    exact this
                  rw [hi] at hfalse
                  cases hfalse
            have hdd : DDs (up (vU A) r (decide (aS (woS (vf A r) (gr (vf A r) a n) l) ≠ 0))) (up (vf A) r (woS (vf A r) (gr (vf A r) a n) l)) := by
              intro x x' i j c hx hx' hu hu' e e'
              by_cases ex : x = r
              · by_cases ex' : x' = r
                · rw [ex, up_at] at e
                  rw [ex', up_at] at e'
                  exact ⟨by rw [ex, ex'], hj i j c e e'⟩
                · rw [ex, up_at] at e
                  rw [up_ne _ _ ex'] at hu' e'
                  have hm : some c ∈ aL (vf A x') := e' ▸ go_mem (Nat.not_le.mp (fun z => by rw [go_out z] at e'; cases e'))
                  exact absurd hm (hnew i c e x' hx' ex' hu')
              · by_cases ex' : x' = r
                · rw [ex', up_at] at e'
                  rw [up_ne _ _ ex] at hu e
                  have hm : some c ∈ aL (vf A x) := e ▸ go_mem (Nat.not_le.mp (fun z => by rw [go_out z] at e; cases e))
                  exact absurd hm (hnew j c e' x hx ex hu)
                · rw [up_ne _ _ ex] at hu e
                  rw [up_ne _ _ ex'] at hu' e'
                  exact hJ.dd x x' i j c hx hx' hu hu' e e'
            have h1 := hJd.st r hr (woS (vf A r) (gr (vf A r) a n) l) (by omega) (fun _ => ⟨woS_wf hw (by omega) hgm el hd q2 (nN_lt hJd.1.1.1 r), hg.1, fun z => absurd z hr0, fun _ => hM⟩) (fun z => absurd z ne10) hdd
            by_cases hok : stOk (vt A) = false
            · rw [if_pos hok]
              obtain ⟨f, hf⟩ := h1.2 hok
              exact INV.off ⟨f, hf.mono (by omega)⟩ (by rw [stA_o (A := setT (setD A D') T') ho']; exact hok)
            · have hok' : stOk (vt A) = true := by simpa using hok
              rw [if_neg hok]
              have hJ1 := h1.1 hok'
              have ef : ∀ x, x ≠ r → vf (stA (setT (setD A D') T') r (woS (vf A r) (gr (vf A r) a n) l)) x = vf A x ∧ vU (stA (setT (setD A D') T') r (woS (vf A r) (gr (vf A r) a n) l)) x = vU A x := fun x hx => stA_f (A := setT (setD A D') T') hx
              have eu : vU (stA (setT (setD A D') T') r (woS (vf A r) (gr (vf A r) a n) l)) r = true := stA_r.2
              have eL : aL (vf (stA (setT (setD A D') T') r (woS (vf A r) (gr (vf A r) a n) l)) r) = l := by rw [stA_r.1]; rfl
              refine INV.on (hJ1.mono (by omega)) (fil_inv hI hJ1 hr hur hs1 ef eu (by rw [stA_r.1]; rfl) (by rw [stA_r.1]; rfl) ?_)
              show TKt (vU (stA (setT (setD A D') T') r (woS (vf A r) (gr (vf A r) a n) l))) (vf (stA (setT (setD A D') T') r (woS (vf A r) (gr (vf A r) a n) l))) T'
              intro c hc2
              rw [hT' c, hI.tk c hc2]
              refine ⟨fun z => ?_, fun z => ?_⟩
              · rcases z with ⟨x, x1, x2, x3⟩ | z
                · by_cases e : x = r
                  · refine ⟨r, hr, eu, ?_⟩
                    rw [eL]
                    rw [e] at x3
                    obtain ⟨i, i1, hi⟩ := mem_go x3
                    have hil : i < (gr (vf A r) a n + 15) / 16 := by
                      by_cases k3 : aK (vf A r) = 3
                      · have hll := hw.ll k3
                        have ez : sz (vf A r) = aZ (vf A r) := by unfold sz; rw [if_pos k3]
                        omega
                      · rw [hw.2.2.2.2.2.2.2.2.1 k3] at i1
                        exact absurd i1 (Nat.not_lt_zero _)
                    have hgi := hkp i c hil hi
                    exact hgi ▸ go_mem (by omega)
                  · exact ⟨x, x1, by rw [(ef x e).2]; exact x2, by rw [(ef x e).1]; exact x3⟩
                · exact ⟨r, hr, eu, by rw [eL]; exact z⟩
              · obtain ⟨x, x1, x2, x3⟩ := z
                by_cases e : x = r
                · rw [e, eL] at x3
                  exact Or.inr x3
                · rw [(ef x e).2] at x2
                  rw [(ef x e).1] at x3
                  exact Or.inl ⟨x, x1, x2, x3⟩
          · rw [if_neg q2]
            exact h.mono (by omega)
    · rw [if_neg hc]
      exact h.mono (by omega)
