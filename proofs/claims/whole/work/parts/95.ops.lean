/-! What always holds, kept by each call. -/
theorem INV.mono {N M : Nat} {A : VS} (h : INV N A) (hm : N ≤ M) : INV M A := by
  obtain ⟨⟨f, h1⟩, h2⟩ := h
  exact ⟨⟨f, h1.mono hm⟩, fun ho => ⟨(h2 ho).1, (h2 ho).2.mono hm⟩⟩
theorem INV.on {N : Nat} {A : VS} (hJ : OJ N A) (hI : OI A) : INV N A := ⟨⟨vf A, hJ.1⟩, fun _ => ⟨hI, hJ⟩⟩
theorem INV.off {N : Nat} {A : VS} (h : ∃ f, AI N A f) (ho : vo A = false) : INV N A := ⟨h, fun z => by rw [ho] at z; cases z⟩
theorem INV.bi {N : Nat} {A : VS} (h : INV N A) : BI A := by
  obtain ⟨⟨f, h1⟩, _⟩ := h
  exact h1.1
theorem AI.clr {N : Nat} {A : VS} {f : Nat → AS} (h : AI N A f) : AI N (clr A) f := ⟨⟨h.1.1, h.1.2.1, by show 0 ≤ 8; omega, fun x hx => by cases hx⟩, fun x hx => (by cases hx), h.2.2⟩
theorem INV.clr {N : Nat} {A : VS} (h : INV N A) : INV N (clr A) := by
  obtain ⟨⟨f, h1⟩, h2⟩ := h
  exact ⟨⟨f, h1.clr⟩, fun ho => ⟨(h2 ho).1, (h2 ho).2.1.clr, (h2 ho).2.2⟩⟩
theorem sFail_inv {N : Nat} {A : VS} (h : INV N A) (v : Int32) : INV N (sFail A v).2 := by
  unfold sFail
  split
  · rename_i q
    obtain ⟨⟨f, h1⟩, h2⟩ := h
    obtain ⟨j, hj, e⟩ := nI_of2 (M := nI 20) (n := 20) rfl q.1 q.2
    have hv : v.toNatClampNeg ≤ 20 := by rw [e, nI_clamp (by omega)]; exact hj
    exact ⟨⟨f, ⟨h1.1.1, hv, h1.1.2.2⟩, h1.2⟩, fun ho => ⟨(h2 ho).1, ⟨⟨h1.1.1, hv, h1.1.2.2⟩, (h2 ho).2.1.2⟩, (h2 ho).2.2⟩⟩
  · exact h
theorem sType_inv {N : Nat} {A : VS} (h : INV N A) (c : Nat) : INV N (sType A c).2 := by
  unfold sType
  split
  · rename_i q
    obtain ⟨⟨f, h1⟩, h2⟩ := h
    have hlt : ltr (vl A ++ [c]) := by
      intro x hx
      rcases List.mem_append.mp hx with hx | hx
      · exact h1.2.1 x hx
      · rw [List.mem_singleton.mp hx]; exact q.1
    have hb : BI (mkV A (vD A) (vt A) (vl A ++ [c]) (vo A)) := by
      refine ⟨h1.1.1, h1.1.2.1, ?_, fun x hx => ?_⟩
      · show (vl A ++ [c]).length ≤ 8
        simp only [List.length_append, List.length_cons, List.length_nil]
        omega
      · have hl := hlt x hx
        unfold isLt at hl
        simp only [Bool.or_eq_true, Bool.and_eq_true, decide_eq_true_eq] at hl
        omega
    exact ⟨⟨f, hb, hlt, h1.2.2⟩, fun ho => ⟨(h2 ho).1, ⟨hb, hlt, (h2 ho).2.1.2.2⟩, (h2 ho).2.2⟩⟩
  · exact h
theorem OJ.lst {N : Nat} {A : VS} (h : OJ N A) (d : Nat) (hd : d < 12) (hu : vU A d = true) (hs : aS (vf A d) = 2) (ml : List Nat) (hm : ml.length ≤ 12) (hx : ∀ x ∈ ml, x < 12) (hN : N < 65535) : (stOk (vt A) = true → OJ (N + 1) (lst A d ml)) ∧ (stOk (vt A) = false → ∃ f, AI (N + 1) (lst A d ml) f) := by
  have hg := h.good hd hu
  have hw := (h.rc d hd hu).2
  refine h.st d hd (sLi (vf A d) ml) hN (fun _ => ⟨sLi_wf hw (nN_lt h.1.1.1 d) hm hx, hg.1, fun z => ⟨rfl, (hg.2.1 z).2.1, (hg.2.1 z).2.2⟩, hg.2.2⟩) (fun z => absurd z ne20) (h.dd.ls (fun x hx' hu' => ?_))
  by_cases e : x = d
  · rw [e, up_at]
    exact Or.inl rfl
  · rw [up_ne _ _ e] at hu' ⊢
    exact Or.inr ⟨hu', rfl⟩
theorem lst_o {A : VS} {d : Nat} {ml : List Nat} (ho : vo A = true) : vo (lst A d ml) = stOk (vt A) := stA_o ho
theorem sMk_inv {N : Nat} {A : VS} (h : INV N A) (v : Int32) (isF : Bool) (hN : N + 24 < 65535) : INV (N + 24) (sMk A v isF).2.2 := by
  unfold sMk
  by_cases ho : vo A = false
  · rw [if_pos ho]
    exact h.mono (by omega)
  · have ho' : vo A = true := by simpa using ho
    rw [if_neg ho]
    obtain ⟨hI, hJ⟩ := h.2 ho'
    by_cases hc : uk A v 2 = true ∧ (vl A).length ≠ 0 ∧ fdN (vf A) (vl A) (aH (vf A v.toNatClampNeg)) = mI
    · rw [if_pos hc]
      obtain ⟨d, hd, ed, hud, _, ec, hs2⟩ := uk_j hc.1
      rw [ec]
      cases hlf : lowF (vU A) 12 0 with
      | none => exact h.mono (by omega)
      | some r =>
        simp only
        obtain ⟨_, hr, hur⟩ := lowF_T _ _ _ _ hlf
        have hr' : r < 12 := by omega
        have hrd : d ≠ r := fun z => by rw [z, hur] at hud; cases hud
        have hr0 : r ≠ 0 := fun z => by rw [z, hI.2.2.1.1] at hur; cases hur
        have hB := hJ.1.1
        have hns0 : aS (newS isF d (vl A)) ≠ 0 := by
          cases isF
          · exact ne20
          · exact ne10
        have hl0 : vl A ≠ [] := fun z => hc.2.1 (by rw [z]; rfl)
        have h1 := hJ.st r hr' (newS isF d (vl A)) (by omega) (fun _ => ⟨newS_wf isF hd (nN_lt hB.1 r) hB.2.2.1 hB.2.2.2, hJ.1.2.1, fun z => absurd z hr0, fun _ => hl0⟩) (fun z => absurd z hns0) (hJ.dd.ls (fun x hx' hu' => by
          by_cases e : x = r
          · rw [e, up_at]
            exact Or.inl rfl
          · rw [up_ne _ _ e] at hu' ⊢
            exact Or.inr ⟨hu', rfl⟩))
        by_cases hok : stOk (vt A) = false
        · rw [if_pos hok]
          obtain ⟨f, hf⟩ := h1.2 hok
          exact INV.off ⟨f, hf.mono (by omega)⟩ (by rw [stA_o ho']; exact hok)
        · have hok' : stOk (vt A) = true := by simpa using hok
          rw [if_neg hok]
          have hJ1 := h1.1 hok'
          have ho1 : vo (stA A r (newS isF d (vl A))) = true := by rw [stA_o ho']; exact hok'
          have efd := stA_f (A := A) (s := newS isF d (vl A)) hrd
          have hud1 : vU (stA A r (newS isF d (vl A))) d = true := by rw [efd.2]; exact hud
          have hsd1 : aS (vf (stA A r (newS isF d (vl A))) d) = 2 := by rw [efd.1]; exact hs2
          have hins : insL (stA A r (newS isF d (vl A))) d r = insA (aH (vf A d)) (ipos (gtN (vf (stA A r (newS isF d (vl A)))) r) (aH (vf A d)) (aH (vf A d)).length) r := by unfold insL; rw [efd.1]
          have hwd := (hJ.rc d hd hud).2
          have hl11 := hI.l11 hd hud hs2
          have hil : (insL (stA A r (newS isF d (vl A))) d r).length ≤ 12 := by rw [hins, insA_len _ _ _ (ipos_le _ _ _)]; omega
          have hxd : ∀ x ∈ insL (stA A r (newS isF d (vl A))) d r, x < 12 := by
            intro x hx
            rw [hins] at hx
            rcases insA_iff.mp hx with hx | hx
            · rw [hx]; exact hr'
            · exact hwd.2.2.2.2.2.2.2.1 (hwd.k4 hs2) x hx
          have h2 := hJ1.lst d hd hud1 hsd1 _ hil hxd (by omega)
          by_cases hok2 : stOk (vt (stA A r (newS isF d (vl A)))) = false
          · rw [if_pos hok2]
            obtain ⟨f, hf⟩ := h2.2 hok2
            exact INV.off ⟨f, hf.mono (by omega)⟩ (by rw [lst_o ho1]; exact hok2)
          · have hok2' : stOk (vt (stA A r (newS isF d (vl A)))) = true := by simpa using hok2
            rw [if_neg hok2]
            have hJ2 := h2.1 hok2'
            refine INV.on (hJ2.mono (by omega)) (OI.mk hJ2 ?_ ?_ ?_ ?_)
            all_goals
              have fr : vf (lst (stA A r (newS isF d (vl A))) d (insL (stA A r (newS isF d (vl A))) d r)) r = setN (newS isF d (vl A)) (nN (vD A) r) := (stA_f (Ne.symm hrd)).1.trans stA_r.1
              have ur : vU (lst (stA A r (newS isF d (vl A))) d (insL (stA A r (newS isF d (vl A))) d r)) r = true := by
                rw [show vU (lst (stA A r (newS isF d (vl A))) d (insL (stA A r (newS isF d (vl A))) d r)) r = _ from (stA_f (Ne.symm hrd)).2.trans stA_r.2]
                exact decide_eq_true hns0
              have fd : ∃ n, vf (lst (stA A r (newS isF d (vl A))) d (insL (stA A r (newS isF d (vl A))) d r)) d = setN (sLi (vf A d) (insL (stA A r (newS isF d (vl A))) d r)) n := ⟨_, by rw [show vf (lst (stA A r (newS isF d (vl A))) d (insL (stA A r (newS isF d (vl A))) d r)) d = _ from stA_r.1, efd.1]⟩
              have ud : vU (lst (stA A r (newS isF d (vl A))) d (insL (stA A r (newS isF d (vl A))) d r)) d = true := stA_r.2
              have fx : ∀ x, x ≠ r → x ≠ d → vf (lst (stA A r (newS isF d (vl A))) d (insL (stA A r (newS isF d (vl A))) d r)) x = vf A x ∧ vU (lst (stA A r (newS isF d (vl A))) d (insL (stA A r (newS isF d (vl A))) d r)) x = vU A x := fun x h1 h2 => ⟨(stA_f h2).1.trans (stA_f h1).1, (stA_f h2).2.trans (stA_f h1).2⟩
              have eT : vT (lst (stA A r (newS isF d (vl A))) d (insL (stA A r (newS isF d (vl A))) d r)) = vT A := rfl
              generalize lst (stA A r (newS isF d (vl A))) d (insL (stA A r (newS isF d (vl A))) d r) = B at *
              obtain ⟨n2, fd⟩ := fd
              have hU : ∀ x, x ≠ r → vU B x = vU A x := fun x hx => by
                by_cases e : x = d
                · rw [e, ud, hud]
                · exact (fx x hx e).2
              have hP : ∀ x, x ≠ r → aP (vf B x) = aP (vf A x) := fun x hx => by
                by_cases e : x = d
                · rw [e, fd]; rfl
                · rw [(fx x hx e).1]
              have hSS : ∀ x, x ≠ r → x ≠ d → aS (vf B x) = aS (vf A x) := fun x h1 h2 => by rw [(fx x h1 h2).1]
              have hSd : aS (vf B d) = 2 := by rw [fd]; rfl
              have hPr : aP (vf B r) = d := by rw [fr]; rfl
            · rw [hU 0 (Ne.symm hr0)]
              exact hI.2.2.1.1
            · refine ⟨fun x hx hux => ?_, fun x hx hux => ?_⟩
              · by_cases e : x = r
                · rw [e, hPr]
                  exact ⟨ud, hSd⟩
                · rw [hU x e] at hux
                  rw [hP x e]
                  obtain ⟨g1, g2⟩ := hI.pt.1 x hx hux
                  have hpr : aP (vf A x) ≠ r := fun z => by rw [z, hur] at g1; cases g1
                  rw [hU _ hpr]
                  refine ⟨g1, ?_⟩
                  by_cases ed2 : aP (vf A x) = d
                  · rw [ed2]; exact hSd
                  · rw [hSS _ hpr ed2]; exact g2
              · have hcg : ∀ n k, ldN (vU A) (vf A) n k → ldN (vU B) (vf B) n k := ldN_cg (fun y hy huy => by
                  have hyr : y ≠ r := fun z => by rw [z, hur] at huy; cases huy
                  exact ⟨by rw [hU y hyr]; exact huy, hP y hyr⟩)
                by_cases e : x = r
                · refine ld12 (fun k hk huk => (hJ2.rc k hk huk).2.2.1) 13 x hx (Or.inr ⟨hx, hux, ?_⟩)
                  rw [e, hPr]
                  exact hcg 12 d (hI.pt.2 d hd hud)
                · rw [hU x e] at hux
                  exact hcg 12 x (hI.pt.2 x hx hux)
            · intro e he hue hse
              have hmem : ∀ x, x ≠ r → ((0 < x ∧ x < 12 ∧ vU B x = true ∧ aP (vf B x) = e) ↔ (0 < x ∧ x < 12 ∧ vU A x = true ∧ aP (vf A x) = e)) := fun x hx => by rw [hU x hx, hP x hx]
              by_cases er : e = r
              · rw [er, fr]
                refine ⟨List.nodup_nil, fun x => ⟨fun z => by (cases z), fun z => ?_⟩⟩
                by_cases exr : x = r
                · rw [exr, hPr] at z
                  exact absurd z.2.2.2 hrd
                · rw [← er] at z
                  obtain ⟨_, q2, q3, q4⟩ := (hmem x exr).mp z
                  have := (hI.pt.1 x q2 q3).1
                  rw [q4, er, hur] at this
                  cases this
              · by_cases edd : e = d
                · have hls := hI.ls d hd hud hs2
                  have hrn : r ∉ aH (vf A d) := fun z => by
                    have := ((hls.2 r).mp z).2.2.1
                    rw [hur] at this
                    cases this
                  have eH : aH (vf B e) = insA (aH (vf A d)) (ipos (gtN (vf (stA A r (newS isF d (vl A)))) r) (aH (vf A d)) (aH (vf A d)).length) r := by rw [edd, fd, ← hins]; rfl
                  rw [eH]
                  refine ⟨insA_nd hls.1 hrn, fun x => ?_⟩
                  rw [insA_iff]
                  by_cases exr : x = r
                  · rw [exr, hPr, edd]
                    exact ⟨fun _ => ⟨by omega, hr', ur, rfl⟩, fun _ => Or.inl rfl⟩
                  · rw [hmem x exr, edd, hls.2 x]
                    exact ⟨fun z => by rcases z with z | z; exact absurd z exr; exact z, fun z => Or.inr z⟩
                · rw [hU e er] at hue
                  rw [hSS e er edd] at hse
                  have hls := hI.ls e he hue hse
                  rw [(fx e er edd).1]
                  refine ⟨hls.1, fun x => ?_⟩
                  rw [hls.2 x]
                  by_cases exr : x = r
                  · rw [exr, hPr]
                    exact ⟨fun z => by (rw [hur] at z; cases z.2.2.1), fun z => absurd z.2.2.2 (Ne.symm edd)⟩
                  · exact (hmem x exr).symm
            · intro c hc2
              rw [eT, hI.tk c hc2]
              have hLd : aL (vf A d) = [] := hwd.2.2.2.2.2.2.2.2.1 (by rw [hwd.k4 hs2]; decide)
              refine ⟨fun z => ?_, fun z => ?_⟩
              · obtain ⟨x, x1, x2, x3⟩ := z
                have hxr : x ≠ r := fun z => by rw [z, hur] at x2; cases x2
                have hxd2 : x ≠ d := fun z => by rw [z, hLd] at x3; cases x3
                exact ⟨x, x1, by rw [hU x hxr]; exact x2, by rw [(fx x hxr hxd2).1]; exact x3⟩
              · obtain ⟨x, x1, x2, x3⟩ := z
                have hxr : x ≠ r := fun z => by rw [z, fr] at x3; cases x3
                have hxd2 : x ≠ d := fun z => by rw [z, fd] at x3; cases x3
                exact ⟨x, x1, by rw [hU x hxr] at x2; exact x2, by rw [(fx x hxr hxd2).1] at x3; exact x3⟩
    · rw [if_neg hc]
      exact h.mono (by omega)
theorem sCre_inv {N : Nat} {A : VS} (h : INV N A) (v : Int32) (isF : Bool) (hN : N + 24 < 65535) : INV (N + 24) (sCre A v isF).2.2 := (sMk_inv h v isF hN).clr
