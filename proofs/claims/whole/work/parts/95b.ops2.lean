/-! Remove and move keep what always holds. -/
theorem mem_go {l : List (Option Nat)} {c : Nat} (h : some c ∈ l) : ∃ i, i < l.length ∧ go l i = some c := by
  obtain ⟨j, j1, j2⟩ := List.getElem_of_mem h
  refine ⟨j, j1, ?_⟩
  unfold go
  rw [List.getD_eq_getElem?_getD, List.getElem?_eq_getElem j1, j2]
  rfl
theorem kp_ne {x r : Nat} (hx : x < 12) (hr : r < 12) : kp (nI r) x = true ↔ x ≠ r := by
  unfold kp
  rw [Bool.not_eq_true', decide_eq_false_iff_not, nI_eq (by omega) (by omega)]
theorem sRem_inv {N : Nat} {A : VS} (h : INV N A) (v : Int32) (hN : N + 24 < 65535) : INV (N + 24) (sRem A v).2.2 := by
  unfold sRem
  by_cases ho : vo A = false
  · rw [if_pos ho]
    exact h.mono (by omega)
  · have ho' : vo A = true := by simpa using ho
    rw [if_neg ho]
    obtain ⟨hI, hJ⟩ := h.2 ho'
    by_cases hc : us A v = true ∧ v ≠ nI 0 ∧ full (vf A v.toNatClampNeg) = false
    · rw [if_pos hc]
      obtain ⟨r, hr, er, hur, _, ec⟩ := us_j hc.1
      rw [ec] at hc ⊢
      have hr0 : r ≠ 0 := fun z => hc.2.1 (by rw [er, z])
      simp only
      have hwr := (hJ.rc r hr hur).2
      obtain ⟨hud, hs2⟩ := hI.pt.1 r hr hur
      have hd : aP (vf A r) < 12 := hwr.2.1
      generalize hdd : aP (vf A r) = d at hud hs2 hd
      have hwd := (hJ.rc d hd hud).2
      have hls := hI.ls d hd hud hs2
      have hrin : r ∈ aH (vf A d) := (hls.2 r).mpr ⟨by omega, hr, hur, hdd⟩
      have hnf : aS (vf A r) = 2 → aH (vf A r) = [] := by
        intro z
        have hf := hc.2.2
        unfold full at hf
        rw [decide_eq_true z, Bool.true_and, Bool.not_eq_false', decide_eq_true_eq] at hf
        exact List.eq_nil_of_length_eq_zero hf
      have hrd : r ≠ d := by
        intro z
        rw [← z] at hrin hs2
        rw [hnf hs2] at hrin
        cases hrin
      have hnp : ∀ x, x < 12 → vU A x = true → 0 < x → aP (vf A x) ≠ r := by
        intro x hx hux h0 z
        have hsr := (hI.pt.1 x hx hux).2
        rw [z] at hsr
        have := ((hI.ls r hr hur hsr).2 x).mpr ⟨h0, hx, hux, z⟩
        rw [hnf hsr] at this
        cases this
      have hnp0 : ∀ x, x < 12 → vU A x = true → aP (vf A x) ≠ r := by
        intro x hx hux
        by_cases e : x = 0
        · rw [e, hI.2.2.1.2.2.1]
          exact Ne.symm hr0
        · exact hnp x hx hux (by omega)
      have hol : ∀ x ∈ outL A d r, x < 12 := fun x hx => hwd.2.2.2.2.2.2.2.1 (hwd.k4 hs2) x (List.mem_filter.mp hx).1
      have hoN : (outL A d r).length ≤ 12 := by
        have h1 := List.length_filter_le (kp (nI r)) (aH (vf A d))
        have h2 := hI.l11 hd hud hs2
        unfold outL
        omega
      have h1 := hJ.lst d hd hud hs2 (outL A d r) hoN hol (by omega)
      by_cases hok : stOk (vt A) = false
      · rw [if_pos hok]
        obtain ⟨f, hf⟩ := h1.2 hok
        exact INV.off ⟨f, hf.mono (by omega)⟩ (by rw [lst_o ho']; exact hok)
      · have hok' : stOk (vt A) = true := by simpa using hok
        rw [if_neg hok]
        have hJ1 := h1.1 hok'
        have ho1 : vo (lst A d (outL A d r)) = true := by rw [lst_o ho']; exact hok'
        have f1 : ∀ x, x ≠ d → vf (lst A d (outL A d r)) x = vf A x ∧ vU (lst A d (outL A d r)) x = vU A x := fun x hx => stA_f hx
        have f1d : ∃ n, vf (lst A d (outL A d r)) d = setN (sLi (vf A d) (outL A d r)) n := ⟨_, stA_r.1⟩
        have u1d : vU (lst A d (outL A d r)) d = true := stA_r.2
        have eT1 : vT (lst A d (outL A d r)) = vT A := rfl
        generalize lst A d (outL A d r) = A1 at *
        have h2 := hJ1.st r hr (frA 0) (by omega) (fun z => absurd rfl z) (fun _ n => rfl) (hJ1.dd.ls (fun x hx' hu' => by
          by_cases e : x = r
          · rw [e, up_at] at hu'
            cases hu'
          · rw [up_ne _ _ e] at hu' ⊢
            exact Or.inr ⟨hu', rfl⟩))
        by_cases hok2 : stOk (vt A1) = false
        · rw [if_pos hok2]
          obtain ⟨f, hf⟩ := h2.2 hok2
          exact INV.off ⟨f, hf.mono (by omega)⟩ (by rw [stA_o ho1]; exact hok2)
        · have hok2' : stOk (vt A1) = true := by simpa using hok2
          rw [if_neg hok2]
          have hJ2 := h2.1 hok2'
          have f2 : ∀ x, x ≠ r → vf (stA A1 r (frA 0)) x = vf A1 x ∧ vU (stA A1 r (frA 0)) x = vU A1 x := fun x hx => stA_f hx
          have u2r : vU (stA A1 r (frA 0)) r = false := stA_r.2
          generalize stA A1 r (frA 0) = B at *
          have hJ3 : OJ (N + 1 + 1) (setT B (clrT (vT A) (aL (vf A r)))) := hJ2
          obtain ⟨n2, f1d⟩ := f1d
          have hU : ∀ x, x ≠ r → vU B x = vU A x := fun x hx => by
            rw [(f2 x hx).2]
            by_cases e : x = d
            · rw [e, u1d, hud]
            · exact (f1 x e).2
          have hfd : vf B d = setN (sLi (vf A d) (outL A d r)) n2 := by rw [(f2 d (Ne.symm hrd)).1, f1d]
          have hfx : ∀ x, x ≠ r → x ≠ d → vf B x = vf A x := fun x h1 h2 => by rw [(f2 x h1).1, (f1 x h2).1]
          have hP : ∀ x, x ≠ r → aP (vf B x) = aP (vf A x) := fun x hx => by
            by_cases e : x = d
            · rw [e, hfd]; rfl
            · rw [hfx x hx e]
          have hSd : aS (vf B d) = 2 := by rw [hfd]; rfl
          refine INV.on (hJ3.mono (by omega)) (OI.mk hJ3 ?_ ?_ ?_ ?_)
          · show vU B 0 = true
            rw [hU 0 (Ne.symm hr0)]
            exact hI.2.2.1.1
          · show PTk (vU B) (vf B)
            refine ⟨fun x hx hux => ?_, fun x hx hux => ?_⟩
            · have hxr : x ≠ r := fun z => by rw [z, u2r] at hux; cases hux
              rw [hU x hxr] at hux
              rw [hP x hxr]
              obtain ⟨g1, g2⟩ := hI.pt.1 x hx hux
              have hpr := hnp0 x hx hux
              rw [hU _ hpr]
              refine ⟨g1, ?_⟩
              by_cases ed2 : aP (vf A x) = d
              · rw [ed2]; exact hSd
              · rw [hfx _ hpr ed2]; exact g2
            · have hxr : x ≠ r := fun z => by rw [z, u2r] at hux; cases hux
              rw [hU x hxr] at hux
              exact ldN_rm (fun y hy hyr huy => ⟨by rw [hU y hyr]; exact huy, hP y hyr⟩) hnp0 12 x hxr (hI.pt.2 x hx hux)
          · show LSt (vU B) (vf B)
            intro e he hue hse
            have her : e ≠ r := fun z => by rw [z, u2r] at hue; cases hue
            have hmem : ∀ x, x ≠ r → ((0 < x ∧ x < 12 ∧ vU B x = true ∧ aP (vf B x) = e) ↔ (0 < x ∧ x < 12 ∧ vU A x = true ∧ aP (vf A x) = e)) := fun x hx => by rw [hU x hx, hP x hx]
            by_cases edd : e = d
            · have eH : aH (vf B e) = (aH (vf A d)).filter (kp (nI r)) := by rw [edd, hfd]; rfl
              rw [eH]
              refine ⟨hls.1.filter _, fun x => ?_⟩
              rw [List.mem_filter, hls.2 x]
              by_cases exr : x = r
              · rw [exr, u2r]
                refine ⟨fun z => ?_, fun z => by (cases z.2.2.1)⟩
                exact absurd rfl ((kp_ne hr hr).mp z.2)
              · rw [hmem x exr, edd]
                exact ⟨fun z => z.1, fun z => ⟨z, (kp_ne z.2.1 hr).mpr exr⟩⟩
            · rw [hU e her] at hue
              rw [hfx e her edd] at hse ⊢
              have hls2 := hI.ls e he hue hse
              refine ⟨hls2.1, fun x => ?_⟩
              rw [hls2.2 x]
              by_cases exr : x = r
              · rw [exr, u2r, hdd]
                exact ⟨fun z => absurd z.2.2.2.symm edd, fun z => by (cases z.2.2.1)⟩
              · exact (hmem x exr).symm
          · show TKt (vU B) (vf B) (clrT (vT A) (aL (vf A r)))
            intro c hc2
            have hLd : aL (vf A d) = [] := hwd.2.2.2.2.2.2.2.2.1 (by rw [hwd.k4 hs2]; decide)
            unfold clrT
            rw [Bool.and_eq_true, Bool.not_eq_true', decide_eq_false_iff_not, hI.tk c hc2]
            refine ⟨fun z => ?_, fun z => ?_⟩
            · obtain ⟨⟨x, x1, x2, x3⟩, z2⟩ := z
              have hxr : x ≠ r := fun z => by rw [z] at x3; exact z2 x3
              have hxd2 : x ≠ d := fun z => by rw [z, hLd] at x3; cases x3
              exact ⟨x, x1, by rw [hU x hxr]; exact x2, by rw [hfx x hxr hxd2]; exact x3⟩
            · obtain ⟨x, x1, x2, x3⟩ := z
              have hxr : x ≠ r := fun z => by rw [z, u2r] at x2; cases x2
              have hxd2 : x ≠ d := fun z => by rw [z, hfd] at x3; cases x3
              rw [hU x hxr] at x2
              rw [hfx x hxr hxd2] at x3
              refine ⟨⟨x, x1, x2, x3⟩, fun z => ?_⟩
              obtain ⟨i, _, hi⟩ := mem_go x3
              obtain ⟨j, _, hj⟩ := mem_go z
              exact hxr (hJ.dd x r i j c x1 hr x2 hur hi hj).1
    · rw [if_neg hc]
      exact h.mono (by omega)
theorem sMov_inv {N : Nat} {A : VS} (h : INV N A) (v w : Int32) (hN : N + 24 < 65535) : INV (N + 24) (sMov A v w).2 := by
  unfold sMov
  by_cases ho : vo A = false
  · rw [if_pos ho]
    exact h.mono (by omega)
  · have ho' : vo A = true := by simpa using ho
    rw [if_neg ho]
    obtain ⟨hI, hJ⟩ := h.2 ho'
    by_cases hc : us A v = true ∧ v ≠ nI 0 ∧ uk A w 2 = true ∧ isB (vf A) v.toNatClampNeg 12 w.toNatClampNeg = false ∧ hnN (vf A) v.toNatClampNeg (aH (vf A w.toNatClampNeg)) = false
    · rw [if_pos hc]
      obtain ⟨r, hr, er, hur, _, ec⟩ := us_j hc.1
      obtain ⟨d, hd, ed, hud, _, ecd, hs2⟩ := uk_j hc.2.2.1
      rw [ec, ecd] at hc ⊢
      have hr0 : r ≠ 0 := fun z => hc.2.1 (by rw [er, z])
      simp only
      have hwr := (hJ.rc r hr hur).2
      have hwd := (hJ.rc d hd hud).2
      obtain ⟨hub, hsb⟩ := hI.pt.1 r hr hur
      have hb12 : aP (vf A r) < 12 := hwr.2.1
      have hbr : aP (vf A r) ≠ r := fun z => hr0 (ldN_ne 12 r (hI.pt.2 r hr hur) z)
      have hdr : d ≠ r := fun z => by
        have := hc.2.2.2.1
        rw [z, isB_self] at this
        cases this
      generalize hdd : aP (vf A r) = b at hub hsb hb12 hbr
      have hlsb := hI.ls b hb12 hub hsb
      have hlsd := hI.ls d hd hud hs2
      have hrinb : r ∈ aH (vf A b) := (hlsb.2 r).mpr ⟨by omega, hr, hur, hdd⟩
      have hdb : d ≠ b := fun z => by
        have := hnN_mem _ hc.2.2.2.2
        rw [z] at this
        exact this hrinb
      have hrnd : r ∉ aH (vf A d) := hnN_mem _ hc.2.2.2.2
      have hB := hJ.1.1
      have hgr := hJ.good hr hur
      have hsr0 : aS (setP (vf A r) d) ≠ 0 := by
        have := hwr.1
        change aS (vf A r) ≠ 0
        omega
      have h1 := hJ.st r hr (setP (vf A r) d) (by omega) (fun _ => ⟨setP_wf hwr hd (nN_lt hB.1 r), hgr.1, fun z => absurd z hr0, hgr.2.2⟩) (fun z => absurd z hsr0) (hJ.dd.ls (fun x hx' hu' => by
        by_cases e : x = r
        · rw [e, up_at]
          exact Or.inr ⟨hur, rfl⟩
        · rw [up_ne _ _ e] at hu' ⊢
          exact Or.inr ⟨hu', rfl⟩))
      by_cases hok : stOk (vt A) = false
      · rw [if_pos hok]
        obtain ⟨f, hf⟩ := h1.2 hok
        exact INV.off ⟨f, hf.mono (by omega)⟩ (by rw [stA_o ho']; exact hok)
      · have hok' : stOk (vt A) = true := by simpa using hok
        rw [if_neg hok]
        have hJ1 := h1.1 hok'
        have ho1 : vo (stA A r (setP (vf A r) d)) = true := by rw [stA_o ho']; exact hok'
        have f1 : ∀ x, x ≠ r → vf (stA A r (setP (vf A r) d)) x = vf A x ∧ vU (stA A r (setP (vf A r) d)) x = vU A x := fun x hx => stA_f hx
        have f1r : ∃ n, vf (stA A r (setP (vf A r) d)) r = setN (setP (vf A r) d) n := ⟨_, stA_r.1⟩
        have u1r : vU (stA A r (setP (vf A r) d)) r = true := by rw [stA_r.2]; exact decide_eq_true hsr0
        have eT1 : vT (stA A r (setP (vf A r) d)) = vT A := rfl
        generalize stA A r (setP (vf A r) d) = A1 at *
        obtain ⟨n1, f1r⟩ := f1r
        have hub1 : vU A1 b = true := by rw [(f1 b hbr).2]; exact hub
        have hsb1 : aS (vf A1 b) = 2 := by rw [(f1 b hbr).1]; exact hsb
        have eob : outL A1 b r = (aH (vf A b)).filter (kp (nI r)) := by unfold outL; rw [(f1 b hbr).1]
        have hol : ∀ x ∈ outL A1 b r, x < 12 := fun x hx => by
          rw [eob] at hx
          exact ((hlsb.2 x).mp (List.mem_filter.mp hx).1).2.1
        have hoN : (outL A1 b r).length ≤ 12 := by
          have h1 := List.length_filter_le (kp (nI r)) (aH (vf A b))
          have h2 := hI.l11 hb12 hub hsb
          rw [eob]
          omega
        have h2 := hJ1.lst b hb12 hub1 hsb1 _ hoN hol (by omega)
        by_cases hok2 : stOk (vt A1) = false
        · rw [if_pos hok2]
          obtain ⟨f, hf⟩ := h2.2 hok2
          exact INV.off ⟨f, hf.mono (by omega)⟩ (by rw [lst_o ho1]; exact hok2)
        · have hok2' : stOk (vt A1) = true := by simpa using hok2
          rw [if_neg hok2]
          have hJ2 := h2.1 hok2'
          have ho2 : vo (lst A1 b (outL A1 b r)) = true := by rw [lst_o ho1]; exact hok2'
          have f2 : ∀ x, x ≠ b → vf (lst A1 b (outL A1 b r)) x = vf A1 x ∧ vU (lst A1 b (outL A1 b r)) x = vU A1 x := fun x hx => stA_f hx
          have f2b : ∃ n, vf (lst A1 b (outL A1 b r)) b = setN (sLi (vf A1 b) (outL A1 b r)) n := ⟨_, stA_r.1⟩
          have u2b : vU (lst A1 b (outL A1 b r)) b = true := stA_r.2
          have eT2 : vT (lst A1 b (outL A1 b r)) = vT A1 := rfl
          generalize lst A1 b (outL A1 b r) = A2 at *
          obtain ⟨n2, f2b⟩ := f2b
          have e2d : vf A2 d = vf A d := by rw [(f2 d hdb).1, (f1 d hdr).1]
          have hud2 : vU A2 d = true := by rw [(f2 d hdb).2, (f1 d hdr).2]; exact hud
          have hsd2 : aS (vf A2 d) = 2 := by rw [e2d]; exact hs2
          have hins : insL A2 d r = insA (aH (vf A d)) (ipos (gtN (vf A2) r) (aH (vf A d)) (aH (vf A d)).length) r := by unfold insL; rw [e2d]
          have hl11 := hI.l11 hd hud hs2
          have hil : (insL A2 d r).length ≤ 12 := by rw [hins, insA_len _ _ _ (ipos_le _ _ _)]; omega
          have hxd : ∀ x ∈ insL A2 d r, x < 12 := by
            intro x hx
            rw [hins] at hx
            rcases insA_iff.mp hx with hx | hx
            · rw [hx]; exact hr
            · exact ((hlsd.2 x).mp hx).2.1
          have h3 := hJ2.lst d hd hud2 hsd2 _ hil hxd (by omega)
          by_cases hok3 : stOk (vt A2) = false
          · rw [if_pos hok3]
            obtain ⟨f, hf⟩ := h3.2 hok3
            exact INV.off ⟨f, hf.mono (by omega)⟩ (by rw [lst_o ho2]; exact hok3)
          · have hok3' : stOk (vt A2) = true := by simpa using hok3
            rw [if_neg hok3]
            have hJ3 := h3.1 hok3'
            have f3 : ∀ x, x ≠ d → vf (lst A2 d (insL A2 d r)) x = vf A2 x ∧ vU (lst A2 d (insL A2 d r)) x = vU A2 x := fun x hx => stA_f hx
            have f3d : ∃ n, vf (lst A2 d (insL A2 d r)) d = setN (sLi (vf A2 d) (insL A2 d r)) n := ⟨_, stA_r.1⟩
            have u3d : vU (lst A2 d (insL A2 d r)) d = true := stA_r.2
            have eT3 : vT (lst A2 d (insL A2 d r)) = vT A2 := rfl
            generalize lst A2 d (insL A2 d r) = B at *
            obtain ⟨n3, f3d⟩ := f3d
            have hU : ∀ x, vU B x = vU A x := fun x => by
              by_cases e : x = d
              · rw [e, u3d, hud]
              · rw [(f3 x e).2]
                by_cases e2 : x = b
                · rw [e2, u2b, hub]
                · rw [(f2 x e2).2]
                  by_cases e3 : x = r
                  · rw [e3, u1r, hur]
                  · exact (f1 x e3).2
            have gd : aS (vf B d) = 2 ∧ aP (vf B d) = aP (vf A d) ∧ aH (vf B d) = insL A2 d r ∧ aL (vf B d) = [] := by
              rw [f3d, e2d]
              exact ⟨rfl, rfl, rfl, rfl⟩
            have gb : aS (vf B b) = 2 ∧ aP (vf B b) = aP (vf A b) ∧ aH (vf B b) = outL A1 b r ∧ aL (vf B b) = [] := by
              rw [(f3 b (Ne.symm hdb)).1, f2b, (f1 b hbr).1]
              exact ⟨rfl, rfl, rfl, rfl⟩
            have gr' : aS (vf B r) = aS (vf A r) ∧ aP (vf B r) = d ∧ aH (vf B r) = aH (vf A r) ∧ aL (vf B r) = aL (vf A r) := by
              rw [(f3 r (Ne.symm hdr)).1, (f2 r (Ne.symm hbr)).1, f1r]
              exact ⟨rfl, rfl, rfl, rfl⟩
            have gx : ∀ x, x ≠ r → x ≠ b → x ≠ d → vf B x = vf A x := fun x h1 h2 h3 => by rw [(f3 x h3).1, (f2 x h2).1, (f1 x h1).1]
            have hP : ∀ x, x ≠ r → aP (vf B x) = aP (vf A x) := fun x hx => by
              by_cases e : x = d
              · rw [e]; exact gd.2.1
              · by_cases e2 : x = b
                · rw [e2]; exact gb.2.1
                · rw [gx x hx e2 e]
            have hSS : ∀ x, aS (vf B x) = aS (vf A x) := fun x => by
              by_cases e : x = d
              · rw [e, gd.1, hs2]
              · by_cases e2 : x = b
                · rw [e2, gb.1, hsb]
                · by_cases e3 : x = r
                  · rw [e3]; exact gr'.1
                  · rw [gx x e3 e2 e]
            have hLb : aL (vf A b) = [] := by
              have hwb := (hJ.rc b hb12 hub).2
              exact hwb.2.2.2.2.2.2.2.2.1 (by rw [hwb.k4 hsb]; decide)
            have hLd : aL (vf A d) = [] := hwd.2.2.2.2.2.2.2.2.1 (by rw [hwd.k4 hs2]; decide)
            have hLL : ∀ x, aL (vf B x) = aL (vf A x) := fun x => by
              by_cases e : x = d
              · rw [e, gd.2.2.2, hLd]
              · by_cases e2 : x = b
                · rw [e2, gb.2.2.2, hLb]
                · by_cases e3 : x = r
                  · rw [e3]; exact gr'.2.2.2
                  · rw [gx x e3 e2 e]
            refine INV.on (hJ3.mono (by omega)) (OI.mk hJ3 ?_ ?_ ?_ ?_)
            · rw [hU 0]
              exact hI.2.2.1.1
            · refine ⟨fun x hx hux => ?_, fun x hx hux => ?_⟩
              · rw [hU x] at hux
                by_cases e : x = r
                · rw [e, gr'.2.1, hU d, hSS d]
                  exact ⟨hud, hs2⟩
                · rw [hP x e, hU, hSS]
                  exact hI.pt.1 x hx hux
              · rw [hU x] at hux
                have eU : vU B = vU A := funext hU
                rw [eU]
                have hd12 := ldN_mv1 (U := vU A) (f := vf A) (f' := vf B) (r := r) (fun y _ hy => hP y hy) 12 d hc.2.2.2.1 (hI.pt.2 d hd hud)
                have hrr : ∃ m, ldN (vU A) (vf B) m r := ⟨13, Or.inr ⟨hr, hur, by rw [gr'.2.1]; exact hd12⟩⟩
                obtain ⟨m, hm⟩ := ldN_mv (fun y _ hy => hP y hy) hrr 12 x (hI.pt.2 x hx hux)
                refine ld12 (fun k hk huk => ?_) m x hx hm
                rw [← eU] at huk
                exact (hJ3.rc k hk huk).2.2.1
            · intro e he hue hse
              rw [hU e] at hue
              rw [hSS e] at hse
              have hls := hI.ls e he hue hse
              have hmem : ∀ x, x ≠ r → ((0 < x ∧ x < 12 ∧ vU B x = true ∧ aP (vf B x) = e) ↔ (0 < x ∧ x < 12 ∧ vU A x = true ∧ aP (vf A x) = e)) := fun x hx => by rw [hU x, hP x hx]
              by_cases e1 : e = d
              · rw [e1, gd.2.2.1, hins]
                refine ⟨insA_nd hlsd.1 hrnd, fun x => ?_⟩
                rw [insA_iff]
                by_cases exr : x = r
                · rw [exr, gr'.2.1, hU r]
                  exact ⟨fun _ => ⟨by omega, hr, hur, rfl⟩, fun _ => Or.inl rfl⟩
                · rw [← e1, hmem x exr, e1, hlsd.2 x]
                  exact ⟨fun z => by rcases z with z | z; exact absurd z exr; exact z, fun z => Or.inr z⟩
              · by_cases e2 : e = b
                · rw [e2, gb.2.2.1, eob]
                  refine ⟨hlsb.1.filter _, fun x => ?_⟩
                  rw [List.mem_filter, hlsb.2 x]
                  by_cases exr : x = r
                  · rw [exr, gr'.2.1]
                    exact ⟨fun z => absurd rfl ((kp_ne hr hr).mp z.2), fun z => absurd z.2.2.2 hdb⟩
                  · rw [← e2, hmem x exr]
                    exact ⟨fun z => z.1, fun z => ⟨z, (kp_ne z.2.1 hr).mpr exr⟩⟩
                · have eH : aH (vf B e) = aH (vf A e) := by
                    by_cases e3 : e = r
                    · rw [e3]; exact gr'.2.2.1
                    · rw [gx e e3 e2 e1]
                  rw [eH]
                  refine ⟨hls.1, fun x => ?_⟩
                  rw [hls.2 x]
                  by_cases exr : x = r
                  · rw [exr, gr'.2.1, hdd]
                    exact ⟨fun z => absurd z.2.2.2.symm e2, fun z => absurd z.2.2.2.symm e1⟩
                  · exact (hmem x exr).symm
            · intro c hc2
              rw [eT3, eT2, eT1, hI.tk c hc2]
              refine ⟨fun z => ?_, fun z => ?_⟩
              · obtain ⟨x, x1, x2, x3⟩ := z
                exact ⟨x, x1, by rw [hU x]; exact x2, by rw [hLL x]; exact x3⟩
              · obtain ⟨x, x1, x2, x3⟩ := z
                rw [hU x] at x2
                rw [hLL x] at x3
                exact ⟨x, x1, x2, x3⟩
    · rw [if_neg hc]
      exact h.mono (by omega)
