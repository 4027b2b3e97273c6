/-! Mount keeps what always holds, and brings the rest. -/
theorem mPar_inv : ∀ (n r c : Nat) (A : VS) (N : Nat), r + n = 12 → 1 ≤ r → OJ N A → vo A = true → N + n < 65535 → vU A 0 = true → (∀ x, 1 ≤ x → x < r → vU A x = true → lup (vU A) (vf A) 13 x = true) →
    (vo (mPar n r c A).2 = true → OJ (N + n) (mPar n r c A).2 ∧ vU (mPar n r c A).2 0 = true ∧ ∀ x, 1 ≤ x → x < 12 → vU (mPar n r c A).2 x = true → lup (vU (mPar n r c A).2) (vf (mPar n r c A).2) 13 x = true) ∧ (vo (mPar n r c A).2 = false → ∃ f, AI (N + n) (mPar n r c A).2 f)
  | 0, r, c, A, N, hr, _, hJ, ho, _, h0, hq => by
    have : r = 12 := by omega
    subst this
    exact ⟨fun _ => ⟨hJ, h0, hq⟩, fun z => by rw [show (mPar 0 12 c A).2 = A from rfl, ho] at z; cases z⟩
  | n + 1, r, c, A, N, hr, h1, hJ, ho, hN, h0, hq => by
    have hr' : r < 12 := by omega
    unfold mPar
    by_cases hc : vU A r = true ∧ lup (vU A) (vf A) 13 r = false
    · rw [if_pos hc]
      have hw := (hJ.rc r hr' hc.1).2
      have hg := hJ.good hr' hc.1
      have hs0 : aS (setP (vf A r) 0) ≠ 0 := by
        have := hw.1
        change aS (vf A r) ≠ 0
        omega
      have h2 := hJ.st r hr' (setP (vf A r) 0) (by omega) (fun _ => ⟨setP_wf hw (by omega) (nN_lt hJ.1.1.1 r), hg.1, fun z => absurd z (by omega), hg.2.2⟩) (fun z => absurd z hs0) (hJ.dd.ls (fun x hx' hu' => by
        by_cases e : x = r
        · rw [e, up_at]
          exact Or.inr ⟨hc.1, rfl⟩
        · rw [up_ne _ _ e] at hu' ⊢
          exact Or.inr ⟨hu', rfl⟩))
      by_cases hok : stOk (vt A) = false
      · rw [if_pos hok]
        refine ⟨fun z => ?_, fun _ => ?_⟩
        · rw [show vo ((c + 1, stA A r (setP (vf A r) 0)) : Nat × VS).2 = vo (stA A r (setP (vf A r) 0)) from rfl, stA_o ho, hok] at z
          cases z
        · obtain ⟨f, hf⟩ := h2.2 hok
          exact ⟨f, hf.mono (by omega)⟩
      · have hok' : stOk (vt A) = true := by simpa using hok
        rw [if_neg hok]
        have hp : ∀ k, k < 12 → aP (vf A k) < 12 := fun k hk => hJ.gk.p hk
        have eU : vU (stA A r (setP (vf A r) 0)) = vU A := by
          funext x
          by_cases e : x = r
          · rw [e, stA_r.2, hc.1]
            exact decide_eq_true hs0
          · exact (stA_f e).2
        have eP : ∀ x, x < 12 → x ≠ r → aP (vf (stA A r (setP (vf A r) 0)) x) = aP (vf A x) := fun x _ hx => by rw [(stA_f hx).1]
        have eS : ∀ x, aS (vf (stA A r (setP (vf A r) 0)) x) = aS (vf A x) := fun x => by
          by_cases e : x = r
          · rw [e, stA_r.1]; rfl
          · rw [(stA_f e).1]
        have ePr : aP (vf (stA A r (setP (vf A r) 0)) r) = 0 := by rw [stA_r.1]; rfl
        have ho1 : vo (stA A r (setP (vf A r) 0)) = true := by rw [stA_o ho]; exact hok'
        have hs00 : aS (vf A 0) = 2 := ((hJ.good (by omega) h0).2.1 rfl).1
        have hnr : ∀ m, lup (vU A) (vf A) m r = false := fun m => by
          cases hm : lup (vU A) (vf A) m r with
          | false => rfl
          | true =>
            have := lup_all hp m r hr' (by omega) hm
            rw [hc.2] at this
            cases this
        have ih := mPar_inv n (r + 1) (c + 1) (stA A r (setP (vf A r) 0)) (N + 1) (by omega) (by omega) (h2.1 hok') ho1 (by omega) (by rw [eU]; exact h0) (fun x x1 x2 hux => by
          rw [eU] at hux ⊢
          by_cases e : x = r
          · rw [e]
            show (if r = 0 then true else if vU A (aP (vf (stA A r (setP (vf A r) 0)) r)) = true ∧ aS (vf (stA A r (setP (vf A r) 0)) (aP (vf (stA A r (setP (vf A r) 0)) r))) = 2 then lup (vU A) (vf (stA A r (setP (vf A r) 0))) 12 (aP (vf (stA A r (setP (vf A r) 0)) r)) else false) = true
            rw [if_neg (by omega), ePr, eS, if_pos ⟨h0, hs00⟩]
            rfl
          · exact lup_mv eP eS hp hnr 13 x (by omega) (hq x x1 (by omega) hux))
        rw [show N + 1 + n = N + (n + 1) by omega] at ih
        exact ih
    · rw [if_neg hc]
      have ih := mPar_inv n (r + 1) c A N (by omega) (by omega) hJ ho (by omega) h0 (fun x x1 x2 hux => by
        by_cases e : x = r
        · rw [e] at hux ⊢
          cases hl : lup (vU A) (vf A) 13 r with
          | true => rfl
          | false => exact absurd ⟨hux, hl⟩ hc
        · exact hq x x1 (by omega) hux)
      refine ⟨fun z => ?_, fun z => ?_⟩
      · obtain ⟨g1, g2⟩ := ih.1 z
        exact ⟨g1.mono (by omega), g2⟩
      · obtain ⟨f, hf⟩ := ih.2 z
        exact ⟨f, hf.mono (by omega)⟩
theorem colL_cg {U : Nat → Bool} {f f' : Nat → AS} (hP : ∀ x, aP (f' x) = aP (f x)) (hM : ∀ x, aM (f' x) = aM (f x)) (d : Nat) : ∀ (m r : Nat) (acc : List Nat), colL U f' d m r acc = colL U f d m r acc
  | 0, _, _ => rfl
  | m + 1, r, acc => by
    have hg : gtN f' r = gtN f r := by
      funext e
      unfold gtN
      rw [hM, hM]
    unfold colL
    rw [hP, hg]
    split
    · exact colL_cg hP hM d m (r + 1) _
    · exact colL_cg hP hM d m (r + 1) _
theorem mLis_inv : ∀ (n d c : Nat) (A : VS) (N : Nat), d + n = 12 → OJ N A → vo A = true → N + n < 65535 → (∀ e, e < d → vU A e = true → aS (vf A e) = 2 → aH (vf A e) = colA A e) →
    (vo (mLis n d c A).2 = true → OJ (N + n) (mLis n d c A).2 ∧ vU (mLis n d c A).2 = vU A ∧ (∀ x, aP (vf (mLis n d c A).2 x) = aP (vf A x)) ∧ (∀ x, aS (vf (mLis n d c A).2 x) = aS (vf A x)) ∧ ∀ e, e < 12 → vU (mLis n d c A).2 e = true → aS (vf (mLis n d c A).2 e) = 2 → aH (vf (mLis n d c A).2 e) = colA (mLis n d c A).2 e) ∧ (vo (mLis n d c A).2 = false → ∃ f, AI (N + n) (mLis n d c A).2 f)
  | 0, d, c, A, N, hd, hJ, ho, _, hq => by
    have : d = 12 := by omega
    subst this
    exact ⟨fun _ => ⟨hJ, rfl, fun _ => rfl, fun _ => rfl, hq⟩, fun z => by rw [show (mLis 0 12 c A).2 = A from rfl, ho] at z; cases z⟩
  | n + 1, d, c, A, N, hd, hJ, ho, hN, hq => by
    have hd' : d < 12 := by omega
    unfold mLis
    by_cases hc : vU A d = true ∧ aS (vf A d) = 2 ∧ colA A d ≠ aH (vf A d)
    · rw [if_pos hc]
      have hcc := colL_c (vU A) (vf A) d 11 1 [] (by omega) (by omega) (by simp) (fun e he => by cases he)
      change (colA A d).length < 12 ∧ ∀ e ∈ colA A d, e < 12 ∧ vU A e = true at hcc
      have h2 := hJ.lst d hd' hc.1 hc.2.1 (colA A d) (by omega) (fun x hx => (hcc.2 x hx).1) (by omega)
      by_cases hok : stOk (vt A) = false
      · rw [if_pos hok]
        refine ⟨fun z => ?_, fun _ => ?_⟩
        · rw [show vo ((c + 1, lst A d (colA A d)) : Nat × VS).2 = vo (lst A d (colA A d)) from rfl, lst_o ho, hok] at z
          cases z
        · obtain ⟨f, hf⟩ := h2.2 hok
          exact ⟨f, hf.mono (by omega)⟩
      · have hok' : stOk (vt A) = true := by simpa using hok
        rw [if_neg hok]
        have eU : vU (lst A d (colA A d)) = vU A := by
          funext x
          by_cases e : x = d
          · rw [e, show vU (lst A d (colA A d)) d = _ from stA_r.2, hc.1]
            rfl
          · exact (stA_f e).2
        have fd : vf (lst A d (colA A d)) d = setN (sLi (vf A d) (colA A d)) (nN (vD A) d) := stA_r.1
        have fx : ∀ x, x ≠ d → vf (lst A d (colA A d)) x = vf A x := fun x hx => (stA_f hx).1
        have eP : ∀ x, aP (vf (lst A d (colA A d)) x) = aP (vf A x) := fun x => by
          by_cases e : x = d
          · rw [e, fd]; rfl
          · rw [fx x e]
        have eM : ∀ x, aM (vf (lst A d (colA A d)) x) = aM (vf A x) := fun x => by
          by_cases e : x = d
          · rw [e, fd]; rfl
          · rw [fx x e]
        have eS : ∀ x, aS (vf (lst A d (colA A d)) x) = aS (vf A x) := fun x => by
          by_cases e : x = d
          · rw [e, fd, hc.2.1]; rfl
          · rw [fx x e]
        have eC : ∀ e, colA (lst A d (colA A d)) e = colA A e := fun e => by
          show colL (vU (lst A d (colA A d))) (vf (lst A d (colA A d))) e 11 1 [] = colL (vU A) (vf A) e 11 1 []
          rw [eU]
          exact colL_cg eP eM e 11 1 []
        have ho1 : vo (lst A d (colA A d)) = true := by rw [lst_o ho]; exact hok'
        have hJ1 := h2.1 hok'
        have eHd : aH (vf (lst A d (colA A d)) d) = colA A d := by rw [fd]; rfl
        generalize lst A d (colA A d) = B at *
        have ih := mLis_inv n (d + 1) (c + 1) B (N + 1) (by omega) hJ1 ho1 (by omega) (fun e he hue hse => by
          rw [eC]
          by_cases ed : e = d
          · rw [ed]; exact eHd
          · rw [eU] at hue
            rw [eS] at hse
            rw [fx e ed]
            exact hq e (by omega) hue hse)
        rw [show N + 1 + n = N + (n + 1) by omega] at ih
        refine ⟨fun z => ?_, ih.2⟩
        obtain ⟨g1, g2, g3, g4, g5⟩ := ih.1 z
        exact ⟨g1, g2.trans eU, fun x => (g3 x).trans (eP x), fun x => (g4 x).trans (eS x), g5⟩
    · rw [if_neg hc]
      have ih := mLis_inv n (d + 1) c A N (by omega) hJ ho (by omega) (fun e he hue hse => by
        by_cases ed : e = d
        · rw [ed] at hue hse ⊢
          by_cases q : colA A d = aH (vf A d)
          · exact q.symm
          · exact absurd ⟨hue, hse, q⟩ hc
        · exact hq e (by omega) hue hse)
      refine ⟨fun z => ?_, fun z => ?_⟩
      · obtain ⟨g1, g2⟩ := ih.1 z
        exact ⟨g1.mono (by omega), g2⟩
      · obtain ⟨f, hf⟩ := ih.2 z
        exact ⟨f, hf.mono (by omega)⟩
theorem sMnt_inv {N : Nat} {A : VS} {f : Nat → AS} (h : AI N A f) (hN : N + 24 < 65535) (U T : Nat → Bool) (hU : okU (vD A) U) (hT : vo (sMnt (mSt A U f)).2 = true → tkT (vU (sMnt (mSt A U f)).2) (vf (sMnt (mSt A U f)).2) 12 T) : INV (N + 24) (setT (sMnt (mSt A U f)).2 T) := by
  have hJ0 : OJ N (mSt A U f) := ⟨h, hU⟩
  have ho0 : vo (mSt A U f) = true := rfl
  unfold sMnt at hT ⊢
  have aft : ∀ (c0 : Nat) (A1 : VS), mRoot (mSt A U f) = (c0, A1) → vo A1 = true → OJ (N + 1) A1 → vU A1 0 = true → INV (N + 24) (setT (if vo (mRoot (mSt A U f)).2 = false then mRoot (mSt A U f)
      else if vo (mPar 11 1 (mRoot (mSt A U f)).1 (mRoot (mSt A U f)).2).2 = false then mPar 11 1 (mRoot (mSt A U f)).1 (mRoot (mSt A U f)).2
      else mLis 12 0 (mPar 11 1 (mRoot (mSt A U f)).1 (mRoot (mSt A U f)).2).1 (mPar 11 1 (mRoot (mSt A U f)).1 (mRoot (mSt A U f)).2).2).2 T) := by
    intro c0 A1 hm ho1 hJ1 hu0
    rw [hm] at hT ⊢
    simp only at hT ⊢
    rw [if_neg (by rw [ho1]; decide)] at hT ⊢
    have hP := mPar_inv 11 1 c0 A1 (N + 1) (by omega) (by omega) hJ1 ho1 (by omega) hu0 (fun x x1 x2 _ => by omega)
    cases ho2 : vo (mPar 11 1 c0 A1).2 with
    | false =>
      rw [ho2] at hT
      rw [if_pos rfl]
      obtain ⟨f', hf'⟩ := hP.2 ho2
      exact INV.off ⟨f', hf'.mono (by omega)⟩ ho2
    | true =>
      rw [ho2] at hT
      rw [if_neg (by decide)] at hT ⊢
      obtain ⟨hJ2, hu2, hl2⟩ := hP.1 ho2
      generalize mPar 11 1 c0 A1 = P at *
      have hL := mLis_inv 12 0 P.1 P.2 (N + 1 + 11) (by omega) hJ2 ho2 (by omega) (fun e he => by omega)
      cases ho3 : vo (mLis 12 0 P.1 P.2).2 with
      | false =>
        obtain ⟨f', hf'⟩ := hL.2 ho3
        exact INV.off ⟨f', hf'.mono (by omega)⟩ ho3
      | true =>
        obtain ⟨hJ3, eU, eP, eS, hH⟩ := hL.1 ho3
        have hT3 := hT ho3
        generalize (mLis 12 0 P.1 P.2).2 = B at *
        have hp : ∀ k, k < 12 → aP (vf P.2 k) < 12 := fun k hk => hJ2.gk.p hk
        have h00 := (hJ2.good (by omega) hu2).2.1 rfl
        have hJ4 : OJ (N + 1 + 11 + 12) (setT B T) := hJ3
        refine INV.on (hJ4.mono (by omega)) (OI.mk hJ4 ?_ ?_ ?_ ?_)
        · show vU B 0 = true
          rw [eU]
          exact hu2
        · show PTk (vU B) (vf B)
          rw [eU]
          refine ⟨fun x hx hux => ?_, fun x hx hux => ?_⟩
          · rw [eP, eS]
            by_cases e : x = 0
            · rw [e, h00.2.1]
              exact ⟨hu2, h00.1⟩
            · exact lup_pd 12 x (hl2 x (by omega) hx hux) e
          · refine ldN_cg (U := vU P.2) (f := vf P.2) (fun y _ huy => ⟨huy, eP y⟩) 12 x ?_
            by_cases e : x = 0
            · exact Or.inl e
            · exact ld12 (fun k hk _ => hp k hk) 13 x hx (lup_ld hp 13 x hx (Or.inr hux) (hl2 x (by omega) hx hux))
        · show LSt (vU B) (vf B)
          intro d hd hud hsd
          rw [hH d hd hud hsd]
          refine ⟨colL_nd _ _ _ _ _ _ List.nodup_nil (fun x hx => by cases hx), fun x => ?_⟩
          unfold colA
          rw [colL_iff]
          refine ⟨fun z => ?_, fun z => ?_⟩
          · rcases z with z | ⟨z1, z2, z3, z4⟩
            · cases z
            · exact ⟨by omega, by omega, z3, z4⟩
          · exact Or.inr ⟨by omega, by omega, z.2.2.1, z.2.2.2⟩
        · exact hT3
  by_cases hu0 : vU (mSt A U f) 0 = true
  · have em : mRoot (mSt A U f) = (0, mSt A U f) := by unfold mRoot; rw [if_pos hu0]
    exact aft 0 _ em ho0 (hJ0.mono (by omega)) hu0
  · have em : mRoot (mSt A U f) = (1, stA (mSt A U f) 0 rootS) := by unfold mRoot; rw [if_neg hu0]
    have h2 := hJ0.st 0 (by omega) rootS (by omega) (fun _ => ⟨rootS_wf (nN_lt hJ0.1.1.1 0), fun x hx => (by cases hx), fun _ => ⟨rfl, rfl, rfl⟩, fun z => absurd rfl z⟩) (fun z => absurd z ne20) (hJ0.dd.ls (fun x hx' hu' => by
      by_cases e : x = 0
      · rw [e, up_at]
        exact Or.inl rfl
      · rw [up_ne _ _ e] at hu' ⊢
        exact Or.inr ⟨hu', rfl⟩))
    cases hok : stOk (vt (mSt A U f)) with
    | false =>
      have ho1 : vo (stA (mSt A U f) 0 rootS) = false := by rw [stA_o ho0]; exact hok
      rw [em]
      simp only
      rw [if_pos ho1]
      obtain ⟨f', hf'⟩ := h2.2 hok
      exact INV.off ⟨f', hf'.mono (by omega)⟩ ho1
    | true =>
      have ho1 : vo (stA (mSt A U f) 0 rootS) = true := by rw [stA_o ho0]; exact hok
      exact aft 1 _ em ho1 (h2.1 hok) stA_r.2
