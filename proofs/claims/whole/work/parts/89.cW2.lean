/-! The class's write, whole. -/
theorem wiS_wf {s : AS} {a n k : Nat} {b : Int32} (h : wf s) (h2 : aK s = 2) (hM : aM s ≠ []) (hg : gr s a n ≤ 50 - (aM s).length) (hk : k < 65536) : wf (setN (wiS s a n b) k) := by
  have hnl := h.nl
  have hM0 : (aM s).length ≠ 0 := fun z => hM (List.eq_nil_of_length_eq_zero z)
  have hnm := nmA_len (aM s)
  rw [if_neg hM0] at hnm
  refine ⟨Or.inl ⟨rfl, Or.inl rfl⟩, h.2.1, hk, h.nl, h.nx, ?_, fun x hx => ?_, fun z => by (cases z), fun _ => rfl, fun z => by (cases z)⟩
  · rw [atA_len, dtA_len]
    show (nmA (aM s)).length + ((wiL s a n b).length + 2) ≤ 54
    rw [wiL_len]
    omega
  · change x ∈ (List.range (gr s a n)).map (wiV s a n b) at hx
    obtain ⟨j, _, e⟩ := List.mem_map.mp hx
    rw [← e]
    unfold wiV wv
    split
    · omega
    · split
      · exact h.hg j
      · omega
theorem woS_wf {s : AS} {z k : Nat} {pl : List (Option Nat)} (h : wf s) (hz : 0 < z) (hz2 : z ≤ 1000) (hl : pl.length = (z + 15) / 16) (hd : dlo pl) (ha : (nmA (aM s)).length + (5 + (rn 48 pl).length) ≤ 54) (hk : k < 65536) : wf (setN (woS s z pl) k) := by
  refine ⟨Or.inl ⟨rfl, Or.inr rfl⟩, h.2.1, hk, h.nl, h.nx, ?_, fun x hx => by (cases hx), fun z => by (cases z), fun z => absurd rfl z, fun _ => ⟨hz, hz2, hl, rfl, hd.2⟩⟩
  rw [atA_len, dtA_len]
  exact ha
theorem fr_eq (s : AS) (N a n : Nat) : frs (pad s N) (lay s) a n = fun j => (go (aL s) j).isNone && nds s a n j := by
  funext i
  exact frs_nds s N a n i
theorem pad_eq (s : AS) (N : Nat) : go (pad s N) = go (aL s) := by
  funext i
  exact pad_go s N i
theorem woR_none {D : Nat → Nat} {T : Nat → Bool} {s : AS} {a n : Nat} {b : Int32} (h : cpl (fun j => (go (aL s) j).isNone && nds s a n j) (go (aL s)) T ((gr s a n + 15) / 16) 0 48 = none) : woR D T s a n b = none := by
  unfold woR
  simp only
  rw [fr_eq, pad_eq]
  refine if_pos (Nat.not_le.mp (fun q => ?_))
  obtain ⟨l, e, _⟩ := (cpl_al (fun j => (go (aL s) j).isNone && nds s a n j) (go (aL s)) T ((gr s a n + 15) / 16) 0 48 T (go (aL s)) (by omega) (by omega) (fun c c1 c2 => by omega) (fun c _ => rfl) (fun j _ => rfl)).2 q
  rw [h] at e
  cases e
theorem woR_some {D : Nat → Nat} {T : Nat → Bool} {s : AS} {a n : Nat} {b : Int32} {l : List (Option Nat)} (h : cpl (fun j => (go (aL s) j).isNone && nds s a n j) (go (aL s)) T ((gr s a n + 15) / 16) 0 48 = some l) (hd : dlo (aL s)) (hi : inj (aL s)) (hT : ∀ c, some c ∈ aL s → T c = true) (hz : gr s a n ≤ 1000) :
    ∃ T', woR D T s a n b = (if (nmA (aM s)).length + (5 + (rn 48 l).length) ≤ 54 then some (woS s (gr s a n) l, plw l (wval s a n b (fun j => (go (aL s) j).isNone && nds s a n j)) (16 * ((gr s a n + 15) / 16)) 0 D, T') else none) ∧ l.length = (gr s a n + 15) / 16 ∧ dlo l ∧ inj l ∧ (∀ i c, go l i = some c → (((go (aL s) i).isNone && nds s a n i) = true → T c = false) ∧ (((go (aL s) i).isNone && nds s a n i) = false → T c = true)) ∧ (∀ c, T' c = true ↔ T c = true ∨ some c ∈ l) ∧ ∀ i c, i < (gr s a n + 15) / 16 → go (aL s) i = some c → go l i = some c := by
  generalize hN : (gr s a n + 15) / 16 = N at h
  have hca := cpl_al (fun j => (go (aL s) j).isNone && nds s a n j) (go (aL s)) T N 0 48 T (go (aL s)) (by omega) (by omega) (fun c c1 c2 => by omega) (fun c _ => rfl) (fun j _ => rfl)
  have hen : frcF (fun j => !((go (aL s) j).isNone && nds s a n j)) N 0 ≤ frcF T 80 48 := Nat.not_lt.mp (fun q => by rw [hca.1 q] at h; cases h)
  obtain ⟨l', e1, e2, e3⟩ := hca.2 hen
  rw [h] at e1
  cases e1
  have hin := alT_in (fun j => (go (aL s) j).isNone && nds s a n j) N 0 T (go (aL s)) hen
  have hrng := alT_rng (fun j => (go (aL s) j).isNone && nds s a n j) N 0 T (go (aL s)) (fun j c e => hd.g j c e)
  have els : l = lsO N (alT (fun j => (go (aL s) j).isNone && nds s a n j) N 0 T (go (aL s))).2 := go_ext (by rw [lsO_len]; exact e2) (fun k hk => by rw [e3 k (by omega), lsO_go _ _ _ (by omega), Nat.zero_add])
  have egl : ∀ i, i < N → go l i = (alT (fun j => (go (aL s) j).isNone && nds s a n j) N 0 T (go (aL s))).2 i := fun i hi => by rw [e3 i hi, Nat.zero_add]
  have hlt : ∀ i c, go l i = some c → i < N := fun i c e => Nat.not_le.mp (fun q => by rw [go_out (by omega)] at e; cases e)
  have hmT : ∀ i c, go (aL s) i = some c → T c = true := fun i c e => by
    have : i < (aL s).length := Nat.not_le.mp (fun q => by rw [go_out q] at e; cases e)
    exact hT c (e ▸ go_mem this)
  have hold : ∀ i c, i < N → ((go (aL s) i).isNone && nds s a n i) = false → go l i = some c → go (aL s) i = some c := fun i c hi hf e => by
    rw [egl i hi, hin.2.2.2 i (Or.inr (Or.inr hf))] at e
    exact e
  have hnew : ∀ i c, i < N → ((go (aL s) i).isNone && nds s a n i) = true → go l i = some c → T c = false := fun i c hi hf e => by
    obtain ⟨c', q1, q2, _⟩ := hin.1 i (Nat.zero_le _) (by omega) hf
    rw [egl i hi, q1] at e
    cases e
    exact q2
  refine ⟨(alT (fun j => (go (aL s) j).isNone && nds s a n j) N 0 T (go (aL s))).1, ?_, e2, ⟨by omega, fun c hc => ?_⟩, fun i j c ei ej => ?_, fun i c e => ⟨fun hf => hnew i c (hlt i c e) hf e, fun hf => hmT i c (hold i c (hlt i c e) hf e)⟩, fun c => ?_, fun i c hi' e => ?_⟩
  · unfold woR
    simp only
    rw [fr_eq, pad_eq, hN, ← els, if_neg (Nat.not_lt.mpr hen)]
    have edt : (dt3 (gr s a n) l).length = 5 + (rn 48 l).length := by
      unfold dt3
      simp only [List.length_cons, List.length_append, List.length_nil]
      omega
    rw [edt]
    by_cases q : (nmA (aM s)).length + (5 + (rn 48 l).length) ≤ 54
    · rw [if_pos q, if_neg (by omega)]
    · rw [if_neg q, if_pos (by omega)]
  · rw [els] at hc
    obtain ⟨j, e⟩ := lsO_mem hc
    exact hrng j c e
  · have hi' := hlt i c ei
    have hj' := hlt j c ej
    cases hfi : ((go (aL s) i).isNone && nds s a n i) with
    | true =>
      cases hfj : ((go (aL s) j).isNone && nds s a n j) with
      | true => exact hin.2.1 i j c (Nat.zero_le _) (by omega) hfi (Nat.zero_le _) (by omega) hfj (by rw [← egl i hi']; exact ei) (by rw [← egl j hj']; exact ej)
      | false =>
        have q1 := hnew i c hi' hfi ei
        have q2 := hmT j c (hold j c hj' hfj ej)
        rw [q1] at q2
        cases q2
    | false =>
      cases hfj : ((go (aL s) j).isNone && nds s a n j) with
      | true =>
        have q1 := hnew j c hj' hfj ej
        have q2 := hmT i c (hold i c hi' hfi ei)
        rw [q1] at q2
        cases q2
      | false => exact hi i j c (hold i c hi' hfi ei) (hold j c hj' hfj ej)
  · rw [hin.2.2.1 c]
    refine ⟨fun q => ?_, fun q => ?_⟩
    · rcases q with q | ⟨j, _, j2, _, j4⟩
      · exact Or.inl q
      · right
        rw [← egl j (by omega)] at j4
        exact j4 ▸ go_mem (by omega)
    · rcases q with q | q
      · exact Or.inl q
      · obtain ⟨j, j1, j2⟩ := List.getElem_of_mem q
        have ej : go l j = some c := by
          unfold go
          rw [List.getD_eq_getElem?_getD, List.getElem?_eq_getElem j1, j2]
          rfl
        have hj' := hlt j c ej
        cases hfj : ((go (aL s) j).isNone && nds s a n j) with
        | true => exact Or.inr ⟨j, Nat.zero_le _, by omega, hfj, by rw [← egl j hj']; exact ej⟩
        | false => exact Or.inl (hmT j c (hold j c hj' hfj ej))
  · rw [egl i hi', hin.2.2.2 i (Or.inr (Or.inr (by rw [e]; rfl)))]
    exact e
section CW3
variable {G : fx_G} {S : fx_S} {I : Nat → Nat → Int32} {Q : fx_R → fx_S → Prop} {A : VS}
theorem cV_write {F : Int32 → fx_S → Prop} (hS : shC S) (hR : fx_roomx S) (hC : CS I A) (hB : BI A) (hO : vo A = true → OI A) (v1 v2 v3 v4 : Int32)
    (h0 : (sWri A v1 v2 v3 v4).1 = 0 → ∀ I', LC I I' → CS I' (sWri A v1 v2 v3 v4).2.2 → F (sWri A v1 v2 v3 v4).2.1 (fx_wI S I'))
    (h1 : (sWri A v1 v2 v3 v4).1 ≠ 0 → ∀ I', LC I I' → CS I' (sWri A v1 v2 v3 v4).2.2 → Q (.inr (sWri A v1 v2 v3 v4).1) (fx_exc (fx_wI S I'))) :
    fx_Go G (8, 109) mm_V_write 0 [(0, fx_r G 0), (1, .int v1), (2, .int v2), (3, .int v3), (4, .int v4)] [] (fx_wI S I) (fx_qi F Q) := by
  refine bs_V_write_0 hS.w _ _ _ _ ?_
  refine cV_requireRunning hS hR hC.2.1 (fun q => ?_) (fun ho => ⟨hS, ?_⟩)
  · have e : sWri A v1 v2 v3 v4 = (1, nI 0, A) := by unfold sWri; rw [if_pos q]
    rw [e] at h1
    exact h1 ne10 I (LC.r I) hC
  · have hOA := hO ho
    have hK := hOA.gk hB
    obtain ⟨hH, hT⟩ := hC.2.2 ho
    have hb : ∀ (o : Bool), o = wok A v1 v2 v3 → fx_Go G (8, 109) mm_V_write 48 [(0, fx_r G 0), (1, .int v1), (2, .int v2), (3, .int v3), (4, .int v4)] [.int (bI o)] (fx_wI S I) (fx_qi F Q) := by
      intro o hoo
      refine bs_V_write_48 hS.w _ _ _ _ _ ?_
      refine cV_require hS hR (fun q => ?_) (fun q => ⟨hS, ?_⟩) rfl
      · have e : sWri A v1 v2 v3 v4 = (2, nI 0, A) := by
          unfold sWri
          rw [if_neg (by rw [ho]; decide), if_neg (by rw [← hoo, q]; decide)]
        rw [e] at h1
        exact h1 ne20 I (LC.r I) hC
      · have hc : wok A v1 v2 v3 = true := by rw [← hoo]; exact q
        have hc' := hc
        unfold wok at hc'
        simp only [Bool.and_eq_true, Bool.not_eq_true', decide_eq_false_iff_not, decide_eq_true_eq] at hc'
        obtain ⟨hc1, hc2, hc3, hc4, hc5, hc6⟩ := hc'
        obtain ⟨r, hr, er, hur, _, ec, hs1⟩ := uk_j hc1
        have hw := (hK r hr).1 hur
        have hszl := hw.szl
        obtain ⟨a, ha, ea⟩ := nI_of2 (M := nI 1000) (n := 1000) rfl hc2 (i_nlt.mp hc3)
        have hn0 : ¬ v3 < 0 := fun z => hc4 (Int32.lt_trans z (by decide))
        obtain ⟨n, hn, en⟩ := nI_of2 (M := nI 60) (n := 60) rfl hn0 (i_nlt.mp hc5)
        subst er ea en
        have hn1 : 1 ≤ n := by
          rw [nI_ltI (by omega) (by omega)] at hc4
          omega
        have han : a + n ≤ 1000 := by
          rw [nI_add, nI_leI (by omega) (by omega)] at hc6
          exact hc6
        have hr0 : r ≠ 0 := fun z => by
          have := hOA.2.2.1.2.1
          rw [← z, hs1] at this
          omega
        have hM : aM (vf A r) ≠ [] := hOA.2.2.2.1 r (by omega) hr hur
        have hM0 : (aM (vf A r)).length ≠ 0 := fun z => hM (List.eq_nil_of_length_eq_zero z)
        have hnl := hw.nl
        have hnm := nmA_len (aM (vf A r))
        rw [if_neg hM0] at hnm
        have hga : a + n ≤ gr (vf A r) a n ∧ sz (vf A r) ≤ gr (vf A r) a n := by unfold gr; split <;> omega
        have hgm : gr (vf A r) a n ≤ 1000 := by unfold gr; split <;> omega
        have es : sWri A (nI r) (nI a) (nI n) v4 = (if aK (vf A r) = 2 ∧ gr (vf A r) a n ≤ 50 - (aM (vf A r)).length then
            (let A1 := stA A r (wiS (vf A r) a n v4)
            if stOk (vt A) = false then (1, nI 0, A1) else (0, nI (gr (vf A r) a n), A1))
          else match woR (vD A) (vT A) (vf A r) a n v4 with
            | none => (3, nI 0, A)
            | some q => let A1 := stA (setT (setD A q.2.1) q.2.2) r q.1
              if stOk (vt A) = false then (1, nI 0, A1) else (0, nI (gr (vf A r) a n), A1)) := by
          unfold sWri
          rw [if_neg (by rw [ho]; decide), if_pos hc, ec, nI_clamp (n := a) (by omega), nI_clamp (n := n) (by omega)]
          all_goals rfl
        rw [es] at h0 h1
        clear es
        have hP := hH r hr
        have hh := isH_at r hr
        have hn0' : aN (vf A r) = wrd (vD A) (64 * r + 2) := ((hOA.rc r hr hur).1.w hw.2.2.1).symm
        have hka := hw.ka
        have esz : (if nI (sz (vf A r)) < nI a + nI n then nI a + nI n else nI (sz (vf A r))) = nI (gr (vf A r) a n) := by
          rw [nI_add]
          unfold gr
          by_cases q : a + n ≤ sz (vf A r)
          · rw [if_pos q, if_neg (nI_nlt q (by omega))]
          · rw [if_neg q, if_pos (nI_lt (by omega) (by omega))]
        have out : ¬ (aK (vf A r) = 2 ∧ gr (vf A r) a n ≤ 50 - (aM (vf A r)).length) → fx_Go G (8, 109) mm_V_write 105 [(0, fx_r G 0), (1, .int (nI r)), (2, .int (nI a)), (3, .int (nI n)), (4, .int v4), (5, fx_r G (4 + 6 * r)), (6, .int (nI (gr (vf A r) a n)))] [] (fx_wI S I) (fx_qi F Q) := by
          intro hno
          rw [if_neg hno] at h0 h1
          refine bs_V_write_105 hS.w _ _ _ _ (4 + 6 * r) _ hh ?_
          refine bs_V_makePlan_0 hS.w (4 + 6 * r) _ _ _ hh ?_
          simp only [wI_setI, forall_eq]
          have hF1 : FC [81, 82] I (fx_w I 81 1 0) := FC.w [81, 82] I 81 _ _ (by simp <;> omega)
          have hL1 : LyP (fx_w I 81 1 0) 81 [] := ⟨fw_at _ _ _ _, fun j hj => absurd hj (Nat.not_lt_zero _)⟩
          have hTT : ∀ c, some c ∈ aL (vf A r) → vT A c = true := fun c hc => (hOA.2.2.2.2.2.2.2.1 c (hw.dl.2 c hc).2).mpr ⟨r, hr, hur, hc⟩
          have hij : inj (aL (vf A r)) := fun i j c ei ej => (hOA.2.2.2.2.2.2.2.2 r r i j c hr hr hur hur ei ej).2
          refine cV_mp15 hS (4 + 6 * r) hh (by omega) hP hw hT a n (gr (vf A r) a n) ha hn1 hn hgm ((gr (vf A r) a n + 15) / 16) 0 48 [] _ (by omega) rfl (fun c hc => by (cases hc)) (by omega) (by omega) hF1 hL1 (fun hcp K hFK => ⟨hS, ?_⟩) (fun l K hcp hFK hLK => ⟨hS, ?_⟩) rfl rfl
          · refine ⟨fun z => absurd rfl z, fun _ => ⟨hR, ?_⟩⟩
            rw [woR_none hcp] at h1
            exact h1 ne30 K (hFK.lc (fun x hx => by simp at hx <;> omega)) ⟨hC.1.fc hFK (by simp <;> omega) (by simp <;> omega) (by simp <;> omega) (by simp <;> omega), by rw [hFK 0 (by simp <;> omega)]; exact hC.2.1, fun _ => ⟨hH.fc hFK (fun x x1 x2 => by simp <;> omega), hT.fc hFK (by simp <;> omega)⟩⟩
          · obtain ⟨T', ew, el, hd, hj, hfr, hT', _⟩ := woR_some (D := vD A) (b := v4) hcp hw.dl hij hTT hgm
            rw [List.nil_append] at hLK ⊢
            by_cases q2 : (nmA (aM (vf A r))).length + (5 + (rn 48 l).length) ≤ 54
            · rw [if_pos q2] at ew
              rw [ew] at h0 h1
              rw [decide_eq_true q2]
              refine ⟨fun _ => ?_, fun z => absurd z (by decide)⟩
              refine cV_putOutside hS (4 + 6 * r) hh (by omega) (hP.fc hFK (fun x x1 x2 => by simp <;> omega)) hs1 hw hLK hd hj (fun j => (go (aL (vf A r)) j).isNone && nds (vf A r) a n j) (vT A) hfr (by rw [hFK 2 (by simp <;> omega)]; exact hC.1.1) (hT.fc hFK (by simp <;> omega)) a n (gr (vf A r) a n) v4 ha hn hgm rfl el (fun J T2 hFJ hDJ hTJ hT2 hPJ => ⟨hS, ?_⟩) rfl rfl rfl
              have hFIJ : FC [2, 76, 4 + 6 * r, 4 + 6 * r + 4, 4 + 6 * r + 5, 81, 82] I J := (hFK.mono (fun x hx => by simp at hx ⊢ <;> omega)).tr (hFJ.mono (fun x hx => by simp at hx ⊢ <;> omega))
              have hLJ : LC I J := hFIJ.lc (fun x hx => by simp at hx <;> omega)
              have hTJ' : CT J T' := by
                intro c hc
                rw [hTJ c hc]
                congr 1
                have e1 := hT' c
                have e2 := hT2 c
                cases z1 : T' c with
                | true => exact e2.mpr (e1.mp z1)
                | false =>
                  cases z2 : T2 c with
                  | false => rfl
                  | true => rw [e1.mpr (e2.mp z2)] at z1; cases z1
              simp only at h0 h1
              generalize hDq : plw l (wval (vf A r) a n v4 (fun j => (go (aL (vf A r)) j).isNone && nds (vf A r) a n j)) (16 * ((gr (vf A r) a n + 15) / 16)) 0 (vD A) = D' at hDJ h0 h1
              have hDlt : ∀ q, D' q < 256 := by
                intro q
                rw [← hDq]
                refine plw_lt (fun k v e => ?_) _ _ _ hB.1 q
                unfold wval wv at e
                split at e
                · cases e; omega
                · split at e
                  · cases e; exact hw.hg _
                  · split at e
                    · cases e; omega
                    · cases e
              have hDlo : ∀ q, q < 768 → D' q = vD A q := fun q hq => by
                rw [← hDq]
                exact plw_lo hd.2 _ q hq _ _ _
              have hBJ : BI (setT (setD A D') T') := hB.sd hDlt
              have hws : wf (setN (woS (vf A r) (gr (vf A r) a n) l) (aN (vf A r))) := woS_wf hw (by omega) hgm el hd q2 hw.2.2.1
              have hHJ : CH J (up (vf (setT (setD A D') T')) r (setN (woS (vf A r) (gr (vf A r) a n) l) (aN (vf A r)))) := hH.set r hr hFIJ (fun x x1 x2 x3 => by simp <;> omega) hPJ
              refine cV_storeS hS hR (A := setT (setD A D') T') ⟨hDJ, by rw [hFIJ 1 (by simp <;> omega)]; exact hC.1.2.1, hC.1.2.2.fc hFIJ (by simp <;> omega) (by simp <;> omega)⟩ (by rw [hFIJ 0 (by simp <;> omega), hC.2.1, ho]) hTJ' hBJ ho r hr _ _ hHJ (by rw [hn0']; exact (wrd_lo hDlo (by omega)).symm) hws.sok (fun q3 L hL' hCL => ?_) (fun q3 L hL' hCL => ⟨hS, ?_⟩) rfl
              · have q3' : stOk (vt A) = false := q3
                rw [if_pos q3'] at h1
                exact h1 ne10 L (hLJ.tr (hL'.lc (fun x hx => by simp at hx <;> omega))) hCL
              · have q3' : stOk (vt A) = true := q3
                rw [if_neg (by rw [q3']; decide)] at h0
                exact h0 rfl L (hLJ.tr (hL'.lc (fun x hx => by simp at hx <;> omega))) hCL
            · rw [if_neg q2] at ew
              rw [ew] at h1
              rw [decide_eq_false q2]
              refine ⟨fun z => absurd rfl z, fun _ => ⟨hR, ?_⟩⟩
              exact h1 ne30 K (hFK.lc (fun x hx => by simp at hx <;> omega)) ⟨hC.1.fc hFK (by simp <;> omega) (by simp <;> omega) (by simp <;> omega) (by simp <;> omega), by rw [hFK 0 (by simp <;> omega)]; exact hC.2.1, fun _ => ⟨hH.fc hFK (fun x x1 x2 => by simp <;> omega), hT.fc hFK (by simp <;> omega)⟩⟩
        simp only [wI_I, ec, hP.2.2.2.1, hP.2.2.2.2.1, esz]
        refine ⟨pk_in r 12 hr rfl, ?_⟩
        refine ne_pair (pk_eq (aK (vf A r)) 2 (fun q2 => ?_) (fun q2 => ?_) rfl rfl (by omega) (by omega))
        · refine cH_mostInside hS (4 + 6 * r) hh hP.2.2.2.2.2.1 hw.nl ⟨hS, ?_⟩
          refine pk_lt (52 - (nmA (aM (vf A r))).length) (gr (vf A r) a n) (fun q3 => ?_) (fun q3 => ?_) rfl rfl (by omega) (by omega)
          · exact out (fun z => by omega)
          · have hin : gr (vf A r) a n ≤ 50 - (aM (vf A r)).length := by omega
            rw [if_pos ⟨q2, hin⟩] at h0 h1
            have hL0 : aL (vf A r) = [] := hw.2.2.2.2.2.2.2.2.1 (by omega)
            refine cH_putInside hS (4 + 6 * r) hh hP hs1 q2 hL0 a n v4 hn (by omega) (fun J hFJ hPJ => ⟨hS, ?_⟩) rfl rfl rfl
            have hLJ : LC I J := hFJ.lc (fun x hx => by simp at hx <;> omega)
            have hwi : wf (setN (wiS (vf A r) a n v4) (aN (vf A r))) := wiS_wf hw q2 hM hin hw.2.2.1
            refine cV_storeS hS hR (hC.1.fc hFJ (by simp <;> omega) (by simp <;> omega) (by simp <;> omega) (by simp <;> omega)) (by rw [hFJ 0 (by simp <;> omega), hC.2.1, ho]) (hT.fc hFJ (by simp <;> omega)) hB ho r hr _ _ (hH.set r hr hFJ (fun x x1 x2 x3 => by simp <;> omega) hPJ) hn0' hwi.sok (fun q4 L hL' hCL => ?_) (fun q4 L hL' hCL => ⟨hS, ?_⟩) rfl
            · simp only [if_pos q4] at h1
              exact h1 ne10 L (hLJ.tr (hL'.lc (fun x hx => by simp at hx <;> omega))) hCL
            · rw [if_neg (by rw [q4]; decide)] at h0
              exact h0 rfl L (hLJ.tr (hL'.lc (fun x hx => by simp at hx <;> omega))) hCL
        · exact out (fun z => q2 z.1)
    refine cV_isFile hS hK hH v1 ⟨hS, ?_⟩
    rw [← uk_on ho]
    unfold wok at hb
    refine b0 (fun q => hb false (by rw [q]; rfl)) (fun q => ?_)
    refine ⟨fun q2 => hb false ?_, fun q2 => ⟨fun q3 => hb false ?_, fun q3 => ⟨fun q4 => hb false ?_, fun q4 => ⟨fun q5 => hb false ?_, fun q5 => ⟨fun q6 => hb false ?_, fun q6 => hb true ?_⟩⟩⟩⟩⟩
    · rw [q, decide_eq_true (p := v2 < nI 0) q2]; rfl
    · rw [q, decide_eq_true (p := nI 1000 < v2) q3]; simp
    · rw [q, decide_eq_true (p := v3 < nI 1) q4]; simp
    · rw [q, decide_eq_true (p := nI 60 < v3) q5]; simp
    · rw [q, decide_eq_false (p := v2 + v3 ≤ nI 1000) (i_nle.mpr q6)]; simp
    · rw [q, decide_eq_false (p := v2 < nI 0) q2, decide_eq_false (p := nI 1000 < v2) q3, decide_eq_false (p := v3 < nI 1) q4, decide_eq_false (p := nI 60 < v3) q5, decide_eq_true (p := v2 + v3 ≤ nI 1000) (i_nlt.mp q6)]
      rfl
end CW3
