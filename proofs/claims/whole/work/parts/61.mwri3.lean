/-! The reference's write: what is inside; the call. -/
def wiV (s : AS) (a n : Nat) (b : Int32) (k : Nat) : Nat := if a ≤ k ∧ k < a + n then wv b (k - a) else if k < sz s then gd (aH s) k else 0
def wiL (s : AS) (a n : Nat) (b : Int32) : List Nat := (List.range (gr s a n)).map (wiV s a n b)
def wiS (s : AS) (a n : Nat) (b : Int32) : AS := (1, aP s, 0, aM s, 2, wiL s a n b, 0, [])
theorem wiL_len (s : AS) (a n : Nat) (b : Int32) : (wiL s a n b).length = gr s a n := by unfold wiL; simp
theorem wiL_gd (s : AS) (a n : Nat) (b : Int32) (k : Nat) (h : k < gr s a n) : gd (wiL s a n b) k = wiV s a n b k := by
  unfold gd wiL
  rw [List.getD_eq_getElem?_getD, List.getElem?_map, List.getElem?_range h]
  rfl
def wok (A : VS) (v a n : Int32) : Bool := uk A v 1 && (!decide (a < nI 0) && (!decide (nI 1000 < a) && (!decide (n < nI 1) && (!decide (nI 60 < n) && decide (a + n ≤ nI 1000)))))
def sWri (A : VS) (v a n b : Int32) : Nat × Int32 × VS :=
  if vo A = false then (1, nI 0, A)
  else if wok A v a n = true then
    (let r := v.toNatClampNeg
     let s := vf A r
     let i := a.toNatClampNeg
     let m := n.toNatClampNeg
     if aK s = 2 ∧ gr s i m ≤ 50 - (aM s).length then
       (let A1 := stA A r (wiS s i m b)
        if stOk (vt A) = false then (1, nI 0, A1) else (0, nI (gr s i m), A1))
     else match woR (vD A) (vT A) s i m b with
       | none => (3, nI 0, A)
       | some q => let A1 := stA (setT (setD A q.2.1) q.2.2) r q.1
         if stOk (vt A) = false then (1, nI 0, A1) else (0, nI (gr s i m), A1))
  else (2, nI 0, A)
section MWRI3
variable {G : fx_G} {S : fx_S} {I : Nat → Nat → Int32} {Q : fx_R → fx_S → Prop} {F : Int32 → fx_S → Prop} {A : VS}
theorem isAM_93 : isAM 93 64 := ⟨⟨by decide, by decide⟩, rfl⟩
theorem cM_w145 (hS : shM S) (hM : MS I A) (hB : BI A) (ho : vo A = true) (r : Nat) (hr : r < 12) {s : AS} (hR : Rec (vD A) r s) (hw : wf s) (hs1 : aS s = 1) (k2 : aK s = 2) (a n : Nat) (b : Int32) (ha : a ≤ 1000) (hn : n ≤ 60) (hg : gr s a n ≤ 50 - (aM s).length) (h0 : I 85 0 = nI 0)
    (h1 : stOk (vt A) = false → ∀ I', K85 I I' → MS I' (stA A r (wiS s a n b)) → I' 85 0 = nI 1 → F (nI 0) (fx_wI S I'))
    (h2 : stOk (vt A) = true → ∀ I', K85 I I' → MS I' (stA A r (wiS s a n b)) → I' 85 0 = nI 0 → F (nI (gr s a n)) (fx_wI S I')) : ∀ (m k : Nat) (J : Nat → Nat → Int32) {v9 : Int32}, k + m = gr s a n → Fr [93] [] I J → (∀ j, j < k → J 93 j = nI (wiV s a n b j)) → v9 = nI k →
    fx_Go G (5, 82) mm_M_write 145 [(0, fx_r G 85), (1, .int (nI r)), (2, .int (nI a)), (3, .int (nI n)), (4, .int b), (6, .int (nI (sz s))), (7, .int (nI (gr s a n))), (8, .int (nI (10 + (nmA (aM s)).length + 2))), (9, .int v9)] [] (fx_wI S J) (fx_qi F Q) := by
  have hsz := hw.szl
  have esz : sz s = (aH s).length := by unfold sz; rw [if_neg (by omega)]
  have hhl := hw.hl (by omega)
  have hN := nmA_len (aM s)
  have hnl := hw.nl
  have hN10 : (nmA (aM s)).length ≤ (aM s).length + 2 := by rw [hN]; split <;> omega
  have hpw := hw.2.1
  intro m
  induction m with
  | zero =>
    intro k J v9 hk hF hrow e9
    subst e9
    have scJ : SC I J := hF.mono (fun a h => by simp at h ⊢; omega) (fun a h => by simp at h)
    have hMJ := hM.keep scJ
    have cJ : J 85 0 = nI 0 := (hF.2 0 (by simp)).trans h0
    have hrl : rowL J 93 (wiL s a n b) := fun j hj => by
      rw [wiL_len] at hj
      rw [wiL_gd _ _ _ _ _ hj]
      exact hrow j (by omega)
    have hwl := wiL_len s a n b
    refine bs_M_write_145 hS.w _ _ _ _ _ _ _ _ ?_
    refine pk_le (gr s a n) k (fun _ => ?_) (fun q => absurd q (by omega)) rfl rfl (by omega) (by omega)
    refine cM_byteR hS hMJ.1 r 1 hR hr (by omega) ⟨hS, ?_⟩ rfl rfl
    rw [rv_1]
    refine cM_begin hS 1 (aP s) (fun bb hbb => ⟨hS, ?_⟩) rfl rfl
    refine cM_putName hS hMJ.1 r hR hr hw (by omega) ⟨hS, ?_⟩ rfl
    refine cM_putInside hS hrl (by omega) (by omega) ⟨hS, ?_⟩ (by rw [hwl])
    have hal : (atA (wiS s a n b)).length = (nmA (aM s)).length + ((wiL s a n b).length + 2) := by rw [atA_len]; rfl
    refine cM_storeC hS (hMJ.mc ho) hB.1 hB.2.1 hMJ.2.2.2.2.1 (s := wiS s a n b) r hr (by show 1 ≤ 2; omega) (by omega) (fun j hj _ => ?_) (fun I4 hF4 hM4 h44 => ⟨hS, ?_⟩) rfl (by omega)
    · rw [putL_app]
      exact putL_bfr (s := wiS s a n b) hbb j hj
    · have hS4 : MS I4 (stA A r (wiS s a n b)) := hMJ.st (hMJ.u ho).1 (fun _ => rfl) hF4 hM4 h44
      have k4 : K85 I I4 := scJ.k.tr (hF4.k (fun a ha => by simp; omega))
      have c4 : I4 85 0 = nI 0 := (hF4.2 0 (by decide)).trans cJ
      refine b0 (fun z => ?_) (fun z => h2 z I4 k4 hS4 c4)
      exact cM_refuse hS 1 ⟨hS, h1 z _ (k4.tr (sc0 I4 (nI 1)).k) (hS4.keep (sc0 I4 (nI 1))) rfl⟩ rfl
  | succ m ih =>
    intro k J v9 hk hF hrow e9
    subst e9
    have scJ : SC I J := hF.mono (fun a h => by simp at h ⊢; omega) (fun a h => by simp at h)
    have hMJ := hM.keep scJ
    have nx : ∀ x : Int32, x = nI (wiV s a n b k) → fx_Go G (5, 82) mm_M_write 145 [(0, fx_r G 85), (1, .int (nI r)), (2, .int (nI a)), (3, .int (nI n)), (4, .int b), (6, .int (nI (sz s))), (7, .int (nI (gr s a n))), (8, .int (nI (10 + (nmA (aM s)).length + 2))), (9, .int (nI k + Int32.ofInt 1))] [] (fx_wI S (fx_w J 93 k x)) (fx_qi F Q) := by
      intro x ex
      subst ex
      refine ih (k + 1) _ (by omega) (hF.tr (Fr.w [93] [] J 93 _ _ (by decide) (by decide)) (fun _ h => ⟨h, h⟩) (fun _ h => ⟨h, h⟩)) (fun j hj => ?_) (by first | rfl | (simp (disch := omega) only [nI_lit, nI_ofInt1, nI_ofInt4, nI_ofInt2, nI_ofInt3, mI_neg, wI_I, wI_setI, wI_setR, forall_eq, nI_add, pk_mul, pk_sub, pk_div, pk_rem, nI_clamp, nI_leI, nI_ltI, nI_eq, vin_iff, nar0, nar1, nF_ap, bF_ap, oF_ap, bI_0, bI_1, and255, bu_w, bu_p, bu_90, bu_9, row_w, row_at, nF_up, nI_ofIntm] <;> first | done | omega | (congr 1; omega)))
      by_cases c : j = k
      · subst c; rw [fw_at]
      · rw [fw_nj c]; exact hrow j (by omega)
    unfold wiV at nx
    have old : ¬ (a ≤ k ∧ k < a + n) → fx_Go G (5, 82) mm_M_write 186 [(0, fx_r G 85), (1, .int (nI r)), (2, .int (nI a)), (3, .int (nI n)), (4, .int b), (6, .int (nI (sz s))), (7, .int (nI (gr s a n))), (8, .int (nI (10 + (nmA (aM s)).length + 2))), (9, .int (nI k))] [.int (nI k), fx_r G 93] (fx_wI S J) (fx_qi F Q) := by
      intro hno
      rw [if_neg hno] at nx
      refine bs_M_write_186 hS.w _ _ _ _ _ _ _ _ _ _ isAM_93 ?_
      simp only [wI_setI, forall_eq]
      rw [pk_cl k rfl (by omega)]
      refine pk_le (sz s) k (fun q => ⟨pk_in k 64 (by omega) rfl, nx _ (by rw [if_neg (by omega)]; rfl)⟩) (fun q => ?_) rfl rfl (by omega) (by omega)
      refine cM_byteR hS hMJ.1 r (10 + (nmA (aM s)).length + 2 + k) hR hr (by omega) ⟨hS, pk_in k 64 (by omega) rfl, ?_⟩ rfl (by first | rfl | (simp (disch := omega) only [nI_lit, nI_ofInt1, nI_ofInt4, nI_ofInt2, nI_ofInt3, mI_neg, wI_I, wI_setI, wI_setR, forall_eq, nI_add, pk_mul, pk_sub, pk_div, pk_rem, nI_clamp, nI_leI, nI_ltI, nI_eq, vin_iff, nar0, nar1, nF_ap, bF_ap, oF_ap, bI_0, bI_1, and255, bu_w, bu_p, bu_90, bu_9, row_w, row_at, nF_up, nI_ofIntm] <;> first | done | omega | (congr 1; omega)))
      rw [rv_h s (by omega) (by omega)]
      exact nx _ (by rw [if_pos q])
    refine bs_M_write_145 hS.w _ _ _ _ _ _ _ _ ?_
    refine pk_le (gr s a n) k (fun q => absurd q (by omega)) (fun _ => ?_) rfl rfl (by omega) (by omega)
    refine pk_lt k a (fun q => old (by omega)) (fun q => ?_) rfl rfl (by omega) (by omega)
    refine pk_le (a + n) k (fun q2 => old (by omega)) (fun q2 => ⟨pk_in k 64 (by omega) rfl, ?_⟩) (nI_add a n) rfl (by omega) (by omega)
    simp only [wI_setI, forall_eq]
    rw [pk_cl k rfl (by omega)]
    exact nx _ (by rw [if_pos ⟨q, q2⟩]; exact wv_eq b k a q (by omega))
theorem cM_write (hS : shM S) (hM0 : MS I A) (hB : BI A) (hO : vo A = true → OI A) (v1 v2 v3 v4 : Int32) (h' : ∀ I', K85 I I' → MS I' (sWri A v1 v2 v3 v4).2.2 → I' 85 0 = nI (sWri A v1 v2 v3 v4).1 → F (sWri A v1 v2 v3 v4).2.1 (fx_wI S I')) :
    fx_Go G (5, 82) mm_M_write 0 [(0, fx_r G 85), (1, .int v1), (2, .int v2), (3, .int v3), (4, .int v4)] [] (fx_wI S I) (fx_qi F Q) := by
  refine bs_M_write_0 hS.w _ _ _ _ ?_
  simp only [wI_setI, forall_eq, wI_I]
  have hM := hM0.keep (sc0 I (nI 0))
  have h : ∀ I', K85 (fx_w I 85 0 (nI 0)) I' → MS I' (sWri A v1 v2 v3 v4).2.2 → I' 85 0 = nI (sWri A v1 v2 v3 v4).1 → F (sWri A v1 v2 v3 v4).2.1 (fx_wI S I') := fun I' k => h' I' ((sc0 I (nI 0)).k.tr k)
  have h0 : fx_w I 85 0 (nI 0) 85 0 = nI 0 := rfl
  rw [show (0 : Int32) = nI 0 from rfl]
  generalize fx_w I 85 0 (nI 0) = J at *
  clear h' hM0
  unfold sWri at h
  rw [hM.2.2.2.2.1]
  refine b1 (fun ho => ?_) (fun ho => ?_)
  · rw [if_neg (by rw [ho]; decide)] at h
    have bad : wok A v1 v2 v3 = false → F (nI 0) (fx_wI S (fx_w J 85 0 (nI 2))) := by
      intro z
      rw [if_neg (by rw [z]; decide)] at h
      exact h _ (sc0 J _).k (hM.keep (sc0 J _)) rfl
    have no54 : wok A v1 v2 v3 = false → fx_Go G (5, 82) mm_M_write 54 [(0, fx_r G 85), (1, .int v1), (2, .int v2), (3, .int v3), (4, .int v4)] [.int (nI 0)] (fx_wI S J) (fx_qi F Q) := by
      intro z
      refine bs_M_write_54 hS.w _ _ _ _ _ ?_
      exact ⟨fun _ => cM_refuse hS 2 ⟨hS, bad z⟩ rfl, fun q => absurd rfl q⟩
    refine cM_uk hS hM hB hO v1 1 (by omega) ⟨hS, ?_⟩ rfl
    refine b0 (fun q => no54 (by unfold wok; rw [q]; rfl)) (fun q => ?_)
    refine ⟨fun q1 => no54 (by unfold wok; rw [decide_eq_true (show v2 < nI 0 from q1)]; simp), fun q1 => ?_⟩
    refine ⟨fun q2 => no54 (by unfold wok; rw [decide_eq_true (show nI 1000 < v2 from q2)]; simp), fun q2 => ?_⟩
    refine ⟨fun q3 => no54 (by unfold wok; rw [decide_eq_true (show v3 < nI 1 from q3)]; simp), fun q3 => ?_⟩
    refine ⟨fun q4 => no54 (by unfold wok; rw [decide_eq_true (show nI 60 < v3 from q4)]; simp), fun q4 => ?_⟩
    refine bs_M_write_54 hS.w _ _ _ _ _ ?_
    refine ⟨fun z => absurd z (by decide), fun _ => ⟨fun q5 => ?_, fun q5 => cM_refuse hS 2 ⟨hS, bad (by unfold wok; rw [decide_eq_false (show ¬ v2 + v3 ≤ nI 1000 from q5)]; simp)⟩ rfl⟩⟩
    have hwok : wok A v1 v2 v3 = true := by
      unfold wok
      rw [q, decide_eq_false (show ¬ v2 < nI 0 from q1), decide_eq_false (show ¬ nI 1000 < v2 from q2), decide_eq_false (show ¬ v3 < nI 1 from q3), decide_eq_false (show ¬ nI 60 < v3 from q4), decide_eq_true (show v2 + v3 ≤ nI 1000 from q5)]
      rfl
    rw [if_pos hwok] at h
    obtain ⟨r, hr, e, hu, _, er, hs1⟩ := uk_j q
    obtain ⟨hR, hw⟩ := (hO ho).rc r hr hu
    obtain ⟨a, ha, ea⟩ := nI_of2 (M := nI 1000) (n := 1000) rfl q1 (i_nlt.mp q2)
    have q3' : ¬ v3 < 0 := fun z => q3 (by
      rw [Int32.lt_iff_toInt_lt] at z ⊢
      have e0 : (0 : Int32).toInt = 0 := rfl
      have e1 : (1 : Int32).toInt = 1 := rfl
      omega)
    obtain ⟨n, hn, en⟩ := nI_of2 (M := nI 60) (n := 60) rfl q3' (i_nlt.mp q4)
    subst e ea en
    rw [er, nI_clamp (show a < 2 ^ 31 by omega), nI_clamp (show n < 2 ^ 31 by omega)] at h
    have han : a + n ≤ 1000 := by
      have : nI (a + n) ≤ nI 1000 := by rw [← nI_add]; exact q5
      exact (nI_leI (by omega) (by omega)).mp this
    simp only at h
    have hsz := hw.szl
    have hnl := hw.nl
    have hK := hw.1
    have hgr : gr (vf A r) a n ≤ 1000 := by unfold gr; split <;> omega
    have outs : ¬ (aK (vf A r) = 2 ∧ gr (vf A r) a n ≤ 50 - (aM (vf A r)).length) → fx_Go G (4, 60) mm_M_writeOutside 0 [(0, fx_r G 85), (1, .int (nI r)), (2, .int (nI a)), (3, .int (nI n)), (4, .int v4)] [] (fx_wI S J) (fx_qi (fun x4 S3 => shM S3 ∧ fx_qi F Q (.inl (some (.int x4))) S3) (fx_qi F Q)) := by
      intro z
      rw [if_neg z] at h
      refine cM_writeOutside hS hM hB ho r hr hR hw hs1 a n v4 ha hn han h0 (fun y I' kk m c => ⟨hS, ?_⟩) (fun p y hk I' kk m c => ⟨hS, ?_⟩) (fun p y hk I' kk m c => ⟨hS, ?_⟩)
      · rw [y] at h; exact h I' kk m c
      · rw [y] at h
        simp only at h
        rw [if_pos hk] at h
        exact h I' kk m c
      · rw [y] at h
        simp only at h
        rw [if_neg (by rw [hk]; decide)] at h
        exact h I' kk m c
    have go99 : ∀ z0 : Int32, z0 = nI (gr (vf A r) a n) → fx_Go G (5, 82) mm_M_write 99 [(0, fx_r G 85), (1, .int (nI r)), (2, .int (nI a)), (3, .int (nI n)), (4, .int v4), (6, .int (nI (sz (vf A r))))] [.int z0] (fx_wI S J) (fx_qi F Q) := by
      intro z0 ez
      subst ez
      refine bs_M_write_99 hS.w _ _ _ _ _ _ ?_
      refine cM_isInside hS hM.1 r hR hr hw ⟨hS, ?_⟩ rfl
      refine b0 (fun z => outs (fun y => of_decide_eq_false z y.1)) (fun z => ?_)
      have k2 := of_decide_eq_true z
      refine cM_nameLength hS hM.1 r hR hr hw ⟨hS, ?_⟩ rfl
      refine pk_le (gr (vf A r) a n) (50 - (aM (vf A r)).length) (fun y => ?_) (fun y => outs (fun x => by omega)) rfl (by rw [show (50 : Int32) = nI 50 from rfl, pk_sub (by omega)]) (by omega) (by omega)
      refine cM_attribute hS hM.1 r 2 hR hr hw (by omega) ⟨hS, ?_⟩ rfl rfl
      rw [atR_e hw k2, if_pos ⟨k2, y⟩] at *
      rw [show nI (10 + (nmA (aM (vf A r))).length) + 2 = nI (10 + (nmA (aM (vf A r))).length + 2) by rw [show (2 : Int32) = nI 2 from rfl, nI_add]]
      refine cM_w145 hS hM hB ho r hr hR hw hs1 k2 a n v4 ha hn y h0 (fun hk I' kk m c => ?_) (fun hk I' kk m c => ?_) (gr (vf A r) a n) 0 J (by omega) (Fr.rfl' _ _ _) (fun j hj => absurd hj (by omega)) rfl
      · rw [if_pos hk] at h; exact h I' kk m c
      · rw [if_neg (by rw [hk]; decide)] at h; exact h I' kk m c
    refine cM_sizeOf hS hM.1 r hR hr hw hs1 ⟨hS, ?_⟩ rfl
    refine pk_le (a + n) (sz (vf A r)) (fun z => go99 _ ?_) (fun z => go99 _ ?_) (nI_add a n) rfl (by omega) (by omega)
    · unfold gr; rw [if_pos z]
    · unfold gr; rw [if_neg (by omega)]; exact nI_add a n
  · rw [if_pos ho] at h
    exact cM_refuse hS 1 ⟨hS, h _ (sc0 J _).k (hM.keep (sc0 J _)) rfl⟩ rfl
end MWRI3
