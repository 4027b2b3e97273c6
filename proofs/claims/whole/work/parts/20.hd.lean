theorem dd_A_fill_0 : decode bb_A_fill 0 = .ok (.iconst 0, 1) := by decide +kernel
theorem dd_A_fill_1 : decode bb_A_fill 1 = .ok (.istore_n 2, 1) := by decide +kernel
theorem dd_A_fill_2 : decode bb_A_fill 2 = .ok (.aload_n 0, 1) := by decide +kernel
theorem dd_A_fill_3 : decode bb_A_fill 3 = .ok (.arraylength, 1) := by decide +kernel
theorem dd_A_fill_4 : decode bb_A_fill 4 = .ok (.istore_n 3, 1) := by decide +kernel
theorem dd_A_fill_5 : decode bb_A_fill 5 = .ok (.iload_n 2, 1) := by decide +kernel
theorem dd_A_fill_6 : decode bb_A_fill 6 = .ok (.iload_n 3, 1) := by decide +kernel
theorem dd_A_fill_7 : decode bb_A_fill 7 = .ok (.if_icmp .ge 13, 3) := by decide +kernel
theorem dd_A_fill_10 : decode bb_A_fill 10 = .ok (.aload_n 0, 1) := by decide +kernel
theorem dd_A_fill_11 : decode bb_A_fill 11 = .ok (.iload_n 2, 1) := by decide +kernel
theorem dd_A_fill_12 : decode bb_A_fill 12 = .ok (.iload_n 1, 1) := by decide +kernel
theorem dd_A_fill_13 : decode bb_A_fill 13 = .ok (.iastore, 1) := by decide +kernel
theorem dd_A_fill_14 : decode bb_A_fill 14 = .ok (.iinc 2 1, 3) := by decide +kernel
theorem dd_A_fill_17 : decode bb_A_fill 17 = .ok (.goto (-12), 3) := by decide +kernel
theorem dd_A_fill_20 : decode bb_A_fill 20 = .ok (.return_, 1) := by decide +kernel
/-! the law's own: handlers, the script -/
def fx_qh (F : Int32 → fx_S → Prop) (H : Nat → fx_S → Prop) : fx_R → fx_S → Prop := fun o S => match o with
  | .inl (some (.int r)) => F r S
  | .inr k => H k S
  | _ => False
def fx_qhv (F : fx_S → Prop) (H : Nat → fx_S → Prop) : fx_R → fx_S → Prop := fun o S => match o with
  | .inl none => F S
  | .inr k => H k S
  | _ => False
section FXL
variable {G : fx_G} {d : Nat × Nat} {M : fx_M} {pc n : Nat} {L : List (Nat × Value)} {st : List Value} {S : fx_S} {Q : fx_R → fx_S → Prop}
theorem fx_qh_k {F : Int32 → fx_S → Prop} {H : Nat → fx_S → Prop} {rest : List Value} (hk : ∀ r S', F r S' → fx_Go G d M n L (.int r :: rest) S' Q) : ∀ v S', fx_qh F H (.inl v) S' → fx_Go G d M n L (v.toList ++ rest) S' Q := by
  intro v S' h
  match v, h with
  | some (.int r), h => exact hk r S' h
theorem fx_qhv_k {F : fx_S → Prop} {H : Nat → fx_S → Prop} {rest : List Value} (hk : ∀ S', F S' → fx_Go G d M n L rest S' Q) : ∀ v S', fx_qhv F H (.inl v) S' → fx_Go G d M n L (v.toList ++ rest) S' Q := by
  intro v S' h
  match v, h with
  | none, h => exact hk S' h
theorem fx_sld {b Ln : Nat} {xs : Nat → Int32} {i : Int32} (hd : decode M.2.1 pc = .ok (.iaload, 1)) (hX : va_X b Ln xs G.1 G.1.heap) (hb : b < fx_B G) (hn : pc + 1 = n) (hin : vp_in i Ln) (kk : fx_Go G d M n L (.int (xs i.toNatClampNeg) :: st) S Q) : fx_Go G d M pc L (.int i :: .ref b :: st) S Q := by
  subst hn
  intro p l e R s m args below meth c0 H locs cells slots ls hC hH hB hl
  obtain ⟨scr, h1, h2, h3, h4, h5⟩ := va_X.moved hC.warm.alike hX
  have hlt : i.toNatClampNeg < Ln := Nat.not_le.mp fun q => hin (Or.inr q)
  exact W.iald (v := .int (xs i.toNatClampNeg)) hC.x hC.cc (by rw [hH.2.1 b hb]; exact h1) h2 h3 (by rw [h4]; exact hin) (h5 _ hlt) rfl rfl hd (kk p l e R s m args below meth c0 H locs cells slots ls hC hH hB hl)
theorem fx_slen {b Ln : Nat} {xs : Nat → Int32} (hd : decode M.2.1 pc = .ok (.arraylength, 1)) (hX : va_X b Ln xs G.1 G.1.heap) (hb : b < fx_B G) (hn : pc + 1 = n) (kk : fx_Go G d M n L (.int (Int32.ofNat Ln) :: st) S Q) : fx_Go G d M pc L (.ref b :: st) S Q := by
  subst hn
  intro p l e R s m args below meth c0 H locs cells slots ls hC hH hB hl
  obtain ⟨scr, h1, h2, h3, h4, h5⟩ := va_X.moved hC.warm.alike hX
  exact W.alen (n := Int32.ofNat Ln) hC.x hC.cc (by rw [hH.2.1 b hb]; exact h1) h2 (by rw [h4] <;> rfl) rfl rfl hd (kk p l e R s m args below meth c0 H locs cells slots ls hC hH hB hl)
end FXL
theorem hd_L_create_1 : fx_hd mm_L_create 5 1 13 := ⟨[], (0, 10, 13, 13), [(0, 10, 17, 15), (0, 10, 21, 17)], rfl, by decide, rfl, by decide, wd_306, wd_324, fun _ h => absurd h List.not_mem_nil⟩
theorem hd_L_create_2 : fx_hd mm_L_create 5 2 17 := ⟨[(0, 10, 13, 13)], (0, 10, 17, 15), [(0, 10, 21, 17)], rfl, by decide, rfl, by decide, wd_307, wd_395, List.forall_mem_cons.mpr ⟨⟨by decide, by decide, "java/lang/IllegalStateException", wd_306, by decide +kernel⟩, fun _ h => absurd h List.not_mem_nil⟩⟩
theorem hd_L_create_3 : fx_hd mm_L_create 5 3 21 := ⟨[(0, 10, 13, 13), (0, 10, 17, 15)], (0, 10, 21, 17), [], rfl, by decide, rfl, by decide, wd_308, wd_415, List.forall_mem_cons.mpr ⟨⟨by decide, by decide, "java/lang/IllegalStateException", wd_306, by decide +kernel⟩, List.forall_mem_cons.mpr ⟨⟨by decide, by decide, "java/lang/IllegalArgumentException", wd_307, by decide +kernel⟩, fun _ h => absurd h List.not_mem_nil⟩⟩⟩
theorem hd_L_write_1 : fx_hd mm_L_write 9 1 17 := ⟨[], (0, 14, 17, 13), [(0, 14, 21, 15), (0, 14, 25, 17)], rfl, by decide, rfl, by decide, wd_306, wd_324, fun _ h => absurd h List.not_mem_nil⟩
theorem hd_L_write_2 : fx_hd mm_L_write 9 2 21 := ⟨[(0, 14, 17, 13)], (0, 14, 21, 15), [(0, 14, 25, 17)], rfl, by decide, rfl, by decide, wd_307, wd_395, List.forall_mem_cons.mpr ⟨⟨by decide, by decide, "java/lang/IllegalStateException", wd_306, by decide +kernel⟩, fun _ h => absurd h List.not_mem_nil⟩⟩
theorem hd_L_write_3 : fx_hd mm_L_write 9 3 25 := ⟨[(0, 14, 17, 13), (0, 14, 21, 15)], (0, 14, 25, 17), [], rfl, by decide, rfl, by decide, wd_308, wd_415, List.forall_mem_cons.mpr ⟨⟨by decide, by decide, "java/lang/IllegalStateException", wd_306, by decide +kernel⟩, List.forall_mem_cons.mpr ⟨⟨by decide, by decide, "java/lang/IllegalArgumentException", wd_307, by decide +kernel⟩, fun _ h => absurd h List.not_mem_nil⟩⟩⟩
theorem hd_L_cut_1 : fx_hd mm_L_cut 5 1 13 := ⟨[], (0, 10, 13, 13), [(0, 10, 17, 15)], rfl, by decide, rfl, by decide, wd_306, wd_324, fun _ h => absurd h List.not_mem_nil⟩
theorem hd_L_cut_2 : fx_hd mm_L_cut 5 2 17 := ⟨[(0, 10, 13, 13)], (0, 10, 17, 15), [], rfl, by decide, rfl, by decide, wd_307, wd_395, List.forall_mem_cons.mpr ⟨⟨by decide, by decide, "java/lang/IllegalStateException", wd_306, by decide +kernel⟩, fun _ h => absurd h List.not_mem_nil⟩⟩
theorem hd_L_remove_1 : fx_hd mm_L_remove 4 1 12 := ⟨[], (0, 9, 12, 13), [(0, 9, 15, 15)], rfl, by decide, rfl, by decide, wd_306, wd_324, fun _ h => absurd h List.not_mem_nil⟩
theorem hd_L_remove_2 : fx_hd mm_L_remove 4 2 15 := ⟨[(0, 9, 12, 13)], (0, 9, 15, 15), [], rfl, by decide, rfl, by decide, wd_307, wd_395, List.forall_mem_cons.mpr ⟨⟨by decide, by decide, "java/lang/IllegalStateException", wd_306, by decide +kernel⟩, fun _ h => absurd h List.not_mem_nil⟩⟩
theorem hd_L_move_1 : fx_hd mm_L_move 3 1 9 := ⟨[], (0, 6, 9, 13), [(0, 6, 12, 15)], rfl, by decide, rfl, by decide, wd_306, wd_324, fun _ h => absurd h List.not_mem_nil⟩
theorem hd_L_move_2 : fx_hd mm_L_move 3 2 12 := ⟨[(0, 6, 9, 13)], (0, 6, 12, 15), [], rfl, by decide, rfl, by decide, wd_307, wd_395, List.forall_mem_cons.mpr ⟨⟨by decide, by decide, "java/lang/IllegalStateException", wd_306, by decide +kernel⟩, fun _ h => absurd h List.not_mem_nil⟩⟩
theorem hd_L_mount_1 : fx_hd mm_L_mount 3 1 11 := ⟨[], (0, 8, 11, 13), [], rfl, by decide, rfl, by decide, wd_306, wd_324, fun _ h => absurd h List.not_mem_nil⟩
