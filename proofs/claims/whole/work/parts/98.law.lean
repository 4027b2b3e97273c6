def fx_S0 : fx_S := ((0, 0, 0), (fun _ => (0, 0)), (fun _ _ => 0), (fun _ _ => none), fun _ _ => 0)
theorem wh_law (G : fx_G) {b Ln : Nat} {xs : Nat → Int32} (hL : Ln ≤ 2560) (hX : va_X b Ln xs G.1 G.1.heap) (hb : b < fx_B G) : fx_Go G (11, 154) mm_L_law 0 [(0, .ref b)] [] fx_S0 (fun o _ => o = .inl (some (.int 1))) := by
  sorry
