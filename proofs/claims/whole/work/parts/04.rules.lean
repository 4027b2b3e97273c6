section FXR
variable {G : fx_G} {d : Nat × Nat} {M : fx_M} {pc n : Nat} {L L' : List (Nat × Value)} {st : List Value} {S : fx_S} {Q : fx_R → fx_S → Prop}
theorem fx_iconst {k : Int} {v : Int32} (hd : decode M.2.1 pc = .ok (.iconst k, 1)) (hv : Int32.ofInt k = v) (hn : pc + 1 = n) (kk : fx_Go G d M n L (.int v :: st) S Q) : fx_Go G d M pc L st S Q := by
  subst hn
  intro p l e R s m args below meth c H locs cells slots ls hC hH hB hl
  exact lv_iconst hC.x hC.cc hd hv (kk p l e R s m args below meth c H locs cells slots ls hC hH hB hl)
theorem fx_bipush {k : Int} {v : Int32} (hd : decode M.2.1 pc = .ok (.bipush k, 2)) (hv : (Int8.ofInt k).toInt32 = v) (hn : pc + 2 = n) (kk : fx_Go G d M n L (.int v :: st) S Q) : fx_Go G d M pc L st S Q := by
  subst hn
  intro p l e R s m args below meth c H locs cells slots ls hC hH hB hl
  exact lv_bipush hC.x hC.cc hd hv (kk p l e R s m args below meth c H locs cells slots ls hC hH hB hl)
theorem fx_sipush {k : Int} {v : Int32} (hd : decode M.2.1 pc = .ok (.sipush k, 3)) (hv : (Int16.ofInt k).toInt32 = v) (hn : pc + 3 = n) (kk : fx_Go G d M n L (.int v :: st) S Q) : fx_Go G d M pc L st S Q := by
  subst hn
  intro p l e R s m args below meth c H locs cells slots ls hC hH hB hl
  exact lv_sipush hC.x hC.cc hd hv (kk p l e R s m args below meth c H locs cells slots ls hC hH hB hl)
theorem fx_iload_n {k : Fin 4} {i : Nat} {x : Int32} (hd : decode M.2.1 pc = .ok (.iload_n k, 1)) (hi : (k : Nat) = i) (q : Nat) (hq : L[q]? = some (i, .int x)) (hn : pc + 1 = n) (kk : fx_Go G d M n L (.int x :: st) S Q) : fx_Go G d M pc L st S Q := by
  subst hn
  intro p l e R s m args below meth c H locs cells slots ls hC hH hB hl
  exact lv_iload_n hC.x hC.cc hd hi (lv_at hl q hq) (kk p l e R s m args below meth c H locs cells slots ls hC hH hB hl)
theorem fx_iload {i : Nat} {x : Int32} (hd : decode M.2.1 pc = .ok (.iload i, 2)) (q : Nat) (hq : L[q]? = some (i, .int x)) (hn : pc + 2 = n) (kk : fx_Go G d M n L (.int x :: st) S Q) : fx_Go G d M pc L st S Q := by
  subst hn
  intro p l e R s m args below meth c H locs cells slots ls hC hH hB hl
  exact lv_iload hC.x hC.cc hd (lv_at hl q hq) (kk p l e R s m args below meth c H locs cells slots ls hC hH hB hl)
theorem fx_aload_n {k : Fin 4} {i x : Nat} (hd : decode M.2.1 pc = .ok (.aload_n k, 1)) (hi : (k : Nat) = i) (q : Nat) (hq : L[q]? = some (i, .ref x)) (hn : pc + 1 = n) (kk : fx_Go G d M n L (.ref x :: st) S Q) : fx_Go G d M pc L st S Q := by
  subst hn
  intro p l e R s m args below meth c H locs cells slots ls hC hH hB hl
  exact lv_aload_n hC.x hC.cc hd hi (lv_at hl q hq) (kk p l e R s m args below meth c H locs cells slots ls hC hH hB hl)
theorem fx_aload {i x : Nat} (hd : decode M.2.1 pc = .ok (.aload i, 2)) (q : Nat) (hq : L[q]? = some (i, .ref x)) (hn : pc + 2 = n) (kk : fx_Go G d M n L (.ref x :: st) S Q) : fx_Go G d M pc L st S Q := by
  subst hn
  intro p l e R s m args below meth c H locs cells slots ls hC hH hB hl
  exact lv_aload hC.x hC.cc hd (lv_at hl q hq) (kk p l e R s m args below meth c H locs cells slots ls hC hH hB hl)
theorem fx_istore_n {k : Fin 4} {i : Nat} {x : Int32} (hd : decode M.2.1 pc = .ok (.istore_n k, 1)) (hi : (k : Nat) = i) (hb : i < M.2.2.1) (hL : (i, Value.int x) :: L.filter (fun q => !(q.1 == i) && !(q.1 + 1 == i && q.2.category == 2)) = L') (hn : pc + 1 = n) (kk : fx_Go G d M n L' st S Q) : fx_Go G d M pc L (.int x :: st) S Q := by
  subst hn
  intro p l e R s m args below meth c H locs cells slots ls hC hH hB hl
  exact lv_istore_n hC.x hC.cc hd hi hl hb hL (fun ls1 hl1 => kk p l e R s m args below meth c H locs cells slots ls1 hC hH hB hl1)
theorem fx_istore {i : Nat} {x : Int32} (hd : decode M.2.1 pc = .ok (.istore i, 2)) (hb : i < M.2.2.1) (hL : (i, Value.int x) :: L.filter (fun q => !(q.1 == i) && !(q.1 + 1 == i && q.2.category == 2)) = L') (hn : pc + 2 = n) (kk : fx_Go G d M n L' st S Q) : fx_Go G d M pc L (.int x :: st) S Q := by
  subst hn
  intro p l e R s m args below meth c H locs cells slots ls hC hH hB hl
  exact lv_istore hC.x hC.cc hd hl hb hL (fun ls1 hl1 => kk p l e R s m args below meth c H locs cells slots ls1 hC hH hB hl1)
theorem fx_astore_n {k : Fin 4} {i : Nat} {x : Nat} (hd : decode M.2.1 pc = .ok (.astore_n k, 1)) (hi : (k : Nat) = i) (hb : i < M.2.2.1) (hL : (i, Value.ref x) :: L.filter (fun q => !(q.1 == i) && !(q.1 + 1 == i && q.2.category == 2)) = L') (hn : pc + 1 = n) (kk : fx_Go G d M n L' st S Q) : fx_Go G d M pc L (.ref x :: st) S Q := by
  subst hn
  intro p l e R s m args below meth c H locs cells slots ls hC hH hB hl
  exact lv_astore_n hC.x hC.cc hd hi hl hb hL (fun ls1 hl1 => kk p l e R s m args below meth c H locs cells slots ls1 hC hH hB hl1)
theorem fx_astore {i : Nat} {x : Nat} (hd : decode M.2.1 pc = .ok (.astore i, 2)) (hb : i < M.2.2.1) (hL : (i, Value.ref x) :: L.filter (fun q => !(q.1 == i) && !(q.1 + 1 == i && q.2.category == 2)) = L') (hn : pc + 2 = n) (kk : fx_Go G d M n L' st S Q) : fx_Go G d M pc L (.ref x :: st) S Q := by
  subst hn
  intro p l e R s m args below meth c H locs cells slots ls hC hH hB hl
  exact lv_astore hC.x hC.cc hd hl hb hL (fun ls1 hl1 => kk p l e R s m args below meth c H locs cells slots ls1 hC hH hB hl1)
theorem fx_iinc {i : Nat} {k : Int} {x v : Int32} (hd : decode M.2.1 pc = .ok (.iinc i k, 3)) (q : Nat) (hq : L[q]? = some (i, .int x)) (hv : x + Int32.ofInt k = v) (hb : i < M.2.2.1) (hL : (i, Value.int v) :: L.filter (fun q => !(q.1 == i) && !(q.1 + 1 == i && q.2.category == 2)) = L') (hn : pc + 3 = n) (kk : fx_Go G d M n L' st S Q) : fx_Go G d M pc L st S Q := by
  subst hn
  intro p l e R s m args below meth c H locs cells slots ls hC hH hB hl
  exact lv_iinc hC.x hC.cc hd hl hq hv hb hL (fun ls1 hl1 => kk p l e R s m args below meth c H locs cells slots ls1 hC hH hB hl1)
theorem fx_iadd {x y : Int32} (hd : decode M.2.1 pc = .ok (.iadd, 1)) (hn : pc + 1 = n) (kk : fx_Go G d M n L (.int (x + y) :: st) S Q) : fx_Go G d M pc L (.int y :: .int x :: st) S Q := by
  subst hn
  intro p l e R s m args below meth c H locs cells slots ls hC hH hB hl
  exact lv_iadd hC.x hC.cc hd (kk p l e R s m args below meth c H locs cells slots ls hC hH hB hl)
theorem fx_isub {x y : Int32} (hd : decode M.2.1 pc = .ok (.isub, 1)) (hn : pc + 1 = n) (kk : fx_Go G d M n L (.int (x - y) :: st) S Q) : fx_Go G d M pc L (.int y :: .int x :: st) S Q := by
  subst hn
  intro p l e R s m args below meth c H locs cells slots ls hC hH hB hl
  exact lv_isub hC.x hC.cc hd (kk p l e R s m args below meth c H locs cells slots ls hC hH hB hl)
theorem fx_imul {x y : Int32} (hd : decode M.2.1 pc = .ok (.imul, 1)) (hn : pc + 1 = n) (kk : fx_Go G d M n L (.int (x * y) :: st) S Q) : fx_Go G d M pc L (.int y :: .int x :: st) S Q := by
  subst hn
  intro p l e R s m args below meth c H locs cells slots ls hC hH hB hl
  exact lv_imul hC.x hC.cc hd (kk p l e R s m args below meth c H locs cells slots ls hC hH hB hl)
theorem fx_iand {x y : Int32} (hd : decode M.2.1 pc = .ok (.iand, 1)) (hn : pc + 1 = n) (kk : fx_Go G d M n L (.int (x &&& y) :: st) S Q) : fx_Go G d M pc L (.int y :: .int x :: st) S Q := by
  subst hn
  intro p l e R s m args below meth c H locs cells slots ls hC hH hB hl
  exact lv_iand hC.x hC.cc hd (kk p l e R s m args below meth c H locs cells slots ls hC hH hB hl)
theorem fx_ior {x y : Int32} (hd : decode M.2.1 pc = .ok (.ior, 1)) (hn : pc + 1 = n) (kk : fx_Go G d M n L (.int (x ||| y) :: st) S Q) : fx_Go G d M pc L (.int y :: .int x :: st) S Q := by
  subst hn
  intro p l e R s m args below meth c H locs cells slots ls hC hH hB hl
  exact lv_ior hC.x hC.cc hd (kk p l e R s m args below meth c H locs cells slots ls hC hH hB hl)
theorem fx_ishr {x y : Int32} (hd : decode M.2.1 pc = .ok (.ishr, 1)) (hn : pc + 1 = n) (kk : fx_Go G d M n L (.int (x >>> (y &&& 31)) :: st) S Q) : fx_Go G d M pc L (.int y :: .int x :: st) S Q := by
  subst hn
  intro p l e R s m args below meth c H locs cells slots ls hC hH hB hl
  exact lv_ishr hC.x hC.cc hd (kk p l e R s m args below meth c H locs cells slots ls hC hH hB hl)
theorem fx_idiv {x y : Int32} (hd : decode M.2.1 pc = .ok (.idiv, 1)) (hne : ¬ y = 0) (hn : pc + 1 = n) (kk : fx_Go G d M n L (.int (x / y) :: st) S Q) : fx_Go G d M pc L (.int y :: .int x :: st) S Q := by
  subst hn
  intro p l e R s m args below meth c H locs cells slots ls hC hH hB hl
  exact lv_idiv hC.x hC.cc hd hne (kk p l e R s m args below meth c H locs cells slots ls hC hH hB hl)
theorem fx_irem {x y : Int32} (hd : decode M.2.1 pc = .ok (.irem, 1)) (hne : ¬ y = 0) (hn : pc + 1 = n) (kk : fx_Go G d M n L (.int (x - x / y * y) :: st) S Q) : fx_Go G d M pc L (.int y :: .int x :: st) S Q := by
  subst hn
  intro p l e R s m args below meth c H locs cells slots ls hC hH hB hl
  exact lv_irem hC.x hC.cc hd hne (kk p l e R s m args below meth c H locs cells slots ls hC hH hB hl)
theorem fx_i2l {x : Int32} (hd : decode M.2.1 pc = .ok (.i2l, 1)) (hn : pc + 1 = n) (kk : fx_Go G d M n L (.long x.toInt64 :: st) S Q) : fx_Go G d M pc L (.int x :: st) S Q := by
  subst hn
  intro p l e R s m args below meth c H locs cells slots ls hC hH hB hl
  exact lv_i2l hC.x hC.cc hd rfl (kk p l e R s m args below meth c H locs cells slots ls hC hH hB hl)
theorem fx_i2c {x : Int32} (hd : decode M.2.1 pc = .ok (.i2c, 1)) (hn : pc + 1 = n) (kk : fx_Go G d M n L (.int (x.toUInt32 % 65536).toInt32 :: st) S Q) : fx_Go G d M pc L (.int x :: st) S Q := by
  subst hn
  intro p l e R s m args below meth c H locs cells slots ls hC hH hB hl
  exact lv_i2c hC.x hC.cc hd rfl (kk p l e R s m args below meth c H locs cells slots ls hC hH hB hl)
theorem fx_lcmp {x y : Int64} (hd : decode M.2.1 pc = .ok (.lcmp, 1)) (hn : pc + 1 = n) (kk : fx_Go G d M n L (.int (lg_cmp x y) :: st) S Q) : fx_Go G d M pc L (.long y :: .long x :: st) S Q := by
  subst hn
  intro p l e R s m args below meth c H locs cells slots ls hC hH hB hl
  exact W.lcmp hC.x hC.cc hd (kk p l e R s m args below meth c H locs cells slots ls hC hH hB hl)
theorem fx_dup {va : Value} (hd : decode M.2.1 pc = .ok (.dup, 1)) (hva : va.category = 1) (hn : pc + 1 = n) (kk : fx_Go G d M n L (va :: va :: st) S Q) : fx_Go G d M pc L (va :: st) S Q := by
  subst hn
  intro p l e R s m args below meth c H locs cells slots ls hC hH hB hl
  exact lv_dup hC.x hC.cc hd hva (kk p l e R s m args below meth c H locs cells slots ls hC hH hB hl)
theorem fx_pop {va : Value} (hd : decode M.2.1 pc = .ok (.pop, 1)) (hva : va.category = 1) (hn : pc + 1 = n) (kk : fx_Go G d M n L st S Q) : fx_Go G d M pc L (va :: st) S Q := by
  subst hn
  intro p l e R s m args below meth c H locs cells slots ls hC hH hB hl
  exact lv_pop hC.x hC.cc hd hva (kk p l e R s m args below meth c H locs cells slots ls hC hH hB hl)
theorem fx_dup2 {va vb : Value} (hd : decode M.2.1 pc = .ok (.dup2, 1)) (hva : va.category = 1) (hvb : vb.category = 1) (hn : pc + 1 = n) (kk : fx_Go G d M n L (va :: vb :: va :: vb :: st) S Q) : fx_Go G d M pc L (va :: vb :: st) S Q := by
  subst hn
  intro p l e R s m args below meth c H locs cells slots ls hC hH hB hl
  exact lv_dup2_11 hC.x hC.cc hd hva hvb (kk p l e R s m args below meth c H locs cells slots ls hC hH hB hl)
theorem fx_dup_x1 {va vb : Value} (hd : decode M.2.1 pc = .ok (.dup_x1, 1)) (hva : va.category = 1) (hvb : vb.category = 1) (hn : pc + 1 = n) (kk : fx_Go G d M n L (va :: vb :: va :: st) S Q) : fx_Go G d M pc L (va :: vb :: st) S Q := by
  subst hn
  intro p l e R s m args below meth c H locs cells slots ls hC hH hB hl
  exact lv_dup_x1 hC.x hC.cc hd hva hvb (kk p l e R s m args below meth c H locs cells slots ls hC hH hB hl)
theorem fx_if_eq {x : Int32} {off : Int} {tg : Nat} (hd : decode M.2.1 pc = .ok (.ifCond .eq off, 3)) (ht : (pc : Int) + off = (tg : Int)) (hn : pc + 3 = n) (kt : x = 0 → fx_Go G d M tg L st S Q) (kf : ¬ x = 0 → fx_Go G d M n L st S Q) : fx_Go G d M pc L (.int x :: st) S Q := by
  subst hn
  intro p l e R s m args below meth c H locs cells slots ls hC hH hB hl
  exact lv_if_eq hC.x hC.cc hd ht (fun h => kt h p l e R s m args below meth c H locs cells slots ls hC hH hB hl) (fun h => kf h p l e R s m args below meth c H locs cells slots ls hC hH hB hl)
theorem fx_icmp_eq {x y : Int32} {off : Int} {tg : Nat} (hd : decode M.2.1 pc = .ok (.if_icmp .eq off, 3)) (ht : (pc : Int) + off = (tg : Int)) (hn : pc + 3 = n) (kt : x = y → fx_Go G d M tg L st S Q) (kf : ¬ x = y → fx_Go G d M n L st S Q) : fx_Go G d M pc L (.int y :: .int x :: st) S Q := by
  subst hn
  intro p l e R s m args below meth c H locs cells slots ls hC hH hB hl
  exact lv_icmp_eq hC.x hC.cc hd ht (fun h => kt h p l e R s m args below meth c H locs cells slots ls hC hH hB hl) (fun h => kf h p l e R s m args below meth c H locs cells slots ls hC hH hB hl)
theorem fx_if_ne {x : Int32} {off : Int} {tg : Nat} (hd : decode M.2.1 pc = .ok (.ifCond .ne off, 3)) (ht : (pc : Int) + off = (tg : Int)) (hn : pc + 3 = n) (kt : ¬ x = 0 → fx_Go G d M tg L st S Q) (kf : x = 0 → fx_Go G d M n L st S Q) : fx_Go G d M pc L (.int x :: st) S Q := by
  subst hn
  intro p l e R s m args below meth c H locs cells slots ls hC hH hB hl
  exact lv_if_ne hC.x hC.cc hd ht (fun h => kt h p l e R s m args below meth c H locs cells slots ls hC hH hB hl) (fun h => kf h p l e R s m args below meth c H locs cells slots ls hC hH hB hl)
theorem fx_icmp_ne {x y : Int32} {off : Int} {tg : Nat} (hd : decode M.2.1 pc = .ok (.if_icmp .ne off, 3)) (ht : (pc : Int) + off = (tg : Int)) (hn : pc + 3 = n) (kt : ¬ x = y → fx_Go G d M tg L st S Q) (kf : x = y → fx_Go G d M n L st S Q) : fx_Go G d M pc L (.int y :: .int x :: st) S Q := by
  subst hn
  intro p l e R s m args below meth c H locs cells slots ls hC hH hB hl
  exact lv_icmp_ne hC.x hC.cc hd ht (fun h => kt h p l e R s m args below meth c H locs cells slots ls hC hH hB hl) (fun h => kf h p l e R s m args below meth c H locs cells slots ls hC hH hB hl)
theorem fx_if_lt {x : Int32} {off : Int} {tg : Nat} (hd : decode M.2.1 pc = .ok (.ifCond .lt off, 3)) (ht : (pc : Int) + off = (tg : Int)) (hn : pc + 3 = n) (kt : x < 0 → fx_Go G d M tg L st S Q) (kf : ¬ x < 0 → fx_Go G d M n L st S Q) : fx_Go G d M pc L (.int x :: st) S Q := by
  subst hn
  intro p l e R s m args below meth c H locs cells slots ls hC hH hB hl
  exact lv_if_lt hC.x hC.cc hd ht (fun h => kt h p l e R s m args below meth c H locs cells slots ls hC hH hB hl) (fun h => kf h p l e R s m args below meth c H locs cells slots ls hC hH hB hl)
theorem fx_icmp_lt {x y : Int32} {off : Int} {tg : Nat} (hd : decode M.2.1 pc = .ok (.if_icmp .lt off, 3)) (ht : (pc : Int) + off = (tg : Int)) (hn : pc + 3 = n) (kt : x < y → fx_Go G d M tg L st S Q) (kf : ¬ x < y → fx_Go G d M n L st S Q) : fx_Go G d M pc L (.int y :: .int x :: st) S Q := by
  subst hn
  intro p l e R s m args below meth c H locs cells slots ls hC hH hB hl
  exact lv_icmp_lt hC.x hC.cc hd ht (fun h => kt h p l e R s m args below meth c H locs cells slots ls hC hH hB hl) (fun h => kf h p l e R s m args below meth c H locs cells slots ls hC hH hB hl)
theorem fx_if_ge {x : Int32} {off : Int} {tg : Nat} (hd : decode M.2.1 pc = .ok (.ifCond .ge off, 3)) (ht : (pc : Int) + off = (tg : Int)) (hn : pc + 3 = n) (kt : 0 ≤ x → fx_Go G d M tg L st S Q) (kf : ¬ 0 ≤ x → fx_Go G d M n L st S Q) : fx_Go G d M pc L (.int x :: st) S Q := by
  subst hn
  intro p l e R s m args below meth c H locs cells slots ls hC hH hB hl
  exact lv_if_ge hC.x hC.cc hd ht (fun h => kt h p l e R s m args below meth c H locs cells slots ls hC hH hB hl) (fun h => kf h p l e R s m args below meth c H locs cells slots ls hC hH hB hl)
theorem fx_icmp_ge {x y : Int32} {off : Int} {tg : Nat} (hd : decode M.2.1 pc = .ok (.if_icmp .ge off, 3)) (ht : (pc : Int) + off = (tg : Int)) (hn : pc + 3 = n) (kt : y ≤ x → fx_Go G d M tg L st S Q) (kf : ¬ y ≤ x → fx_Go G d M n L st S Q) : fx_Go G d M pc L (.int y :: .int x :: st) S Q := by
  subst hn
  intro p l e R s m args below meth c H locs cells slots ls hC hH hB hl
  exact lv_icmp_ge hC.x hC.cc hd ht (fun h => kt h p l e R s m args below meth c H locs cells slots ls hC hH hB hl) (fun h => kf h p l e R s m args below meth c H locs cells slots ls hC hH hB hl)
theorem fx_if_gt {x : Int32} {off : Int} {tg : Nat} (hd : decode M.2.1 pc = .ok (.ifCond .gt off, 3)) (ht : (pc : Int) + off = (tg : Int)) (hn : pc + 3 = n) (kt : 0 < x → fx_Go G d M tg L st S Q) (kf : ¬ 0 < x → fx_Go G d M n L st S Q) : fx_Go G d M pc L (.int x :: st) S Q := by
  subst hn
  intro p l e R s m args below meth c H locs cells slots ls hC hH hB hl
  exact lv_if_gt hC.x hC.cc hd ht (fun h => kt h p l e R s m args below meth c H locs cells slots ls hC hH hB hl) (fun h => kf h p l e R s m args below meth c H locs cells slots ls hC hH hB hl)
theorem fx_icmp_gt {x y : Int32} {off : Int} {tg : Nat} (hd : decode M.2.1 pc = .ok (.if_icmp .gt off, 3)) (ht : (pc : Int) + off = (tg : Int)) (hn : pc + 3 = n) (kt : y < x → fx_Go G d M tg L st S Q) (kf : ¬ y < x → fx_Go G d M n L st S Q) : fx_Go G d M pc L (.int y :: .int x :: st) S Q := by
  subst hn
  intro p l e R s m args below meth c H locs cells slots ls hC hH hB hl
  exact lv_icmp_gt hC.x hC.cc hd ht (fun h => kt h p l e R s m args below meth c H locs cells slots ls hC hH hB hl) (fun h => kf h p l e R s m args below meth c H locs cells slots ls hC hH hB hl)
theorem fx_if_le {x : Int32} {off : Int} {tg : Nat} (hd : decode M.2.1 pc = .ok (.ifCond .le off, 3)) (ht : (pc : Int) + off = (tg : Int)) (hn : pc + 3 = n) (kt : x ≤ 0 → fx_Go G d M tg L st S Q) (kf : ¬ x ≤ 0 → fx_Go G d M n L st S Q) : fx_Go G d M pc L (.int x :: st) S Q := by
  subst hn
  intro p l e R s m args below meth c H locs cells slots ls hC hH hB hl
  exact lv_if_le hC.x hC.cc hd ht (fun h => kt h p l e R s m args below meth c H locs cells slots ls hC hH hB hl) (fun h => kf h p l e R s m args below meth c H locs cells slots ls hC hH hB hl)
theorem fx_icmp_le {x y : Int32} {off : Int} {tg : Nat} (hd : decode M.2.1 pc = .ok (.if_icmp .le off, 3)) (ht : (pc : Int) + off = (tg : Int)) (hn : pc + 3 = n) (kt : x ≤ y → fx_Go G d M tg L st S Q) (kf : ¬ x ≤ y → fx_Go G d M n L st S Q) : fx_Go G d M pc L (.int y :: .int x :: st) S Q := by
  subst hn
  intro p l e R s m args below meth c H locs cells slots ls hC hH hB hl
  exact lv_icmp_le hC.x hC.cc hd ht (fun h => kt h p l e R s m args below meth c H locs cells slots ls hC hH hB hl) (fun h => kf h p l e R s m args below meth c H locs cells slots ls hC hH hB hl)
theorem fx_goto {off : Int} (hd : decode M.2.1 pc = .ok (.goto off, 3)) (ht : (pc : Int) + off = (n : Int)) (kk : fx_Go G d M n L st S Q) : fx_Go G d M pc L st S Q := by
  intro p l e R s m args below meth c H locs cells slots ls hC hH hB hl
  exact lv_goto hC.x hC.cc hd ht (kk p l e R s m args below meth c H locs cells slots ls hC hH hB hl)
theorem fx_sub (ks : List Nat) (hL : lv_pick L ks = L') (kk : fx_Go G d M pc L' st S Q) : fx_Go G d M pc L st S Q := by
  intro p l e R s m args below meth c H locs cells slots ls hC hH hB hl
  exact kk p l e R s m args below meth c H locs cells slots ls hC hH hB (lv_sub hl ks hL)
theorem fx_lookup {dflt : Int} {ps : Array (Int × Int)} {len : Nat} {x : Int32} {off : Int} (hd : decode M.2.1 pc = .ok (.lookupswitch dflt ps, len)) (hp : (ps.toList.zip (ps.toList.drop 1)).all (fun (a, next) => a.1 < next.1) = true) (ho : Op.lookupswitch.offset ps.toList dflt x.toInt = off) (ht : (pc : Int) + off = (n : Int)) (kk : fx_Go G d M n L st S Q) : fx_Go G d M pc L (.int x :: st) S Q := by
  intro p l e R s m args below meth c H locs cells slots ls hC hH hB hl
  exact lv_lookup hC.x hC.cc hd hp ho ht (kk p l e R s m args below meth c H locs cells slots ls hC hH hB hl)
theorem fx_tableOut {dflt lo hi : Int} {offs : Array Int} {len : Nat} {x : Int32} (hd : decode M.2.1 pc = .ok (.tableswitch dflt lo hi offs, len)) (h : x.toInt < lo ∨ hi < x.toInt) (ht : (pc : Int) + dflt = (n : Int)) (kk : fx_Go G d M n L st S Q) : fx_Go G d M pc L (.int x :: st) S Q := by
  intro p l e R s m args below meth c H locs cells slots ls hC hH hB hl
  exact lv_tableOut hC.x hC.cc hd h ht (kk p l e R s m args below meth c H locs cells slots ls hC hH hB hl)
theorem fx_tableIn {dflt lo hi : Int} {offs : Array Int} {len : Nat} {x : Int32} {off : Int} (hd : decode M.2.1 pc = .ok (.tableswitch dflt lo hi offs, len)) (h1 : ¬ x.toInt < lo) (h2 : ¬ hi < x.toInt) (ho : offs[(x.toInt - lo).toNat]? = some off) (ht : (pc : Int) + off = (n : Int)) (kk : fx_Go G d M n L st S Q) : fx_Go G d M pc L (.int x :: st) S Q := by
  intro p l e R s m args below meth c H locs cells slots ls hC hH hB hl
  exact lv_tableIn hC.x hC.cc hd h1 h2 ho ht (kk p l e R s m args below meth c H locs cells slots ls hC hH hB hl)
end FXR
