/-! ===== printed by wip/p31/tr.py out of the listing ===== -/
def f_L_cell (L : Nat) (xsc : Nat → Int32) (x1 : Int32) (m : Mem) : Option (Int32 × Mem) :=
  if (Int32.ofNat L) ≤ x1 then
    some (((747796405 : Int32) * (x1 + (1 : Int32))), m)
  else
    if inB x1 L = true then
      some ((xsc (ix x1)), m)
    else none
theorem g_L_cell {X : XT} (h : MX X method_2_code P_L 0 (some .int)) (x1 : Int32) (m : Mem) : Go X (Em X puI) 0 [some (.inr (.inr (60, 0))), some (.inl x1)] [] m (f_L_cell (xL X) (xx X) x1 m) := by
  unfold f_L_cell
  refine go_blk h.1 (is := [.iload_n 1, .aload_n 0]) (pc' := 2) (ls' := [some (.inr (.inr (60, 0))), some (.inl x1)]) (st' := [.inr (.inr (60, 0)), .inl x1]) (m' := m) (by decide +kernel) rfl ?_
  refine go_slen h.1 (by decide +kernel) ?_
  show Go X (Em X puI) 3 [some (.inr (.inr (60, 0))), some (.inl x1)] [.inl (Int32.ofNat (xL X)), .inl x1] m _
  refine go_icmpge h.1 (off := 9) 12 (by decide +kernel) (by decide) (fun c3 => ?_) (fun c3 => ?_)
  · refine go_blk h.1 (is := [.ldc 7, .iload_n 1, .iconst 1, .iadd, .imul]) (pc' := 18) (ls' := [some (.inr (.inr (60, 0))), some (.inl x1)]) (st' := [.inl ((747796405 : Int32) * (x1 + (1 : Int32)))]) (m' := m) (by decide +kernel) rfl ?_
    exact go_iret h.1 h.2.2.2.2 (by decide +kernel)
  · refine go_blk h.1 (is := [.aload_n 0, .iload_n 1]) (pc' := 8) (ls' := [some (.inr (.inr (60, 0))), some (.inl x1)]) (st' := [.inl x1, .inr (.inr (60, 0))]) (m' := m) (by decide +kernel) rfl ?_
    refine go_sld h.1 (by decide +kernel) (fun b8 => ?_)
    show Go X (Em X puI) 9 [some (.inr (.inr (60, 0))), some (.inl x1)] [.inl ((xx X) (ix x1))] m _
    refine go_goto h.1 (off := 9) 18 (by decide +kernel) (by decide) ?_
    exact go_iret h.1 h.2.2.2.2 (by decide +kernel)
theorem ctr_L_cell (Z : ZT) (x1 : Int32) (m : Mem) : Ctr Z yL_cell method_2_code 2 (some .int) 0 puI [.inr (.inr (60, 0)), .inl x1] m (f_L_cell (zL Z) (zx Z) x1 m) :=
  ctr_of (P := P_L) (by decide +kernel) rfl pt_L rfl rfl (fun X hC hZ hR h0 h1 hr => by subst hZ; exact g_L_cell ⟨hC, hR, h0, h1, hr⟩ x1 m)

def f_L_some (L : Nat) (xsc : Nat → Int32) (x0 : Int32) (x1 : Int32) (m : Mem) : Option (Int32 × Mem) :=
  if ¬ x1 = 0 then dv ((x0 &&& (2147483647 : Int32)) - (x0 &&& (2147483647 : Int32)) / x1 * x1) (fun q5 =>
    some (q5, m))
  else none
theorem g_L_some {X : XT} (h : MX X method_3_code P_L 0 (some .int)) (x0 : Int32) (x1 : Int32) (m : Mem) : Go X (Em X puI) 0 [some (.inl x0), some (.inl x1)] [] m (f_L_some (xL X) (xx X) x0 x1 m) := by
  unfold f_L_some
  refine go_blk h.1 (is := [.iload_n 0, .ldc 8, .iand, .iload_n 1]) (pc' := 5) (ls' := [some (.inl x0), some (.inl x1)]) (st' := [.inl x1, .inl (x0 &&& (2147483647 : Int32))]) (m' := m) (by decide +kernel) rfl ?_
  refine go_irem h.1 (by decide +kernel) (fun z5 q5 _ => ?_)
  exact go_iret h.1 h.2.2.2.2 (by decide +kernel)
theorem ctr_L_some (Z : ZT) (x0 : Int32) (x1 : Int32) (m : Mem) : Ctr Z yL_some method_3_code 2 (some .int) 0 puI [.inl x0, .inl x1] m (f_L_some (zL Z) (zx Z) x0 x1 m) :=
  ctr_of (P := P_L) (by decide +kernel) rfl pt_L rfl rfl (fun X hC hZ hR h0 h1 hr => by subst hZ; exact g_L_some ⟨hC, hR, h0, h1, hr⟩ x0 x1 m)

def f_L_put_b317 (L : Nat) (xsc : Nat → Int32) (x2 : Int32) (x5 : Int32) (x7 : Int32) (next : Int32 × Int32 × Mem → Option (Int32 × Mem)) (exit : Int32 × Mem → Option (Int32 × Mem)) (s : Int32 × Int32 × Mem) : Option (Int32 × Mem) :=
  if (5 : Int32) ≤ s.2.1 then
    exit (s.1, s.2.2)
  else
    if inB (((3 : Int32) + ((5 : Int32) * s.2.1)) + x7) 28 = true then
      bnd (f_X6_put (0 : Int32) s.1 ((48 : Int32) + (s.2.2 70 0 (ix (((3 : Int32) + ((5 : Int32) * s.2.1)) + x7)))) s.2.2) (fun r345 m345 =>
        if r345 = (1 : Int32) then
          next ((s.1 + (1 : Int32)), (s.2.1 + (1 : Int32)), m345)
        else
          some ((-99 : Int32), m345))
    else none
theorem g_L_put_b317 {X : XT} (h : MX X method_4_code P_L 3 (some .int)) (x2 : Int32) (x5 : Int32) (x7 : Int32) (next : Int32 × Int32 × Mem → Option (Int32 × Mem)) (exit : Int32 × Mem → Option (Int32 × Mem)) (hn : ∀ (y6 : Int32) (y9 : Int32) (n : Mem) (o3 : Option AV) (o8 : Option AV), Go X (Em X puI) 317 [some (.inr (.inr (0, 0))), some (.inr (.inr (60, 0))), some (.inl x2), o3, some (.inr (.inr (70, 0))), some (.inl x5), some (.inl y6), some (.inl x7), o8, some (.inl y9)] [] n (next (y6, y9, n))) (hx : ∀ (y6 : Int32) (n : Mem) (o3 : Option AV) (o8 : Option AV) (o9 : Option AV), Go X (Em X puI) 361 [some (.inr (.inr (0, 0))), some (.inr (.inr (60, 0))), some (.inl x2), o3, some (.inr (.inr (70, 0))), some (.inl x5), some (.inl y6), some (.inl x7), o8, o9] [] n (exit (y6, n))) (s : Int32 × Int32 × Mem) (o3 : Option AV) (o8 : Option AV) : Go X (Em X puI) 317 [some (.inr (.inr (0, 0))), some (.inr (.inr (60, 0))), some (.inl x2), o3, some (.inr (.inr (70, 0))), some (.inl x5), some (.inl s.1), some (.inl x7), o8, some (.inl s.2.1)] [] s.2.2 (f_L_put_b317 (xL X) (xx X) x2 x5 x7 next exit s) := by
  unfold f_L_put_b317
  refine go_blk h.1 (is := [.iload 9, .iconst 5]) (pc' := 320) (ls' := [some (.inr (.inr (0, 0))), some (.inr (.inr (60, 0))), some (.inl x2), o3, some (.inr (.inr (70, 0))), some (.inl x5), some (.inl s.1), some (.inl x7), o8, some (.inl s.2.1)]) (st' := [.inl (5 : Int32), .inl s.2.1]) (m' := s.2.2) (by decide +kernel) rfl ?_
  refine go_icmpge h.1 (off := 41) 361 (by decide +kernel) (by decide) (fun c320 => ?_) (fun c320 => ?_)
  · exact hx s.1 s.2.2 (o3) (o8) (some (.inl s.2.1))
  · refine go_blk h.1 (is := [.aload_n 0, .iconst 0, .iload 6, .iinc 6 1, .bipush 48, .aload 4, .iconst 3, .iconst 5, .iload 9, .imul, .iadd, .iload 7, .iadd]) (pc' := 343) (ls' := [some (.inr (.inr (0, 0))), some (.inr (.inr (60, 0))), some (.inl x2), o3, some (.inr (.inr (70, 0))), some (.inl x5), some (.inl (s.1 + (1 : Int32))), some (.inl x7), o8, some (.inl s.2.1)]) (st' := [.inl (((3 : Int32) + ((5 : Int32) * s.2.1)) + x7), .inr (.inr (70, 0)), .inl (48 : Int32), .inl s.1, .inl (0 : Int32), .inr (.inr (0, 0))]) (m' := s.2.2) (by decide +kernel) rfl ?_
    refine go_iald h.1 (by decide +kernel) rfl rfl (fun b343 => ?_)
    show Go X (Em X puI) 344 [some (.inr (.inr (0, 0))), some (.inr (.inr (60, 0))), some (.inl x2), o3, some (.inr (.inr (70, 0))), some (.inl x5), some (.inl (s.1 + (1 : Int32))), some (.inl x7), o8, some (.inl s.2.1)] [.inl (s.2.2 70 0 (ix (((3 : Int32) + ((5 : Int32) * s.2.1)) + x7))), .inl (48 : Int32), .inl s.1, .inl (0 : Int32), .inr (.inr (0, 0))] s.2.2 _
    refine go_blk h.1 (is := [.iadd]) (pc' := 345) (ls' := [some (.inr (.inr (0, 0))), some (.inr (.inr (60, 0))), some (.inl x2), o3, some (.inr (.inr (70, 0))), some (.inl x5), some (.inl (s.1 + (1 : Int32))), some (.inl x7), o8, some (.inl s.2.1)]) (st' := [.inl ((48 : Int32) + (s.2.2 70 0 (ix (((3 : Int32) + ((5 : Int32) * s.2.1)) + x7)))), .inl s.1, .inl (0 : Int32), .inr (.inr (0, 0))]) (m' := s.2.2) (by decide +kernel) rfl ?_
    refine go_callV h.1 (index := 25) (n := 3) (t := 0) (i := 0) (ci := 6) (nf := 7) (cz := (RX6, TX6, 7)) (as := [.inl (0 : Int32), .inl s.1, .inl ((48 : Int32) + (s.2.2 70 0 (ix (((3 : Int32) + ((5 : Int32) * s.2.1)) + x7))))]) (rest := []) (ctr_X6_put (xZ X) (0 : Int32) s.1 ((48 : Int32) + (s.2.2 70 0 (ix (((3 : Int32) + ((5 : Int32) * s.2.1)) + x7)))) s.2.2) (by decide +kernel) rfl rfl wd_v_L_25 rfl (h.room (by first | decide | omega) (by decide)) h.cl (Nat.le_of_ble_eq_true rfl) puI_ok rfl (fun r345 m345 _ => ?_)
    show Go X (Em X puI) 348 [some (.inr (.inr (0, 0))), some (.inr (.inr (60, 0))), some (.inl x2), o3, some (.inr (.inr (70, 0))), some (.inl x5), some (.inl (s.1 + (1 : Int32))), some (.inl x7), o8, some (.inl s.2.1)] [.inl r345] m345 _
    refine go_blk h.1 (is := [.iconst 1]) (pc' := 349) (ls' := [some (.inr (.inr (0, 0))), some (.inr (.inr (60, 0))), some (.inl x2), o3, some (.inr (.inr (70, 0))), some (.inl x5), some (.inl (s.1 + (1 : Int32))), some (.inl x7), o8, some (.inl s.2.1)]) (st' := [.inl (1 : Int32), .inl r345]) (m' := m345) (by decide +kernel) rfl ?_
    refine go_icmpeq h.1 (off := 6) 355 (by decide +kernel) (by decide) (fun c349 => ?_) (fun c349 => ?_)
    · refine go_blk h.1 (is := [.iinc 9 1]) (pc' := 358) (ls' := [some (.inr (.inr (0, 0))), some (.inr (.inr (60, 0))), some (.inl x2), o3, some (.inr (.inr (70, 0))), some (.inl x5), some (.inl (s.1 + (1 : Int32))), some (.inl x7), (clrL o8), some (.inl (s.2.1 + (1 : Int32)))]) (st' := []) (m' := m345) (by decide +kernel) rfl ?_
      refine go_goto h.1 (off := -41) 317 (by decide +kernel) (by decide) ?_
      exact hn (s.1 + (1 : Int32)) (s.2.1 + (1 : Int32)) m345 (o3) ((clrL o8))
    · refine go_blk h.1 (is := [.bipush (-99)]) (pc' := 354) (ls' := [some (.inr (.inr (0, 0))), some (.inr (.inr (60, 0))), some (.inl x2), o3, some (.inr (.inr (70, 0))), some (.inl x5), some (.inl (s.1 + (1 : Int32))), some (.inl x7), o8, some (.inl s.2.1)]) (st' := [.inl (-99 : Int32)]) (m' := m345) (by decide +kernel) rfl ?_
      exact go_iret h.1 h.2.2.2.2 (by decide +kernel)

def f_L_put_j304 (L : Nat) (xsc : Nat → Int32) (next : Int32 × Int32 × Mem → Option (Int32 × Mem)) (exit : Int32 × Mem → Option (Int32 × Mem)) (s0 : Int32) (s1 : Int32) (s2 : Int32) (x2 : Int32) (x5 : Int32) (x6 : Int32) (x7 : Int32) (m : Mem) : Option (Int32 × Mem) :=
  bnd (f_X6_put s2 s1 s0 m) (fun r304 m304 =>
    if r304 = (1 : Int32) then
      lpk (f_L_put_b317 L xsc x2 x5 x7) fuelN (x6, (1 : Int32), m304) (fun t317 =>
        next (t317.1, (x7 + (1 : Int32)), t317.2))
    else
      some ((-99 : Int32), m304))
theorem g_L_put_j304 {X : XT} (h : MX X method_4_code P_L 3 (some .int)) (next : Int32 × Int32 × Mem → Option (Int32 × Mem)) (exit : Int32 × Mem → Option (Int32 × Mem)) (s0 : Int32) (s1 : Int32) (s2 : Int32) (x2 : Int32) (x5 : Int32) (x6 : Int32) (x7 : Int32) (m : Mem) (o3 : Option AV) (o8 : Option AV) (o9 : Option AV) (hn : ∀ (y6 : Int32) (y7 : Int32) (n : Mem) (o3 : Option AV) (o8 : Option AV) (o9 : Option AV), Go X (Em X puI) 103 [some (.inr (.inr (0, 0))), some (.inr (.inr (60, 0))), some (.inl x2), o3, some (.inr (.inr (70, 0))), some (.inl x5), some (.inl y6), some (.inl y7), o8, o9] [] n (next (y6, y7, n))) (hx : ∀ (y6 : Int32) (n : Mem) (o0 : Option AV) (o1 : Option AV) (o2 : Option AV) (o3 : Option AV) (o4 : Option AV) (o5 : Option AV) (o7 : Option AV) (o8 : Option AV) (o9 : Option AV), Go X (Em X puI) 367 [o0, o1, o2, o3, o4, o5, some (.inl y6), o7, o8, o9] [] n (exit (y6, n))) : Go X (Em X puI) 304 [some (.inr (.inr (0, 0))), some (.inr (.inr (60, 0))), some (.inl x2), o3, some (.inr (.inr (70, 0))), some (.inl x5), some (.inl x6), some (.inl x7), o8, o9] [.inl s0, .inl s1, .inl s2, .inr (.inr (0, 0))] m (f_L_put_j304 (xL X) (xx X) next exit s0 s1 s2 x2 x5 x6 x7 m) := by
  unfold f_L_put_j304
  refine go_callV h.1 (index := 25) (n := 3) (t := 0) (i := 0) (ci := 6) (nf := 7) (cz := (RX6, TX6, 7)) (as := [.inl s2, .inl s1, .inl s0]) (rest := []) (ctr_X6_put (xZ X) s2 s1 s0 m) (by decide +kernel) rfl rfl wd_v_L_25 rfl (h.room (by first | decide | omega) (by decide)) h.cl (Nat.le_of_ble_eq_true rfl) puI_ok rfl (fun r304 m304 _ => ?_)
  show Go X (Em X puI) 307 [some (.inr (.inr (0, 0))), some (.inr (.inr (60, 0))), some (.inl x2), o3, some (.inr (.inr (70, 0))), some (.inl x5), some (.inl x6), some (.inl x7), o8, o9] [.inl r304] m304 _
  refine go_blk h.1 (is := [.iconst 1]) (pc' := 308) (ls' := [some (.inr (.inr (0, 0))), some (.inr (.inr (60, 0))), some (.inl x2), o3, some (.inr (.inr (70, 0))), some (.inl x5), some (.inl x6), some (.inl x7), o8, o9]) (st' := [.inl (1 : Int32), .inl r304]) (m' := m304) (by decide +kernel) rfl ?_
  refine go_icmpeq h.1 (off := 6) 314 (by decide +kernel) (by decide) (fun c308 => ?_) (fun c308 => ?_)
  · refine go_blk h.1 (is := [.iconst 1, .istore 9]) (pc' := 317) (ls' := [some (.inr (.inr (0, 0))), some (.inr (.inr (60, 0))), some (.inl x2), o3, some (.inr (.inr (70, 0))), some (.inl x5), some (.inl x6), some (.inl x7), (clrL o8), some (.inl (1 : Int32))]) (st' := []) (m' := m304) (by decide +kernel) rfl ?_
    refine go_lp2 (hd := fun (y6 : Int32) (y9 : Int32) (n : Mem) o => ∀ (o3 : Option AV) (o8 : Option AV), Go X (Em X puI) 317 [some (.inr (.inr (0, 0))), some (.inr (.inr (60, 0))), some (.inl x2), o3, some (.inr (.inr (70, 0))), some (.inl x5), some (.inl y6), some (.inl x7), o8, some (.inl y9)] [] n o) (fun _ _ _ _ _ => go_none) (fun y6 y9 n nx_ hn_ => g_L_put_b317 h x2 x5 x7 nx_ _ hn_ (fun z6_317 z_317 o3_317 o8_317 o9_317 => ?_) (y6, y9, n)) fuelN x6 (1 : Int32) m304 (o3) ((clrL o8))
    refine go_blk h.1 (is := [.iinc 7 1]) (pc' := 364) (ls' := [some (.inr (.inr (0, 0))), some (.inr (.inr (60, 0))), some (.inl x2), o3_317, some (.inr (.inr (70, 0))), some (.inl x5), some (.inl z6_317), some (.inl (x7 + (1 : Int32))), o8_317, o9_317]) (st' := []) (m' := z_317) (by decide +kernel) rfl ?_
    refine go_goto h.1 (off := -261) 103 (by decide +kernel) (by decide) ?_
    exact hn z6_317 (x7 + (1 : Int32)) z_317 (o3_317) (o8_317) (o9_317)
  · refine go_blk h.1 (is := [.bipush (-99)]) (pc' := 313) (ls' := [some (.inr (.inr (0, 0))), some (.inr (.inr (60, 0))), some (.inl x2), o3, some (.inr (.inr (70, 0))), some (.inl x5), some (.inl x6), some (.inl x7), o8, o9]) (st' := [.inl (-99 : Int32)]) (m' := m304) (by decide +kernel) rfl ?_
    exact go_iret h.1 h.2.2.2.2 (by decide +kernel)

def f_L_put_j191 (L : Nat) (xsc : Nat → Int32) (next : Int32 × Int32 × Mem → Option (Int32 × Mem)) (exit : Int32 × Mem → Option (Int32 × Mem)) (s0 : Int32) (s1 : Int32) (s2 : Int32) (s3 : Int32) (x2 : Int32) (x5 : Int32) (x6 : Int32) (x7 : Int32) (x8 : Int32) (m : Mem) : Option (Int32 × Mem) :=
  bnd (f_L_some L xsc s1 s0 m) (fun r191 m191 =>
    if inB s3 28 = true then
      bnd (f_L_some L xsc (x8 >>> ((3 : Int32) &&& 31)) (10 : Int32) (mset m191 70 0 (ix s3) (s2 + r191))) (fun r209 m209 =>
        if inB ((13 : Int32) + x7) 28 = true then
          bnd (f_L_some L xsc (x8 >>> ((5 : Int32) &&& 31)) (7 : Int32) (mset m209 70 0 (ix ((13 : Int32) + x7)) r209)) (fun r226 m226 =>
            if inB ((18 : Int32) + x7) 28 = true then
              bnd (f_L_some L xsc (x8 >>> ((6 : Int32) &&& 31)) (6 : Int32) (mset m226 70 0 (ix ((18 : Int32) + x7)) r226)) (fun r244 m244 =>
                if inB ((23 : Int32) + x7) 28 = true then
                  bnd (f_X6_put (0 : Int32) x6 (59 : Int32) (mset m244 70 0 (ix ((23 : Int32) + x7)) r244)) (fun r257 m257 =>
                    if r257 = (1 : Int32) then
                      if inB ((3 : Int32) + x7) 28 = true then
                        if (m257 70 0 (ix ((3 : Int32) + x7))) = 0 then
                          f_L_put_j304 L xsc next exit (102 : Int32) (x6 + (1 : Int32)) (0 : Int32) x2 x5 ((x6 + (1 : Int32)) + (1 : Int32)) x7 m257
                        else
                          if inB ((3 : Int32) + x7) 28 = true then
                            if (m257 70 0 (ix ((3 : Int32) + x7))) = (1 : Int32) then
                              f_L_put_j304 L xsc next exit (101 : Int32) (x6 + (1 : Int32)) (0 : Int32) x2 x5 ((x6 + (1 : Int32)) + (1 : Int32)) x7 m257
                            else
                              f_L_put_j304 L xsc next exit (112 : Int32) (x6 + (1 : Int32)) (0 : Int32) x2 x5 ((x6 + (1 : Int32)) + (1 : Int32)) x7 m257
                          else none
                      else none
                    else
                      some ((-99 : Int32), m257))
                else none)
            else none)
        else none)
    else none)
theorem g_L_put_j191 {X : XT} (h : MX X method_4_code P_L 3 (some .int)) (next : Int32 × Int32 × Mem → Option (Int32 × Mem)) (exit : Int32 × Mem → Option (Int32 × Mem)) (s0 : Int32) (s1 : Int32) (s2 : Int32) (s3 : Int32) (x2 : Int32) (x5 : Int32) (x6 : Int32) (x7 : Int32) (x8 : Int32) (m : Mem) (o3 : Option AV) (o9 : Option AV) (hn : ∀ (y6 : Int32) (y7 : Int32) (n : Mem) (o3 : Option AV) (o8 : Option AV) (o9 : Option AV), Go X (Em X puI) 103 [some (.inr (.inr (0, 0))), some (.inr (.inr (60, 0))), some (.inl x2), o3, some (.inr (.inr (70, 0))), some (.inl x5), some (.inl y6), some (.inl y7), o8, o9] [] n (next (y6, y7, n))) (hx : ∀ (y6 : Int32) (n : Mem) (o0 : Option AV) (o1 : Option AV) (o2 : Option AV) (o3 : Option AV) (o4 : Option AV) (o5 : Option AV) (o7 : Option AV) (o8 : Option AV) (o9 : Option AV), Go X (Em X puI) 367 [o0, o1, o2, o3, o4, o5, some (.inl y6), o7, o8, o9] [] n (exit (y6, n))) : Go X (Em X puI) 191 [some (.inr (.inr (0, 0))), some (.inr (.inr (60, 0))), some (.inl x2), o3, some (.inr (.inr (70, 0))), some (.inl x5), some (.inl x6), some (.inl x7), some (.inl x8), o9] [.inl s0, .inl s1, .inl s2, .inl s3, .inr (.inr (70, 0))] m (f_L_put_j191 (xL X) (xx X) next exit s0 s1 s2 s3 x2 x5 x6 x7 x8 m) := by
  unfold f_L_put_j191
  refine go_callS h.1 (index := 15) (n := 2) (as := [.inl s1, .inl s0]) (rest := [.inl s2, .inl s3, .inr (.inr (70, 0))]) (ctr_L_some (xZ X) s1 s0 m) (by decide +kernel) wd_s_L_15 rfl (h.room (by first | decide | omega) (by decide)) h.cl (Nat.le_of_ble_eq_true rfl) puI_ok rfl (fun r191 m191 _ => ?_)
  show Go X (Em X puI) 194 [some (.inr (.inr (0, 0))), some (.inr (.inr (60, 0))), some (.inl x2), o3, some (.inr (.inr (70, 0))), some (.inl x5), some (.inl x6), some (.inl x7), some (.inl x8), o9] [.inl r191, .inl s2, .inl s3, .inr (.inr (70, 0))] m191 _
  refine go_blk h.1 (is := [.iadd]) (pc' := 195) (ls' := [some (.inr (.inr (0, 0))), some (.inr (.inr (60, 0))), some (.inl x2), o3, some (.inr (.inr (70, 0))), some (.inl x5), some (.inl x6), some (.inl x7), some (.inl x8), o9]) (st' := [.inl (s2 + r191), .inl s3, .inr (.inr (70, 0))]) (m' := m191) (by decide +kernel) rfl ?_
  refine go_iast h.1 (by decide +kernel) rfl rfl (fun b195 => ?_)
  refine go_blk h.1 (is := [.aload 4, .bipush 13, .iload 7, .iadd, .iload 8, .iconst 3, .ishr, .bipush 10]) (pc' := 209) (ls' := [some (.inr (.inr (0, 0))), some (.inr (.inr (60, 0))), some (.inl x2), o3, some (.inr (.inr (70, 0))), some (.inl x5), some (.inl x6), some (.inl x7), some (.inl x8), o9]) (st' := [.inl (10 : Int32), .inl (x8 >>> ((3 : Int32) &&& 31)), .inl ((13 : Int32) + x7), .inr (.inr (70, 0))]) (m' := (mset m191 70 0 (ix s3) (s2 + r191))) (by decide +kernel) rfl ?_
  refine go_callS h.1 (index := 15) (n := 2) (as := [.inl (x8 >>> ((3 : Int32) &&& 31)), .inl (10 : Int32)]) (rest := [.inl ((13 : Int32) + x7), .inr (.inr (70, 0))]) (ctr_L_some (xZ X) (x8 >>> ((3 : Int32) &&& 31)) (10 : Int32) (mset m191 70 0 (ix s3) (s2 + r191))) (by decide +kernel) wd_s_L_15 rfl (h.room (by first | decide | omega) (by decide)) h.cl (Nat.le_of_ble_eq_true rfl) puI_ok rfl (fun r209 m209 _ => ?_)
  show Go X (Em X puI) 212 [some (.inr (.inr (0, 0))), some (.inr (.inr (60, 0))), some (.inl x2), o3, some (.inr (.inr (70, 0))), some (.inl x5), some (.inl x6), some (.inl x7), some (.inl x8), o9] [.inl r209, .inl ((13 : Int32) + x7), .inr (.inr (70, 0))] m209 _
  refine go_iast h.1 (by decide +kernel) rfl rfl (fun b212 => ?_)
  refine go_blk h.1 (is := [.aload 4, .bipush 18, .iload 7, .iadd, .iload 8, .iconst 5, .ishr, .bipush 7]) (pc' := 226) (ls' := [some (.inr (.inr (0, 0))), some (.inr (.inr (60, 0))), some (.inl x2), o3, some (.inr (.inr (70, 0))), some (.inl x5), some (.inl x6), some (.inl x7), some (.inl x8), o9]) (st' := [.inl (7 : Int32), .inl (x8 >>> ((5 : Int32) &&& 31)), .inl ((18 : Int32) + x7), .inr (.inr (70, 0))]) (m' := (mset m209 70 0 (ix ((13 : Int32) + x7)) r209)) (by decide +kernel) rfl ?_
  refine go_callS h.1 (index := 15) (n := 2) (as := [.inl (x8 >>> ((5 : Int32) &&& 31)), .inl (7 : Int32)]) (rest := [.inl ((18 : Int32) + x7), .inr (.inr (70, 0))]) (ctr_L_some (xZ X) (x8 >>> ((5 : Int32) &&& 31)) (7 : Int32) (mset m209 70 0 (ix ((13 : Int32) + x7)) r209)) (by decide +kernel) wd_s_L_15 rfl (h.room (by first | decide | omega) (by decide)) h.cl (Nat.le_of_ble_eq_true rfl) puI_ok rfl (fun r226 m226 _ => ?_)
  show Go X (Em X puI) 229 [some (.inr (.inr (0, 0))), some (.inr (.inr (60, 0))), some (.inl x2), o3, some (.inr (.inr (70, 0))), some (.inl x5), some (.inl x6), some (.inl x7), some (.inl x8), o9] [.inl r226, .inl ((18 : Int32) + x7), .inr (.inr (70, 0))] m226 _
  refine go_iast h.1 (by decide +kernel) rfl rfl (fun b229 => ?_)
  refine go_blk h.1 (is := [.aload 4, .bipush 23, .iload 7, .iadd, .iload 8, .bipush 6, .ishr, .bipush 6]) (pc' := 244) (ls' := [some (.inr (.inr (0, 0))), some (.inr (.inr (60, 0))), some (.inl x2), o3, some (.inr (.inr (70, 0))), some (.inl x5), some (.inl x6), some (.inl x7), some (.inl x8), o9]) (st' := [.inl (6 : Int32), .inl (x8 >>> ((6 : Int32) &&& 31)), .inl ((23 : Int32) + x7), .inr (.inr (70, 0))]) (m' := (mset m226 70 0 (ix ((18 : Int32) + x7)) r226)) (by decide +kernel) rfl ?_
  refine go_callS h.1 (index := 15) (n := 2) (as := [.inl (x8 >>> ((6 : Int32) &&& 31)), .inl (6 : Int32)]) (rest := [.inl ((23 : Int32) + x7), .inr (.inr (70, 0))]) (ctr_L_some (xZ X) (x8 >>> ((6 : Int32) &&& 31)) (6 : Int32) (mset m226 70 0 (ix ((18 : Int32) + x7)) r226)) (by decide +kernel) wd_s_L_15 rfl (h.room (by first | decide | omega) (by decide)) h.cl (Nat.le_of_ble_eq_true rfl) puI_ok rfl (fun r244 m244 _ => ?_)
  show Go X (Em X puI) 247 [some (.inr (.inr (0, 0))), some (.inr (.inr (60, 0))), some (.inl x2), o3, some (.inr (.inr (70, 0))), some (.inl x5), some (.inl x6), some (.inl x7), some (.inl x8), o9] [.inl r244, .inl ((23 : Int32) + x7), .inr (.inr (70, 0))] m244 _
  refine go_iast h.1 (by decide +kernel) rfl rfl (fun b247 => ?_)
  refine go_blk h.1 (is := [.aload_n 0, .iconst 0, .iload 6, .iinc 6 1, .bipush 59]) (pc' := 257) (ls' := [some (.inr (.inr (0, 0))), some (.inr (.inr (60, 0))), some (.inl x2), o3, some (.inr (.inr (70, 0))), some (.inl x5), some (.inl (x6 + (1 : Int32))), some (.inl x7), some (.inl x8), o9]) (st' := [.inl (59 : Int32), .inl x6, .inl (0 : Int32), .inr (.inr (0, 0))]) (m' := (mset m244 70 0 (ix ((23 : Int32) + x7)) r244)) (by decide +kernel) rfl ?_
  refine go_callV h.1 (index := 25) (n := 3) (t := 0) (i := 0) (ci := 6) (nf := 7) (cz := (RX6, TX6, 7)) (as := [.inl (0 : Int32), .inl x6, .inl (59 : Int32)]) (rest := []) (ctr_X6_put (xZ X) (0 : Int32) x6 (59 : Int32) (mset m244 70 0 (ix ((23 : Int32) + x7)) r244)) (by decide +kernel) rfl rfl wd_v_L_25 rfl (h.room (by first | decide | omega) (by decide)) h.cl (Nat.le_of_ble_eq_true rfl) puI_ok rfl (fun r257 m257 _ => ?_)
  show Go X (Em X puI) 260 [some (.inr (.inr (0, 0))), some (.inr (.inr (60, 0))), some (.inl x2), o3, some (.inr (.inr (70, 0))), some (.inl x5), some (.inl (x6 + (1 : Int32))), some (.inl x7), some (.inl x8), o9] [.inl r257] m257 _
  refine go_blk h.1 (is := [.iconst 1]) (pc' := 261) (ls' := [some (.inr (.inr (0, 0))), some (.inr (.inr (60, 0))), some (.inl x2), o3, some (.inr (.inr (70, 0))), some (.inl x5), some (.inl (x6 + (1 : Int32))), some (.inl x7), some (.inl x8), o9]) (st' := [.inl (1 : Int32), .inl r257]) (m' := m257) (by decide +kernel) rfl ?_
  refine go_icmpne h.1 (off := 50) 311 (by decide +kernel) (by decide) (fun c261 => ?_) (fun c261 => ?_)
  · refine go_blk h.1 (is := [.bipush (-99)]) (pc' := 313) (ls' := [some (.inr (.inr (0, 0))), some (.inr (.inr (60, 0))), some (.inl x2), o3, some (.inr (.inr (70, 0))), some (.inl x5), some (.inl (x6 + (1 : Int32))), some (.inl x7), some (.inl x8), o9]) (st' := [.inl (-99 : Int32)]) (m' := m257) (by decide +kernel) rfl ?_
    exact go_iret h.1 h.2.2.2.2 (by decide +kernel)
  · refine go_blk h.1 (is := [.aload_n 0, .iconst 0, .iload 6, .iinc 6 1, .aload 4, .iconst 3, .iload 7, .iadd]) (pc' := 277) (ls' := [some (.inr (.inr (0, 0))), some (.inr (.inr (60, 0))), some (.inl x2), o3, some (.inr (.inr (70, 0))), some (.inl x5), some (.inl ((x6 + (1 : Int32)) + (1 : Int32))), some (.inl x7), some (.inl x8), o9]) (st' := [.inl ((3 : Int32) + x7), .inr (.inr (70, 0)), .inl (x6 + (1 : Int32)), .inl (0 : Int32), .inr (.inr (0, 0))]) (m' := m257) (by decide +kernel) rfl ?_
    refine go_iald h.1 (by decide +kernel) rfl rfl (fun b277 => ?_)
    show Go X (Em X puI) 278 [some (.inr (.inr (0, 0))), some (.inr (.inr (60, 0))), some (.inl x2), o3, some (.inr (.inr (70, 0))), some (.inl x5), some (.inl ((x6 + (1 : Int32)) + (1 : Int32))), some (.inl x7), some (.inl x8), o9] [.inl (m257 70 0 (ix ((3 : Int32) + x7))), .inl (x6 + (1 : Int32)), .inl (0 : Int32), .inr (.inr (0, 0))] m257 _
    refine go_ifne h.1 (off := 8) 286 (by decide +kernel) (by decide) (fun c278 => ?_) (fun c278 => ?_)
    · refine go_blk h.1 (is := [.aload 4, .iconst 3, .iload 7, .iadd]) (pc' := 292) (ls' := [some (.inr (.inr (0, 0))), some (.inr (.inr (60, 0))), some (.inl x2), o3, some (.inr (.inr (70, 0))), some (.inl x5), some (.inl ((x6 + (1 : Int32)) + (1 : Int32))), some (.inl x7), some (.inl x8), o9]) (st' := [.inl ((3 : Int32) + x7), .inr (.inr (70, 0)), .inl (x6 + (1 : Int32)), .inl (0 : Int32), .inr (.inr (0, 0))]) (m' := m257) (by decide +kernel) rfl ?_
      refine go_iald h.1 (by decide +kernel) rfl rfl (fun b292 => ?_)
      show Go X (Em X puI) 293 [some (.inr (.inr (0, 0))), some (.inr (.inr (60, 0))), some (.inl x2), o3, some (.inr (.inr (70, 0))), some (.inl x5), some (.inl ((x6 + (1 : Int32)) + (1 : Int32))), some (.inl x7), some (.inl x8), o9] [.inl (m257 70 0 (ix ((3 : Int32) + x7))), .inl (x6 + (1 : Int32)), .inl (0 : Int32), .inr (.inr (0, 0))] m257 _
      refine go_blk h.1 (is := [.iconst 1]) (pc' := 294) (ls' := [some (.inr (.inr (0, 0))), some (.inr (.inr (60, 0))), some (.inl x2), o3, some (.inr (.inr (70, 0))), some (.inl x5), some (.inl ((x6 + (1 : Int32)) + (1 : Int32))), some (.inl x7), some (.inl x8), o9]) (st' := [.inl (1 : Int32), .inl (m257 70 0 (ix ((3 : Int32) + x7))), .inl (x6 + (1 : Int32)), .inl (0 : Int32), .inr (.inr (0, 0))]) (m' := m257) (by decide +kernel) rfl ?_
      refine go_icmpne h.1 (off := 8) 302 (by decide +kernel) (by decide) (fun c294 => ?_) (fun c294 => ?_)
      · refine go_blk h.1 (is := [.bipush 112]) (pc' := 304) (ls' := [some (.inr (.inr (0, 0))), some (.inr (.inr (60, 0))), some (.inl x2), o3, some (.inr (.inr (70, 0))), some (.inl x5), some (.inl ((x6 + (1 : Int32)) + (1 : Int32))), some (.inl x7), some (.inl x8), o9]) (st' := [.inl (112 : Int32), .inl (x6 + (1 : Int32)), .inl (0 : Int32), .inr (.inr (0, 0))]) (m' := m257) (by decide +kernel) rfl ?_
        exact g_L_put_j304 h next exit (112 : Int32) (x6 + (1 : Int32)) (0 : Int32) x2 x5 ((x6 + (1 : Int32)) + (1 : Int32)) x7 m257 (o3) (some (.inl x8)) (o9) hn hx
      · refine go_blk h.1 (is := [.bipush 101]) (pc' := 299) (ls' := [some (.inr (.inr (0, 0))), some (.inr (.inr (60, 0))), some (.inl x2), o3, some (.inr (.inr (70, 0))), some (.inl x5), some (.inl ((x6 + (1 : Int32)) + (1 : Int32))), some (.inl x7), some (.inl x8), o9]) (st' := [.inl (101 : Int32), .inl (x6 + (1 : Int32)), .inl (0 : Int32), .inr (.inr (0, 0))]) (m' := m257) (by decide +kernel) rfl ?_
        refine go_goto h.1 (off := 5) 304 (by decide +kernel) (by decide) ?_
        exact g_L_put_j304 h next exit (101 : Int32) (x6 + (1 : Int32)) (0 : Int32) x2 x5 ((x6 + (1 : Int32)) + (1 : Int32)) x7 m257 (o3) (some (.inl x8)) (o9) hn hx
    · refine go_blk h.1 (is := [.bipush 102]) (pc' := 283) (ls' := [some (.inr (.inr (0, 0))), some (.inr (.inr (60, 0))), some (.inl x2), o3, some (.inr (.inr (70, 0))), some (.inl x5), some (.inl ((x6 + (1 : Int32)) + (1 : Int32))), some (.inl x7), some (.inl x8), o9]) (st' := [.inl (102 : Int32), .inl (x6 + (1 : Int32)), .inl (0 : Int32), .inr (.inr (0, 0))]) (m' := m257) (by decide +kernel) rfl ?_
      refine go_goto h.1 (off := 21) 304 (by decide +kernel) (by decide) ?_
      exact g_L_put_j304 h next exit (102 : Int32) (x6 + (1 : Int32)) (0 : Int32) x2 x5 ((x6 + (1 : Int32)) + (1 : Int32)) x7 m257 (o3) (some (.inl x8)) (o9) hn hx

def f_L_put_j160 (L : Nat) (xsc : Nat → Int32) (next : Int32 × Int32 × Mem → Option (Int32 × Mem)) (exit : Int32 × Mem → Option (Int32 × Mem)) (s0 : Int32) (s1 : Int32) (x2 : Int32) (x5 : Int32) (x6 : Int32) (x7 : Int32) (x8 : Int32) (m : Mem) : Option (Int32 × Mem) :=
  if inB s1 28 = true then
    bnd (f_L_some L xsc (x5 >>> ((8 : Int32) &&& 31)) (2 : Int32) (mset m 70 0 (ix s1) s0)) (fun r179 m179 =>
      if r179 = 0 then
        f_L_put_j191 L xsc next exit (9 : Int32) (x8 >>> ((1 : Int32) &&& 31)) (1 : Int32) ((8 : Int32) + x7) x2 x5 x6 x7 x8 m179
      else
        f_L_put_j191 L xsc next exit (4 : Int32) (x8 >>> ((1 : Int32) &&& 31)) (1 : Int32) ((8 : Int32) + x7) x2 x5 x6 x7 x8 m179)
  else none
theorem g_L_put_j160 {X : XT} (h : MX X method_4_code P_L 3 (some .int)) (next : Int32 × Int32 × Mem → Option (Int32 × Mem)) (exit : Int32 × Mem → Option (Int32 × Mem)) (s0 : Int32) (s1 : Int32) (x2 : Int32) (x5 : Int32) (x6 : Int32) (x7 : Int32) (x8 : Int32) (m : Mem) (o3 : Option AV) (o9 : Option AV) (hn : ∀ (y6 : Int32) (y7 : Int32) (n : Mem) (o3 : Option AV) (o8 : Option AV) (o9 : Option AV), Go X (Em X puI) 103 [some (.inr (.inr (0, 0))), some (.inr (.inr (60, 0))), some (.inl x2), o3, some (.inr (.inr (70, 0))), some (.inl x5), some (.inl y6), some (.inl y7), o8, o9] [] n (next (y6, y7, n))) (hx : ∀ (y6 : Int32) (n : Mem) (o0 : Option AV) (o1 : Option AV) (o2 : Option AV) (o3 : Option AV) (o4 : Option AV) (o5 : Option AV) (o7 : Option AV) (o8 : Option AV) (o9 : Option AV), Go X (Em X puI) 367 [o0, o1, o2, o3, o4, o5, some (.inl y6), o7, o8, o9] [] n (exit (y6, n))) : Go X (Em X puI) 160 [some (.inr (.inr (0, 0))), some (.inr (.inr (60, 0))), some (.inl x2), o3, some (.inr (.inr (70, 0))), some (.inl x5), some (.inl x6), some (.inl x7), some (.inl x8), o9] [.inl s0, .inl s1, .inr (.inr (70, 0))] m (f_L_put_j160 (xL X) (xx X) next exit s0 s1 x2 x5 x6 x7 x8 m) := by
  unfold f_L_put_j160
  refine go_iast h.1 (by decide +kernel) rfl rfl (fun b160 => ?_)
  refine go_blk h.1 (is := [.aload 4, .bipush 8, .iload 7, .iadd, .iconst 1, .iload 8, .iconst 1, .ishr, .iload 5, .bipush 8, .ishr, .iconst 2]) (pc' := 179) (ls' := [some (.inr (.inr (0, 0))), some (.inr (.inr (60, 0))), some (.inl x2), o3, some (.inr (.inr (70, 0))), some (.inl x5), some (.inl x6), some (.inl x7), some (.inl x8), o9]) (st' := [.inl (2 : Int32), .inl (x5 >>> ((8 : Int32) &&& 31)), .inl (x8 >>> ((1 : Int32) &&& 31)), .inl (1 : Int32), .inl ((8 : Int32) + x7), .inr (.inr (70, 0))]) (m' := (mset m 70 0 (ix s1) s0)) (by decide +kernel) rfl ?_
  refine go_callS h.1 (index := 15) (n := 2) (as := [.inl (x5 >>> ((8 : Int32) &&& 31)), .inl (2 : Int32)]) (rest := [.inl (x8 >>> ((1 : Int32) &&& 31)), .inl (1 : Int32), .inl ((8 : Int32) + x7), .inr (.inr (70, 0))]) (ctr_L_some (xZ X) (x5 >>> ((8 : Int32) &&& 31)) (2 : Int32) (mset m 70 0 (ix s1) s0)) (by decide +kernel) wd_s_L_15 rfl (h.room (by first | decide | omega) (by decide)) h.cl (Nat.le_of_ble_eq_true rfl) puI_ok rfl (fun r179 m179 _ => ?_)
  show Go X (Em X puI) 182 [some (.inr (.inr (0, 0))), some (.inr (.inr (60, 0))), some (.inl x2), o3, some (.inr (.inr (70, 0))), some (.inl x5), some (.inl x6), some (.inl x7), some (.inl x8), o9] [.inl r179, .inl (x8 >>> ((1 : Int32) &&& 31)), .inl (1 : Int32), .inl ((8 : Int32) + x7), .inr (.inr (70, 0))] m179 _
  refine go_ifne h.1 (off := 8) 190 (by decide +kernel) (by decide) (fun c182 => ?_) (fun c182 => ?_)
  · refine go_blk h.1 (is := [.iconst 4]) (pc' := 191) (ls' := [some (.inr (.inr (0, 0))), some (.inr (.inr (60, 0))), some (.inl x2), o3, some (.inr (.inr (70, 0))), some (.inl x5), some (.inl x6), some (.inl x7), some (.inl x8), o9]) (st' := [.inl (4 : Int32), .inl (x8 >>> ((1 : Int32) &&& 31)), .inl (1 : Int32), .inl ((8 : Int32) + x7), .inr (.inr (70, 0))]) (m' := m179) (by decide +kernel) rfl ?_
    exact g_L_put_j191 h next exit (4 : Int32) (x8 >>> ((1 : Int32) &&& 31)) (1 : Int32) ((8 : Int32) + x7) x2 x5 x6 x7 x8 m179 (o3) (o9) hn hx
  · refine go_blk h.1 (is := [.bipush 9]) (pc' := 187) (ls' := [some (.inr (.inr (0, 0))), some (.inr (.inr (60, 0))), some (.inl x2), o3, some (.inr (.inr (70, 0))), some (.inl x5), some (.inl x6), some (.inl x7), some (.inl x8), o9]) (st' := [.inl (9 : Int32), .inl (x8 >>> ((1 : Int32) &&& 31)), .inl (1 : Int32), .inl ((8 : Int32) + x7), .inr (.inr (70, 0))]) (m' := m179) (by decide +kernel) rfl ?_
    refine go_goto h.1 (off := 4) 191 (by decide +kernel) (by decide) ?_
    exact g_L_put_j191 h next exit (9 : Int32) (x8 >>> ((1 : Int32) &&& 31)) (1 : Int32) ((8 : Int32) + x7) x2 x5 x6 x7 x8 m179 (o3) (o9) hn hx

def f_L_put_b103 (L : Nat) (xsc : Nat → Int32) (x2 : Int32) (x5 : Int32) (next : Int32 × Int32 × Mem → Option (Int32 × Mem)) (exit : Int32 × Mem → Option (Int32 × Mem)) (s : Int32 × Int32 × Mem) : Option (Int32 × Mem) :=
  if inB (1 : Int32) 28 = true then
    if (s.2.2 70 0 (ix (1 : Int32))) ≤ s.2.1 then
      exit (s.1, s.2.2)
    else
      if ¬ (3 : Int32) = 0 then dv (s.2.1 - s.2.1 / (3 : Int32) * (3 : Int32)) (fun q119 =>
        bnd (f_L_cell L xsc ((x2 + (1 : Int32)) + q119) s.2.2) (fun r121 m121 =>
          if ¬ (3 : Int32) = 0 then dv (s.2.1 / (3 : Int32)) (fun q127 =>
            bnd (f_L_some L xsc (r121 >>> ((q127 * (9 : Int32)) &&& 31)) (4 : Int32) m121) (fun r143 m143 =>
              if r143 = (3 : Int32) then
                f_L_put_j160 L xsc next exit (1 : Int32) ((3 : Int32) + s.2.1) x2 x5 s.1 s.2.1 (r121 >>> ((q127 * (9 : Int32)) &&& 31)) m143
              else
                bnd (f_L_some L xsc (r121 >>> ((q127 * (9 : Int32)) &&& 31)) (4 : Int32) m143) (fun r157 m157 =>
                  f_L_put_j160 L xsc next exit r157 ((3 : Int32) + s.2.1) x2 x5 s.1 s.2.1 (r121 >>> ((q127 * (9 : Int32)) &&& 31)) m157)))
          else none))
      else none
  else none
theorem g_L_put_b103 {X : XT} (h : MX X method_4_code P_L 3 (some .int)) (x2 : Int32) (x5 : Int32) (next : Int32 × Int32 × Mem → Option (Int32 × Mem)) (exit : Int32 × Mem → Option (Int32 × Mem)) (hn : ∀ (y6 : Int32) (y7 : Int32) (n : Mem) (o3 : Option AV) (o8 : Option AV) (o9 : Option AV), Go X (Em X puI) 103 [some (.inr (.inr (0, 0))), some (.inr (.inr (60, 0))), some (.inl x2), o3, some (.inr (.inr (70, 0))), some (.inl x5), some (.inl y6), some (.inl y7), o8, o9] [] n (next (y6, y7, n))) (hx : ∀ (y6 : Int32) (n : Mem) (o0 : Option AV) (o1 : Option AV) (o2 : Option AV) (o3 : Option AV) (o4 : Option AV) (o5 : Option AV) (o7 : Option AV) (o8 : Option AV) (o9 : Option AV), Go X (Em X puI) 367 [o0, o1, o2, o3, o4, o5, some (.inl y6), o7, o8, o9] [] n (exit (y6, n))) (s : Int32 × Int32 × Mem) (o3 : Option AV) (o8 : Option AV) (o9 : Option AV) : Go X (Em X puI) 103 [some (.inr (.inr (0, 0))), some (.inr (.inr (60, 0))), some (.inl x2), o3, some (.inr (.inr (70, 0))), some (.inl x5), some (.inl s.1), some (.inl s.2.1), o8, o9] [] s.2.2 (f_L_put_b103 (xL X) (xx X) x2 x5 next exit s) := by
  unfold f_L_put_b103
  refine go_blk h.1 (is := [.iload 7, .aload 4, .iconst 1]) (pc' := 108) (ls' := [some (.inr (.inr (0, 0))), some (.inr (.inr (60, 0))), some (.inl x2), o3, some (.inr (.inr (70, 0))), some (.inl x5), some (.inl s.1), some (.inl s.2.1), o8, o9]) (st' := [.inl (1 : Int32), .inr (.inr (70, 0)), .inl s.2.1]) (m' := s.2.2) (by decide +kernel) rfl ?_
  refine go_iald h.1 (by decide +kernel) rfl rfl (fun b108 => ?_)
  show Go X (Em X puI) 109 [some (.inr (.inr (0, 0))), some (.inr (.inr (60, 0))), some (.inl x2), o3, some (.inr (.inr (70, 0))), some (.inl x5), some (.inl s.1), some (.inl s.2.1), o8, o9] [.inl (s.2.2 70 0 (ix (1 : Int32))), .inl s.2.1] s.2.2 _
  refine go_icmpge h.1 (off := 258) 367 (by decide +kernel) (by decide) (fun c109 => ?_) (fun c109 => ?_)
  · exact hx s.1 s.2.2 (some (.inr (.inr (0, 0)))) (some (.inr (.inr (60, 0)))) (some (.inl x2)) (o3) (some (.inr (.inr (70, 0)))) (some (.inl x5)) (some (.inl s.2.1)) (o8) (o9)
  · refine go_blk h.1 (is := [.aload_n 1, .iload_n 2, .iconst 1, .iadd, .iload 7, .iconst 3]) (pc' := 119) (ls' := [some (.inr (.inr (0, 0))), some (.inr (.inr (60, 0))), some (.inl x2), o3, some (.inr (.inr (70, 0))), some (.inl x5), some (.inl s.1), some (.inl s.2.1), o8, o9]) (st' := [.inl (3 : Int32), .inl s.2.1, .inl (x2 + (1 : Int32)), .inr (.inr (60, 0))]) (m' := s.2.2) (by decide +kernel) rfl ?_
    refine go_irem h.1 (by decide +kernel) (fun z119 q119 _ => ?_)
    refine go_blk h.1 (is := [.iadd]) (pc' := 121) (ls' := [some (.inr (.inr (0, 0))), some (.inr (.inr (60, 0))), some (.inl x2), o3, some (.inr (.inr (70, 0))), some (.inl x5), some (.inl s.1), some (.inl s.2.1), o8, o9]) (st' := [.inl ((x2 + (1 : Int32)) + q119), .inr (.inr (60, 0))]) (m' := s.2.2) (by decide +kernel) rfl ?_
    refine go_callS h.1 (index := 9) (n := 2) (as := [.inr (.inr (60, 0)), .inl ((x2 + (1 : Int32)) + q119)]) (rest := []) (ctr_L_cell (xZ X) ((x2 + (1 : Int32)) + q119) s.2.2) (by decide +kernel) wd_s_L_9 rfl (h.room (by first | decide | omega) (by decide)) h.cl (Nat.le_of_ble_eq_true rfl) puI_ok rfl (fun r121 m121 _ => ?_)
    show Go X (Em X puI) 124 [some (.inr (.inr (0, 0))), some (.inr (.inr (60, 0))), some (.inl x2), o3, some (.inr (.inr (70, 0))), some (.inl x5), some (.inl s.1), some (.inl s.2.1), o8, o9] [.inl r121] m121 _
    refine go_blk h.1 (is := [.iload 7, .iconst 3]) (pc' := 127) (ls' := [some (.inr (.inr (0, 0))), some (.inr (.inr (60, 0))), some (.inl x2), o3, some (.inr (.inr (70, 0))), some (.inl x5), some (.inl s.1), some (.inl s.2.1), o8, o9]) (st' := [.inl (3 : Int32), .inl s.2.1, .inl r121]) (m' := m121) (by decide +kernel) rfl ?_
    refine go_idiv h.1 (by decide +kernel) (fun z127 q127 _ => ?_)
    refine go_blk h.1 (is := [.bipush 9, .imul, .ishr, .istore 8, .aload 4, .iconst 3, .iload 7, .iadd, .iload 8, .iconst 4]) (pc' := 143) (ls' := [some (.inr (.inr (0, 0))), some (.inr (.inr (60, 0))), some (.inl x2), o3, some (.inr (.inr (70, 0))), some (.inl x5), some (.inl s.1), some (.inl s.2.1), some (.inl (r121 >>> ((q127 * (9 : Int32)) &&& 31))), o9]) (st' := [.inl (4 : Int32), .inl (r121 >>> ((q127 * (9 : Int32)) &&& 31)), .inl ((3 : Int32) + s.2.1), .inr (.inr (70, 0))]) (m' := m121) (by decide +kernel) rfl ?_
    refine go_callS h.1 (index := 15) (n := 2) (as := [.inl (r121 >>> ((q127 * (9 : Int32)) &&& 31)), .inl (4 : Int32)]) (rest := [.inl ((3 : Int32) + s.2.1), .inr (.inr (70, 0))]) (ctr_L_some (xZ X) (r121 >>> ((q127 * (9 : Int32)) &&& 31)) (4 : Int32) m121) (by decide +kernel) wd_s_L_15 rfl (h.room (by first | decide | omega) (by decide)) h.cl (Nat.le_of_ble_eq_true rfl) puI_ok rfl (fun r143 m143 _ => ?_)
    show Go X (Em X puI) 146 [some (.inr (.inr (0, 0))), some (.inr (.inr (60, 0))), some (.inl x2), o3, some (.inr (.inr (70, 0))), some (.inl x5), some (.inl s.1), some (.inl s.2.1), some (.inl (r121 >>> ((q127 * (9 : Int32)) &&& 31))), o9] [.inl r143, .inl ((3 : Int32) + s.2.1), .inr (.inr (70, 0))] m143 _
    refine go_blk h.1 (is := [.iconst 3]) (pc' := 147) (ls' := [some (.inr (.inr (0, 0))), some (.inr (.inr (60, 0))), some (.inl x2), o3, some (.inr (.inr (70, 0))), some (.inl x5), some (.inl s.1), some (.inl s.2.1), some (.inl (r121 >>> ((q127 * (9 : Int32)) &&& 31))), o9]) (st' := [.inl (3 : Int32), .inl r143, .inl ((3 : Int32) + s.2.1), .inr (.inr (70, 0))]) (m' := m143) (by decide +kernel) rfl ?_
    refine go_icmpne h.1 (off := 7) 154 (by decide +kernel) (by decide) (fun c147 => ?_) (fun c147 => ?_)
    · refine go_blk h.1 (is := [.iload 8, .iconst 4]) (pc' := 157) (ls' := [some (.inr (.inr (0, 0))), some (.inr (.inr (60, 0))), some (.inl x2), o3, some (.inr (.inr (70, 0))), some (.inl x5), some (.inl s.1), some (.inl s.2.1), some (.inl (r121 >>> ((q127 * (9 : Int32)) &&& 31))), o9]) (st' := [.inl (4 : Int32), .inl (r121 >>> ((q127 * (9 : Int32)) &&& 31)), .inl ((3 : Int32) + s.2.1), .inr (.inr (70, 0))]) (m' := m143) (by decide +kernel) rfl ?_
      refine go_callS h.1 (index := 15) (n := 2) (as := [.inl (r121 >>> ((q127 * (9 : Int32)) &&& 31)), .inl (4 : Int32)]) (rest := [.inl ((3 : Int32) + s.2.1), .inr (.inr (70, 0))]) (ctr_L_some (xZ X) (r121 >>> ((q127 * (9 : Int32)) &&& 31)) (4 : Int32) m143) (by decide +kernel) wd_s_L_15 rfl (h.room (by first | decide | omega) (by decide)) h.cl (Nat.le_of_ble_eq_true rfl) puI_ok rfl (fun r157 m157 _ => ?_)
      show Go X (Em X puI) 160 [some (.inr (.inr (0, 0))), some (.inr (.inr (60, 0))), some (.inl x2), o3, some (.inr (.inr (70, 0))), some (.inl x5), some (.inl s.1), some (.inl s.2.1), some (.inl (r121 >>> ((q127 * (9 : Int32)) &&& 31))), o9] [.inl r157, .inl ((3 : Int32) + s.2.1), .inr (.inr (70, 0))] m157 _
      exact g_L_put_j160 h next exit r157 ((3 : Int32) + s.2.1) x2 x5 s.1 s.2.1 (r121 >>> ((q127 * (9 : Int32)) &&& 31)) m157 (o3) (o9) hn hx
    · refine go_blk h.1 (is := [.iconst 1]) (pc' := 151) (ls' := [some (.inr (.inr (0, 0))), some (.inr (.inr (60, 0))), some (.inl x2), o3, some (.inr (.inr (70, 0))), some (.inl x5), some (.inl s.1), some (.inl s.2.1), some (.inl (r121 >>> ((q127 * (9 : Int32)) &&& 31))), o9]) (st' := [.inl (1 : Int32), .inl ((3 : Int32) + s.2.1), .inr (.inr (70, 0))]) (m' := m143) (by decide +kernel) rfl ?_
      refine go_goto h.1 (off := 9) 160 (by decide +kernel) (by decide) ?_
      exact g_L_put_j160 h next exit (1 : Int32) ((3 : Int32) + s.2.1) x2 x5 s.1 s.2.1 (r121 >>> ((q127 * (9 : Int32)) &&& 31)) m143 (o3) (o9) hn hx

def f_L_put_j30 (L : Nat) (xsc : Nat → Int32) (s0 : Int32) (s1 : Int32) (s2 : Int32) (x2 : Int32) (x3 : Int32) (x5 : Int32) (m : Mem) : Option (Int32 × Mem) :=
  bnd (f_L_some L xsc s1 s0 m) (fun r30 m30 =>
    if inB s2 28 = true then
      bnd (f_L_some L xsc (x5 >>> ((3 : Int32) &&& 31)) x3 (mset m30 70 0 (ix s2) r30)) (fun r43 m43 =>
        if inB (1 : Int32) 28 = true then
          if inB (2 : Int32) 28 = true then
            bnd (f_X6_sheet (0 : Int32) (0 : Int32) (60 : Int32) (mset (mset m43 70 0 (ix (1 : Int32)) ((1 : Int32) + r43)) 70 0 (ix (2 : Int32)) (0 : Int32))) (fun r58 m58 =>
              if r58 = (1 : Int32) then
                bnd (f_X6_put (0 : Int32) (0 : Int32) (104 : Int32) m58) (fun r70 m70 =>
                  if r70 = (1 : Int32) then
                    if inB (0 : Int32) 28 = true then
                      bnd (f_X6_put (0 : Int32) (1 : Int32) ((48 : Int32) + (m70 70 0 (ix (0 : Int32)))) m70) (fun r87 m87 =>
                        if r87 = (1 : Int32) then
                          lpk (f_L_put_b103 L xsc x2 x5) fuelN ((2 : Int32), (0 : Int32), m87) (fun t103 =>
                            some (t103.1, t103.2))
                        else
                          some ((-99 : Int32), m87))
                    else none
                  else
                    some ((-99 : Int32), m70))
              else
                some ((-99 : Int32), m58))
          else none
        else none)
    else none)
theorem g_L_put_j30 {X : XT} (h : MX X method_4_code P_L 3 (some .int)) (s0 : Int32) (s1 : Int32) (s2 : Int32) (x2 : Int32) (x3 : Int32) (x5 : Int32) (m : Mem) (o6 : Option AV) (o7 : Option AV) (o8 : Option AV) (o9 : Option AV) : Go X (Em X puI) 30 [some (.inr (.inr (0, 0))), some (.inr (.inr (60, 0))), some (.inl x2), some (.inl x3), some (.inr (.inr (70, 0))), some (.inl x5), o6, o7, o8, o9] [.inl s0, .inl s1, .inl s2, .inr (.inr (70, 0))] m (f_L_put_j30 (xL X) (xx X) s0 s1 s2 x2 x3 x5 m) := by
  unfold f_L_put_j30
  refine go_callS h.1 (index := 15) (n := 2) (as := [.inl s1, .inl s0]) (rest := [.inl s2, .inr (.inr (70, 0))]) (ctr_L_some (xZ X) s1 s0 m) (by decide +kernel) wd_s_L_15 rfl (h.room (by first | decide | omega) (by decide)) h.cl (Nat.le_of_ble_eq_true rfl) puI_ok rfl (fun r30 m30 _ => ?_)
  show Go X (Em X puI) 33 [some (.inr (.inr (0, 0))), some (.inr (.inr (60, 0))), some (.inl x2), some (.inl x3), some (.inr (.inr (70, 0))), some (.inl x5), o6, o7, o8, o9] [.inl r30, .inl s2, .inr (.inr (70, 0))] m30 _
  refine go_iast h.1 (by decide +kernel) rfl rfl (fun b33 => ?_)
  refine go_blk h.1 (is := [.aload 4, .iconst 1, .iconst 1, .iload 5, .iconst 3, .ishr, .iload_n 3]) (pc' := 43) (ls' := [some (.inr (.inr (0, 0))), some (.inr (.inr (60, 0))), some (.inl x2), some (.inl x3), some (.inr (.inr (70, 0))), some (.inl x5), o6, o7, o8, o9]) (st' := [.inl x3, .inl (x5 >>> ((3 : Int32) &&& 31)), .inl (1 : Int32), .inl (1 : Int32), .inr (.inr (70, 0))]) (m' := (mset m30 70 0 (ix s2) r30)) (by decide +kernel) rfl ?_
  refine go_callS h.1 (index := 15) (n := 2) (as := [.inl (x5 >>> ((3 : Int32) &&& 31)), .inl x3]) (rest := [.inl (1 : Int32), .inl (1 : Int32), .inr (.inr (70, 0))]) (ctr_L_some (xZ X) (x5 >>> ((3 : Int32) &&& 31)) x3 (mset m30 70 0 (ix s2) r30)) (by decide +kernel) wd_s_L_15 rfl (h.room (by first | decide | omega) (by decide)) h.cl (Nat.le_of_ble_eq_true rfl) puI_ok rfl (fun r43 m43 _ => ?_)
  show Go X (Em X puI) 46 [some (.inr (.inr (0, 0))), some (.inr (.inr (60, 0))), some (.inl x2), some (.inl x3), some (.inr (.inr (70, 0))), some (.inl x5), o6, o7, o8, o9] [.inl r43, .inl (1 : Int32), .inl (1 : Int32), .inr (.inr (70, 0))] m43 _
  refine go_blk h.1 (is := [.iadd]) (pc' := 47) (ls' := [some (.inr (.inr (0, 0))), some (.inr (.inr (60, 0))), some (.inl x2), some (.inl x3), some (.inr (.inr (70, 0))), some (.inl x5), o6, o7, o8, o9]) (st' := [.inl ((1 : Int32) + r43), .inl (1 : Int32), .inr (.inr (70, 0))]) (m' := m43) (by decide +kernel) rfl ?_
  refine go_iast h.1 (by decide +kernel) rfl rfl (fun b47 => ?_)
  refine go_blk h.1 (is := [.aload 4, .iconst 2, .iconst 0]) (pc' := 52) (ls' := [some (.inr (.inr (0, 0))), some (.inr (.inr (60, 0))), some (.inl x2), some (.inl x3), some (.inr (.inr (70, 0))), some (.inl x5), o6, o7, o8, o9]) (st' := [.inl (0 : Int32), .inl (2 : Int32), .inr (.inr (70, 0))]) (m' := (mset m43 70 0 (ix (1 : Int32)) ((1 : Int32) + r43))) (by decide +kernel) rfl ?_
  refine go_iast h.1 (by decide +kernel) rfl rfl (fun b52 => ?_)
  refine go_blk h.1 (is := [.aload_n 0, .iconst 0, .iconst 0, .bipush 60]) (pc' := 58) (ls' := [some (.inr (.inr (0, 0))), some (.inr (.inr (60, 0))), some (.inl x2), some (.inl x3), some (.inr (.inr (70, 0))), some (.inl x5), o6, o7, o8, o9]) (st' := [.inl (60 : Int32), .inl (0 : Int32), .inl (0 : Int32), .inr (.inr (0, 0))]) (m' := (mset (mset m43 70 0 (ix (1 : Int32)) ((1 : Int32) + r43)) 70 0 (ix (2 : Int32)) (0 : Int32))) (by decide +kernel) rfl ?_
  refine go_callV h.1 (index := 19) (n := 3) (t := 0) (i := 0) (ci := 6) (nf := 7) (cz := (RX6, TX6, 7)) (as := [.inl (0 : Int32), .inl (0 : Int32), .inl (60 : Int32)]) (rest := []) (ctr_X6_sheet (xZ X) (0 : Int32) (0 : Int32) (60 : Int32) (mset (mset m43 70 0 (ix (1 : Int32)) ((1 : Int32) + r43)) 70 0 (ix (2 : Int32)) (0 : Int32))) (by decide +kernel) rfl rfl wd_v_L_19 rfl (h.room (by first | decide | omega) (by decide)) h.cl (Nat.le_of_ble_eq_true rfl) puI_ok rfl (fun r58 m58 _ => ?_)
  show Go X (Em X puI) 61 [some (.inr (.inr (0, 0))), some (.inr (.inr (60, 0))), some (.inl x2), some (.inl x3), some (.inr (.inr (70, 0))), some (.inl x5), o6, o7, o8, o9] [.inl r58] m58 _
  refine go_blk h.1 (is := [.iconst 1]) (pc' := 62) (ls' := [some (.inr (.inr (0, 0))), some (.inr (.inr (60, 0))), some (.inl x2), some (.inl x3), some (.inr (.inr (70, 0))), some (.inl x5), o6, o7, o8, o9]) (st' := [.inl (1 : Int32), .inl r58]) (m' := m58) (by decide +kernel) rfl ?_
  refine go_icmpne h.1 (off := 32) 94 (by decide +kernel) (by decide) (fun c62 => ?_) (fun c62 => ?_)
  · refine go_blk h.1 (is := [.bipush (-99)]) (pc' := 96) (ls' := [some (.inr (.inr (0, 0))), some (.inr (.inr (60, 0))), some (.inl x2), some (.inl x3), some (.inr (.inr (70, 0))), some (.inl x5), o6, o7, o8, o9]) (st' := [.inl (-99 : Int32)]) (m' := m58) (by decide +kernel) rfl ?_
    exact go_iret h.1 h.2.2.2.2 (by decide +kernel)
  · refine go_blk h.1 (is := [.aload_n 0, .iconst 0, .iconst 0, .bipush 104]) (pc' := 70) (ls' := [some (.inr (.inr (0, 0))), some (.inr (.inr (60, 0))), some (.inl x2), some (.inl x3), some (.inr (.inr (70, 0))), some (.inl x5), o6, o7, o8, o9]) (st' := [.inl (104 : Int32), .inl (0 : Int32), .inl (0 : Int32), .inr (.inr (0, 0))]) (m' := m58) (by decide +kernel) rfl ?_
    refine go_callV h.1 (index := 25) (n := 3) (t := 0) (i := 0) (ci := 6) (nf := 7) (cz := (RX6, TX6, 7)) (as := [.inl (0 : Int32), .inl (0 : Int32), .inl (104 : Int32)]) (rest := []) (ctr_X6_put (xZ X) (0 : Int32) (0 : Int32) (104 : Int32) m58) (by decide +kernel) rfl rfl wd_v_L_25 rfl (h.room (by first | decide | omega) (by decide)) h.cl (Nat.le_of_ble_eq_true rfl) puI_ok rfl (fun r70 m70 _ => ?_)
    show Go X (Em X puI) 73 [some (.inr (.inr (0, 0))), some (.inr (.inr (60, 0))), some (.inl x2), some (.inl x3), some (.inr (.inr (70, 0))), some (.inl x5), o6, o7, o8, o9] [.inl r70] m70 _
    refine go_blk h.1 (is := [.iconst 1]) (pc' := 74) (ls' := [some (.inr (.inr (0, 0))), some (.inr (.inr (60, 0))), some (.inl x2), some (.inl x3), some (.inr (.inr (70, 0))), some (.inl x5), o6, o7, o8, o9]) (st' := [.inl (1 : Int32), .inl r70]) (m' := m70) (by decide +kernel) rfl ?_
    refine go_icmpne h.1 (off := 20) 94 (by decide +kernel) (by decide) (fun c74 => ?_) (fun c74 => ?_)
    · refine go_blk h.1 (is := [.bipush (-99)]) (pc' := 96) (ls' := [some (.inr (.inr (0, 0))), some (.inr (.inr (60, 0))), some (.inl x2), some (.inl x3), some (.inr (.inr (70, 0))), some (.inl x5), o6, o7, o8, o9]) (st' := [.inl (-99 : Int32)]) (m' := m70) (by decide +kernel) rfl ?_
      exact go_iret h.1 h.2.2.2.2 (by decide +kernel)
    · refine go_blk h.1 (is := [.aload_n 0, .iconst 0, .iconst 1, .bipush 48, .aload 4, .iconst 0]) (pc' := 85) (ls' := [some (.inr (.inr (0, 0))), some (.inr (.inr (60, 0))), some (.inl x2), some (.inl x3), some (.inr (.inr (70, 0))), some (.inl x5), o6, o7, o8, o9]) (st' := [.inl (0 : Int32), .inr (.inr (70, 0)), .inl (48 : Int32), .inl (1 : Int32), .inl (0 : Int32), .inr (.inr (0, 0))]) (m' := m70) (by decide +kernel) rfl ?_
      refine go_iald h.1 (by decide +kernel) rfl rfl (fun b85 => ?_)
      show Go X (Em X puI) 86 [some (.inr (.inr (0, 0))), some (.inr (.inr (60, 0))), some (.inl x2), some (.inl x3), some (.inr (.inr (70, 0))), some (.inl x5), o6, o7, o8, o9] [.inl (m70 70 0 (ix (0 : Int32))), .inl (48 : Int32), .inl (1 : Int32), .inl (0 : Int32), .inr (.inr (0, 0))] m70 _
      refine go_blk h.1 (is := [.iadd]) (pc' := 87) (ls' := [some (.inr (.inr (0, 0))), some (.inr (.inr (60, 0))), some (.inl x2), some (.inl x3), some (.inr (.inr (70, 0))), some (.inl x5), o6, o7, o8, o9]) (st' := [.inl ((48 : Int32) + (m70 70 0 (ix (0 : Int32)))), .inl (1 : Int32), .inl (0 : Int32), .inr (.inr (0, 0))]) (m' := m70) (by decide +kernel) rfl ?_
      refine go_callV h.1 (index := 25) (n := 3) (t := 0) (i := 0) (ci := 6) (nf := 7) (cz := (RX6, TX6, 7)) (as := [.inl (0 : Int32), .inl (1 : Int32), .inl ((48 : Int32) + (m70 70 0 (ix (0 : Int32))))]) (rest := []) (ctr_X6_put (xZ X) (0 : Int32) (1 : Int32) ((48 : Int32) + (m70 70 0 (ix (0 : Int32)))) m70) (by decide +kernel) rfl rfl wd_v_L_25 rfl (h.room (by first | decide | omega) (by decide)) h.cl (Nat.le_of_ble_eq_true rfl) puI_ok rfl (fun r87 m87 _ => ?_)
      show Go X (Em X puI) 90 [some (.inr (.inr (0, 0))), some (.inr (.inr (60, 0))), some (.inl x2), some (.inl x3), some (.inr (.inr (70, 0))), some (.inl x5), o6, o7, o8, o9] [.inl r87] m87 _
      refine go_blk h.1 (is := [.iconst 1]) (pc' := 91) (ls' := [some (.inr (.inr (0, 0))), some (.inr (.inr (60, 0))), some (.inl x2), some (.inl x3), some (.inr (.inr (70, 0))), some (.inl x5), o6, o7, o8, o9]) (st' := [.inl (1 : Int32), .inl r87]) (m' := m87) (by decide +kernel) rfl ?_
      refine go_icmpeq h.1 (off := 6) 97 (by decide +kernel) (by decide) (fun c91 => ?_) (fun c91 => ?_)
      · refine go_blk h.1 (is := [.iconst 2, .istore 6, .iconst 0, .istore 7]) (pc' := 103) (ls' := [some (.inr (.inr (0, 0))), some (.inr (.inr (60, 0))), some (.inl x2), some (.inl x3), some (.inr (.inr (70, 0))), some (.inl x5), some (.inl (2 : Int32)), some (.inl (0 : Int32)), o8, o9]) (st' := []) (m' := m87) (by decide +kernel) rfl ?_
        refine go_lp2 (hd := fun (y6 : Int32) (y7 : Int32) (n : Mem) o => ∀ (o3 : Option AV) (o8 : Option AV) (o9 : Option AV), Go X (Em X puI) 103 [some (.inr (.inr (0, 0))), some (.inr (.inr (60, 0))), some (.inl x2), o3, some (.inr (.inr (70, 0))), some (.inl x5), some (.inl y6), some (.inl y7), o8, o9] [] n o) (fun _ _ _ _ _ _ => go_none) (fun y6 y7 n nx_ hn_ => g_L_put_b103 h x2 x5 nx_ _ hn_ (fun z6_103 z_103 o0_103 o1_103 o2_103 o3_103 o4_103 o5_103 o7_103 o8_103 o9_103 => ?_) (y6, y7, n)) fuelN (2 : Int32) (0 : Int32) m87 (some (.inl x3)) (o8) (o9)
        refine go_blk h.1 (is := [.iload 6]) (pc' := 369) (ls' := [o0_103, o1_103, o2_103, o3_103, o4_103, o5_103, some (.inl z6_103), o7_103, o8_103, o9_103]) (st' := [.inl z6_103]) (m' := z_103) (by decide +kernel) rfl ?_
        exact go_iret h.1 h.2.2.2.2 (by decide +kernel)
      · refine go_blk h.1 (is := [.bipush (-99)]) (pc' := 96) (ls' := [some (.inr (.inr (0, 0))), some (.inr (.inr (60, 0))), some (.inl x2), some (.inl x3), some (.inr (.inr (70, 0))), some (.inl x5), o6, o7, o8, o9]) (st' := [.inl (-99 : Int32)]) (m' := m87) (by decide +kernel) rfl ?_
        exact go_iret h.1 h.2.2.2.2 (by decide +kernel)

def f_L_put (L : Nat) (xsc : Nat → Int32) (x2 : Int32) (x3 : Int32) (m : Mem) : Option (Int32 × Mem) :=
  bnd (f_L_cell L xsc x2 m) (fun r2 m2 =>
    bnd (f_L_some L xsc (r2 >>> ((7 : Int32) &&& 31)) (2 : Int32) m2) (fun r18 m18 =>
      if r18 = 0 then
        f_L_put_j30 L xsc (10 : Int32) r2 (0 : Int32) x2 x3 r2 m18
      else
        f_L_put_j30 L xsc (3 : Int32) r2 (0 : Int32) x2 x3 r2 m18))
theorem g_L_put {X : XT} (h : MX X method_4_code P_L 3 (some .int)) (x2 : Int32) (x3 : Int32) (m : Mem) : Go X (Em X puI) 0 [some (.inr (.inr (0, 0))), some (.inr (.inr (60, 0))), some (.inl x2), some (.inl x3), some (.inr (.inr (70, 0))), none, none, none, none, none] [] m (f_L_put (xL X) (xx X) x2 x3 m) := by
  unfold f_L_put
  refine go_blk h.1 (is := [.aload_n 1, .iload_n 2]) (pc' := 2) (ls' := [some (.inr (.inr (0, 0))), some (.inr (.inr (60, 0))), some (.inl x2), some (.inl x3), some (.inr (.inr (70, 0))), none, none, none, none, none]) (st' := [.inl x2, .inr (.inr (60, 0))]) (m' := m) (by decide +kernel) rfl ?_
  refine go_callS h.1 (index := 9) (n := 2) (as := [.inr (.inr (60, 0)), .inl x2]) (rest := []) (ctr_L_cell (xZ X) x2 m) (by decide +kernel) wd_s_L_9 rfl (h.room (by first | decide | omega) (by decide)) h.cl (Nat.le_of_ble_eq_true rfl) puI_ok rfl (fun r2 m2 _ => ?_)
  show Go X (Em X puI) 5 [some (.inr (.inr (0, 0))), some (.inr (.inr (60, 0))), some (.inl x2), some (.inl x3), some (.inr (.inr (70, 0))), none, none, none, none, none] [.inl r2] m2 _
  refine go_blk h.1 (is := [.istore 5, .aload 4, .iconst 0, .iload 5, .iload 5, .bipush 7, .ishr, .iconst 2]) (pc' := 18) (ls' := [some (.inr (.inr (0, 0))), some (.inr (.inr (60, 0))), some (.inl x2), some (.inl x3), some (.inr (.inr (70, 0))), some (.inl r2), none, none, none, none]) (st' := [.inl (2 : Int32), .inl (r2 >>> ((7 : Int32) &&& 31)), .inl r2, .inl (0 : Int32), .inr (.inr (70, 0))]) (m' := m2) (by decide +kernel) rfl ?_
  refine go_callS h.1 (index := 15) (n := 2) (as := [.inl (r2 >>> ((7 : Int32) &&& 31)), .inl (2 : Int32)]) (rest := [.inl r2, .inl (0 : Int32), .inr (.inr (70, 0))]) (ctr_L_some (xZ X) (r2 >>> ((7 : Int32) &&& 31)) (2 : Int32) m2) (by decide +kernel) wd_s_L_15 rfl (h.room (by first | decide | omega) (by decide)) h.cl (Nat.le_of_ble_eq_true rfl) puI_ok rfl (fun r18 m18 _ => ?_)
  show Go X (Em X puI) 21 [some (.inr (.inr (0, 0))), some (.inr (.inr (60, 0))), some (.inl x2), some (.inl x3), some (.inr (.inr (70, 0))), some (.inl r2), none, none, none, none] [.inl r18, .inl r2, .inl (0 : Int32), .inr (.inr (70, 0))] m18 _
  refine go_ifne h.1 (off := 8) 29 (by decide +kernel) (by decide) (fun c21 => ?_) (fun c21 => ?_)
  · refine go_blk h.1 (is := [.iconst 3]) (pc' := 30) (ls' := [some (.inr (.inr (0, 0))), some (.inr (.inr (60, 0))), some (.inl x2), some (.inl x3), some (.inr (.inr (70, 0))), some (.inl r2), none, none, none, none]) (st' := [.inl (3 : Int32), .inl r2, .inl (0 : Int32), .inr (.inr (70, 0))]) (m' := m18) (by decide +kernel) rfl ?_
    exact g_L_put_j30 h (3 : Int32) r2 (0 : Int32) x2 x3 r2 m18 (none) (none) (none) (none)
  · refine go_blk h.1 (is := [.bipush 10]) (pc' := 26) (ls' := [some (.inr (.inr (0, 0))), some (.inr (.inr (60, 0))), some (.inl x2), some (.inl x3), some (.inr (.inr (70, 0))), some (.inl r2), none, none, none, none]) (st' := [.inl (10 : Int32), .inl r2, .inl (0 : Int32), .inr (.inr (70, 0))]) (m' := m18) (by decide +kernel) rfl ?_
    refine go_goto h.1 (off := 4) 30 (by decide +kernel) (by decide) ?_
    exact g_L_put_j30 h (10 : Int32) r2 (0 : Int32) x2 x3 r2 m18 (none) (none) (none) (none)
theorem ctr_L_put (Z : ZT) (x2 : Int32) (x3 : Int32) (m : Mem) : Ctr Z yL_put method_4_code 10 (some .int) 3 puI [.inr (.inr (0, 0)), .inr (.inr (60, 0)), .inl x2, .inl x3, .inr (.inr (70, 0))] m (f_L_put (zL Z) (zx Z) x2 x3 m) :=
  ctr_of (P := P_L) (by decide +kernel) rfl pt_L rfl rfl (fun X hC hZ hR h0 h1 hr => by subst hZ; exact g_L_put ⟨hC, hR, h0, h1, hr⟩ x2 x3 m)

def f_L_begin_j26 (L : Nat) (xsc : Nat → Int32) (next : Int32 × Mem → Option (Unit × Mem)) (exit : Mem → Option (Unit × Mem)) (s0 : Int32) (s1 : Int32) (x3 : Int32) (m : Mem) : Option (Unit × Mem) :=
  if inB s1 9 = true then
    next ((x3 + (1 : Int32)), (mset m 72 0 (ix s1) s0))
  else none
theorem g_L_begin_j26 {X : XT} (h : MX X method_7_code P_L 0 none) (next : Int32 × Mem → Option (Unit × Mem)) (exit : Mem → Option (Unit × Mem)) (s0 : Int32) (s1 : Int32) (x3 : Int32) (m : Mem) (hn : ∀ (y3 : Int32) (n : Mem), Go X (Em X puV) 2 [some (.inr (.inr (70, 0))), some (.inr (.inr (72, 0))), some (.inr (.inr (73, 0))), some (.inl y3)] [] n (next (y3, n))) (hx : ∀ (n : Mem) (o3 : Option AV), Go X (Em X puV) 33 [some (.inr (.inr (70, 0))), some (.inr (.inr (72, 0))), some (.inr (.inr (73, 0))), o3] [] n (exit (n))) : Go X (Em X puV) 26 [some (.inr (.inr (70, 0))), some (.inr (.inr (72, 0))), some (.inr (.inr (73, 0))), some (.inl x3)] [.inl s0, .inl s1, .inr (.inr (72, 0))] m (f_L_begin_j26 (xL X) (xx X) next exit s0 s1 x3 m) := by
  unfold f_L_begin_j26
  refine go_iast h.1 (by decide +kernel) rfl rfl (fun b26 => ?_)
  refine go_blk h.1 (is := [.iinc 3 1]) (pc' := 30) (ls' := [some (.inr (.inr (70, 0))), some (.inr (.inr (72, 0))), some (.inr (.inr (73, 0))), some (.inl (x3 + (1 : Int32)))]) (st' := []) (m' := (mset m 72 0 (ix s1) s0)) (by decide +kernel) rfl ?_
  refine go_goto h.1 (off := -28) 2 (by decide +kernel) (by decide) ?_
  exact hn (x3 + (1 : Int32)) (mset m 72 0 (ix s1) s0)

def f_L_begin_b2 (L : Nat) (xsc : Nat → Int32) (next : Int32 × Mem → Option (Unit × Mem)) (exit : Mem → Option (Unit × Mem)) (s : Int32 × Mem) : Option (Unit × Mem) :=
  if (5 : Int32) ≤ s.1 then
    exit (s.2)
  else
    if inB (1 : Int32) 28 = true then
      if (s.2 70 0 (ix (1 : Int32))) ≤ s.1 then
        f_L_begin_j26 L xsc next exit (0 : Int32) s.1 s.1 s.2
      else
        if inB ((13 : Int32) + s.1) 28 = true then
          f_L_begin_j26 L xsc next exit (s.2 70 0 (ix ((13 : Int32) + s.1))) s.1 s.1 s.2
        else none
    else none
theorem g_L_begin_b2 {X : XT} (h : MX X method_7_code P_L 0 none) (next : Int32 × Mem → Option (Unit × Mem)) (exit : Mem → Option (Unit × Mem)) (hn : ∀ (y3 : Int32) (n : Mem), Go X (Em X puV) 2 [some (.inr (.inr (70, 0))), some (.inr (.inr (72, 0))), some (.inr (.inr (73, 0))), some (.inl y3)] [] n (next (y3, n))) (hx : ∀ (n : Mem) (o3 : Option AV), Go X (Em X puV) 33 [some (.inr (.inr (70, 0))), some (.inr (.inr (72, 0))), some (.inr (.inr (73, 0))), o3] [] n (exit (n))) (s : Int32 × Mem) : Go X (Em X puV) 2 [some (.inr (.inr (70, 0))), some (.inr (.inr (72, 0))), some (.inr (.inr (73, 0))), some (.inl s.1)] [] s.2 (f_L_begin_b2 (xL X) (xx X) next exit s) := by
  unfold f_L_begin_b2
  refine go_blk h.1 (is := [.iload_n 3, .iconst 5]) (pc' := 4) (ls' := [some (.inr (.inr (70, 0))), some (.inr (.inr (72, 0))), some (.inr (.inr (73, 0))), some (.inl s.1)]) (st' := [.inl (5 : Int32), .inl s.1]) (m' := s.2) (by decide +kernel) rfl ?_
  refine go_icmpge h.1 (off := 29) 33 (by decide +kernel) (by decide) (fun c4 => ?_) (fun c4 => ?_)
  · exact hx s.2 (some (.inl s.1))
  · refine go_blk h.1 (is := [.aload_n 1, .iload_n 3, .iload_n 3, .aload_n 0, .iconst 1]) (pc' := 12) (ls' := [some (.inr (.inr (70, 0))), some (.inr (.inr (72, 0))), some (.inr (.inr (73, 0))), some (.inl s.1)]) (st' := [.inl (1 : Int32), .inr (.inr (70, 0)), .inl s.1, .inl s.1, .inr (.inr (72, 0))]) (m' := s.2) (by decide +kernel) rfl ?_
    refine go_iald h.1 (by decide +kernel) rfl rfl (fun b12 => ?_)
    show Go X (Em X puV) 13 [some (.inr (.inr (70, 0))), some (.inr (.inr (72, 0))), some (.inr (.inr (73, 0))), some (.inl s.1)] [.inl (s.2 70 0 (ix (1 : Int32))), .inl s.1, .inl s.1, .inr (.inr (72, 0))] s.2 _
    refine go_icmpge h.1 (off := 12) 25 (by decide +kernel) (by decide) (fun c13 => ?_) (fun c13 => ?_)
    · refine go_blk h.1 (is := [.iconst 0]) (pc' := 26) (ls' := [some (.inr (.inr (70, 0))), some (.inr (.inr (72, 0))), some (.inr (.inr (73, 0))), some (.inl s.1)]) (st' := [.inl (0 : Int32), .inl s.1, .inr (.inr (72, 0))]) (m' := s.2) (by decide +kernel) rfl ?_
      exact g_L_begin_j26 h next exit (0 : Int32) s.1 s.1 s.2 hn hx
    · refine go_blk h.1 (is := [.aload_n 0, .bipush 13, .iload_n 3, .iadd]) (pc' := 21) (ls' := [some (.inr (.inr (70, 0))), some (.inr (.inr (72, 0))), some (.inr (.inr (73, 0))), some (.inl s.1)]) (st' := [.inl ((13 : Int32) + s.1), .inr (.inr (70, 0)), .inl s.1, .inr (.inr (72, 0))]) (m' := s.2) (by decide +kernel) rfl ?_
      refine go_iald h.1 (by decide +kernel) rfl rfl (fun b21 => ?_)
      show Go X (Em X puV) 22 [some (.inr (.inr (70, 0))), some (.inr (.inr (72, 0))), some (.inr (.inr (73, 0))), some (.inl s.1)] [.inl (s.2 70 0 (ix ((13 : Int32) + s.1))), .inl s.1, .inr (.inr (72, 0))] s.2 _
      refine go_goto h.1 (off := 4) 26 (by decide +kernel) (by decide) ?_
      exact g_L_begin_j26 h next exit (s.2 70 0 (ix ((13 : Int32) + s.1))) s.1 s.1 s.2 hn hx

def f_L_begin_b56 (L : Nat) (xsc : Nat → Int32) (next : Int32 × Mem → Option (Unit × Mem)) (exit : Mem → Option (Unit × Mem)) (s : Int32 × Mem) : Option (Unit × Mem) :=
  if (25 : Int32) ≤ s.1 then
    exit (s.2)
  else
    if inB s.1 25 = true then
      next ((s.1 + (1 : Int32)), (mset s.2 73 0 (ix s.1) (0 : Int32)))
    else none
theorem g_L_begin_b56 {X : XT} (h : MX X method_7_code P_L 0 none) (next : Int32 × Mem → Option (Unit × Mem)) (exit : Mem → Option (Unit × Mem)) (hn : ∀ (y3 : Int32) (n : Mem) (o0 : Option AV) (o1 : Option AV), Go X (Em X puV) 56 [o0, o1, some (.inr (.inr (73, 0))), some (.inl y3)] [] n (next (y3, n))) (hx : ∀ (n : Mem) (o0 : Option AV) (o1 : Option AV) (o2 : Option AV) (o3 : Option AV), Go X (Em X puV) 72 [o0, o1, o2, o3] [] n (exit (n))) (s : Int32 × Mem) (o0 : Option AV) (o1 : Option AV) : Go X (Em X puV) 56 [o0, o1, some (.inr (.inr (73, 0))), some (.inl s.1)] [] s.2 (f_L_begin_b56 (xL X) (xx X) next exit s) := by
  unfold f_L_begin_b56
  refine go_blk h.1 (is := [.iload_n 3, .bipush 25]) (pc' := 59) (ls' := [o0, o1, some (.inr (.inr (73, 0))), some (.inl s.1)]) (st' := [.inl (25 : Int32), .inl s.1]) (m' := s.2) (by decide +kernel) rfl ?_
  refine go_icmpge h.1 (off := 13) 72 (by decide +kernel) (by decide) (fun c59 => ?_) (fun c59 => ?_)
  · exact hx s.2 (o0) (o1) (some (.inr (.inr (73, 0)))) (some (.inl s.1))
  · refine go_blk h.1 (is := [.aload_n 2, .iload_n 3, .iconst 0]) (pc' := 65) (ls' := [o0, o1, some (.inr (.inr (73, 0))), some (.inl s.1)]) (st' := [.inl (0 : Int32), .inl s.1, .inr (.inr (73, 0))]) (m' := s.2) (by decide +kernel) rfl ?_
    refine go_iast h.1 (by decide +kernel) rfl rfl (fun b65 => ?_)
    refine go_blk h.1 (is := [.iinc 3 1]) (pc' := 69) (ls' := [o0, o1, some (.inr (.inr (73, 0))), some (.inl (s.1 + (1 : Int32)))]) (st' := []) (m' := (mset s.2 73 0 (ix s.1) (0 : Int32))) (by decide +kernel) rfl ?_
    refine go_goto h.1 (off := -13) 56 (by decide +kernel) (by decide) ?_
    exact hn (s.1 + (1 : Int32)) (mset s.2 73 0 (ix s.1) (0 : Int32)) (o0) (o1)

def f_L_begin (L : Nat) (xsc : Nat → Int32) (m : Mem) : Option (Unit × Mem) :=
  lpk (f_L_begin_b2 L xsc) fuelN ((0 : Int32), m) (fun t2 =>
    if inB (5 : Int32) 9 = true then
      if inB (6 : Int32) 9 = true then
        if inB (2 : Int32) 28 = true then
          if inB (7 : Int32) 9 = true then
            if inB (8 : Int32) 9 = true then
              lpk (f_L_begin_b56 L xsc) fuelN ((0 : Int32), (mset (mset (mset (mset t2 72 0 (ix (5 : Int32)) (0 : Int32)) 72 0 (ix (6 : Int32)) (0 : Int32)) 72 0 (ix (7 : Int32)) (t2 70 0 (ix (2 : Int32)))) 72 0 (ix (8 : Int32)) (0 : Int32))) (fun t56 =>
                some ((), t56))
            else none
          else none
        else none
      else none
    else none)
theorem g_L_begin {X : XT} (h : MX X method_7_code P_L 0 none) (m : Mem) : Go X (Em X puV) 0 [some (.inr (.inr (70, 0))), some (.inr (.inr (72, 0))), some (.inr (.inr (73, 0))), none] [] m (f_L_begin (xL X) (xx X) m) := by
  unfold f_L_begin
  refine go_blk h.1 (is := [.iconst 0, .istore_n 3]) (pc' := 2) (ls' := [some (.inr (.inr (70, 0))), some (.inr (.inr (72, 0))), some (.inr (.inr (73, 0))), some (.inl (0 : Int32))]) (st' := []) (m' := m) (by decide +kernel) rfl ?_
  refine go_lp1 (hd := fun (y3 : Int32) (n : Mem) o => Go X (Em X puV) 2 [some (.inr (.inr (70, 0))), some (.inr (.inr (72, 0))), some (.inr (.inr (73, 0))), some (.inl y3)] [] n o) (fun _ _ => go_none) (fun y3 n nx_ hn_ => g_L_begin_b2 h nx_ _ hn_ (fun z_2 o3_2 => ?_) (y3, n)) fuelN (0 : Int32) m
  refine go_blk h.1 (is := [.aload_n 1, .iconst 5, .iconst 0]) (pc' := 36) (ls' := [some (.inr (.inr (70, 0))), some (.inr (.inr (72, 0))), some (.inr (.inr (73, 0))), o3_2]) (st' := [.inl (0 : Int32), .inl (5 : Int32), .inr (.inr (72, 0))]) (m' := z_2) (by decide +kernel) rfl ?_
  refine go_iast h.1 (by decide +kernel) rfl rfl (fun b36 => ?_)
  refine go_blk h.1 (is := [.aload_n 1, .bipush 6, .iconst 0]) (pc' := 41) (ls' := [some (.inr (.inr (70, 0))), some (.inr (.inr (72, 0))), some (.inr (.inr (73, 0))), o3_2]) (st' := [.inl (0 : Int32), .inl (6 : Int32), .inr (.inr (72, 0))]) (m' := (mset z_2 72 0 (ix (5 : Int32)) (0 : Int32))) (by decide +kernel) rfl ?_
  refine go_iast h.1 (by decide +kernel) rfl rfl (fun b41 => ?_)
  refine go_blk h.1 (is := [.aload_n 1, .bipush 7, .aload_n 0, .iconst 2]) (pc' := 47) (ls' := [some (.inr (.inr (70, 0))), some (.inr (.inr (72, 0))), some (.inr (.inr (73, 0))), o3_2]) (st' := [.inl (2 : Int32), .inr (.inr (70, 0)), .inl (7 : Int32), .inr (.inr (72, 0))]) (m' := (mset (mset z_2 72 0 (ix (5 : Int32)) (0 : Int32)) 72 0 (ix (6 : Int32)) (0 : Int32))) (by decide +kernel) rfl ?_
  refine go_iald h.1 (by decide +kernel) rfl rfl (fun b47 => ?_)
  show Go X (Em X puV) 48 [some (.inr (.inr (70, 0))), some (.inr (.inr (72, 0))), some (.inr (.inr (73, 0))), o3_2] [.inl (z_2 70 0 (ix (2 : Int32))), .inl (7 : Int32), .inr (.inr (72, 0))] (mset (mset z_2 72 0 (ix (5 : Int32)) (0 : Int32)) 72 0 (ix (6 : Int32)) (0 : Int32)) _
  refine go_iast h.1 (by decide +kernel) rfl rfl (fun b48 => ?_)
  refine go_blk h.1 (is := [.aload_n 1, .bipush 8, .iconst 0]) (pc' := 53) (ls' := [some (.inr (.inr (70, 0))), some (.inr (.inr (72, 0))), some (.inr (.inr (73, 0))), o3_2]) (st' := [.inl (0 : Int32), .inl (8 : Int32), .inr (.inr (72, 0))]) (m' := (mset (mset (mset z_2 72 0 (ix (5 : Int32)) (0 : Int32)) 72 0 (ix (6 : Int32)) (0 : Int32)) 72 0 (ix (7 : Int32)) (z_2 70 0 (ix (2 : Int32))))) (by decide +kernel) rfl ?_
  refine go_iast h.1 (by decide +kernel) rfl rfl (fun b53 => ?_)
  refine go_blk h.1 (is := [.iconst 0, .istore_n 3]) (pc' := 56) (ls' := [some (.inr (.inr (70, 0))), some (.inr (.inr (72, 0))), some (.inr (.inr (73, 0))), some (.inl (0 : Int32))]) (st' := []) (m' := (mset (mset (mset (mset z_2 72 0 (ix (5 : Int32)) (0 : Int32)) 72 0 (ix (6 : Int32)) (0 : Int32)) 72 0 (ix (7 : Int32)) (z_2 70 0 (ix (2 : Int32)))) 72 0 (ix (8 : Int32)) (0 : Int32))) (by decide +kernel) rfl ?_
  refine go_lp1 (hd := fun (y3 : Int32) (n : Mem) o => ∀ (o0 : Option AV) (o1 : Option AV), Go X (Em X puV) 56 [o0, o1, some (.inr (.inr (73, 0))), some (.inl y3)] [] n o) (fun _ _ _ _ => go_none) (fun y3 n nx_ hn_ => g_L_begin_b56 h nx_ _ hn_ (fun z_56 o0_56 o1_56 o2_56 o3_56 => ?_) (y3, n)) fuelN (0 : Int32) (mset (mset (mset (mset z_2 72 0 (ix (5 : Int32)) (0 : Int32)) 72 0 (ix (6 : Int32)) (0 : Int32)) 72 0 (ix (7 : Int32)) (z_2 70 0 (ix (2 : Int32)))) 72 0 (ix (8 : Int32)) (0 : Int32)) (some (.inr (.inr (70, 0)))) (some (.inr (.inr (72, 0))))
  exact go_vret h.1 h.2.2.2.2 (by decide +kernel)
theorem ctr_L_begin (Z : ZT) (m : Mem) : Ctr Z yL_begin method_7_code 4 none 0 puV [.inr (.inr (70, 0)), .inr (.inr (72, 0)), .inr (.inr (73, 0))] m (f_L_begin (zL Z) (zx Z) m) :=
  ctr_of (P := P_L) (by decide +kernel) rfl pt_L rfl rfl (fun X hC hZ hR h0 h1 hr => by subst hZ; exact g_L_begin ⟨hC, hR, h0, h1, hr⟩ m)

def f_L_share (L : Nat) (xsc : Nat → Int32) (x1 : Int32) (m : Mem) : Option (Int32 × Mem) :=
  if inB ((3 : Int32) + x1) 28 = true then
    if (m 70 0 (ix ((3 : Int32) + x1))) = 0 then
      if inB ((8 : Int32) + x1) 28 = true then
        some ((m 70 0 (ix ((8 : Int32) + x1))), m)
      else none
    else
      if inB ((3 : Int32) + x1) 28 = true then
        if (m 70 0 (ix ((3 : Int32) + x1))) = (1 : Int32) then
          if inB ((8 : Int32) + x1) 28 = true then
            some (((m 70 0 (ix ((8 : Int32) + x1))) - (1 : Int32)), m)
          else none
        else
          if inB ((8 : Int32) + x1) 28 = true then
            if ¬ (2 : Int32) = 0 then dv (((m 70 0 (ix ((8 : Int32) + x1))) - (1 : Int32)) / (2 : Int32)) (fun q44 =>
              some (q44, m))
            else none
          else none
      else none
  else none
theorem g_L_share {X : XT} (h : MX X method_6_code P_L 0 (some .int)) (x1 : Int32) (m : Mem) : Go X (Em X puI) 0 [some (.inr (.inr (70, 0))), some (.inl x1)] [] m (f_L_share (xL X) (xx X) x1 m) := by
  unfold f_L_share
  refine go_blk h.1 (is := [.aload_n 0, .iconst 3, .iload_n 1, .iadd]) (pc' := 4) (ls' := [some (.inr (.inr (70, 0))), some (.inl x1)]) (st' := [.inl ((3 : Int32) + x1), .inr (.inr (70, 0))]) (m' := m) (by decide +kernel) rfl ?_
  refine go_iald h.1 (by decide +kernel) rfl rfl (fun b4 => ?_)
  show Go X (Em X puI) 5 [some (.inr (.inr (70, 0))), some (.inl x1)] [.inl (m 70 0 (ix ((3 : Int32) + x1)))] m _
  refine go_ifne h.1 (off := 10) 15 (by decide +kernel) (by decide) (fun c5 => ?_) (fun c5 => ?_)
  · refine go_blk h.1 (is := [.aload_n 0, .iconst 3, .iload_n 1, .iadd]) (pc' := 19) (ls' := [some (.inr (.inr (70, 0))), some (.inl x1)]) (st' := [.inl ((3 : Int32) + x1), .inr (.inr (70, 0))]) (m' := m) (by decide +kernel) rfl ?_
    refine go_iald h.1 (by decide +kernel) rfl rfl (fun b19 => ?_)
    show Go X (Em X puI) 20 [some (.inr (.inr (70, 0))), some (.inl x1)] [.inl (m 70 0 (ix ((3 : Int32) + x1)))] m _
    refine go_blk h.1 (is := [.iconst 1]) (pc' := 21) (ls' := [some (.inr (.inr (70, 0))), some (.inl x1)]) (st' := [.inl (1 : Int32), .inl (m 70 0 (ix ((3 : Int32) + x1)))]) (m' := m) (by decide +kernel) rfl ?_
    refine go_icmpne h.1 (off := 14) 35 (by decide +kernel) (by decide) (fun c21 => ?_) (fun c21 => ?_)
    · refine go_blk h.1 (is := [.aload_n 0, .bipush 8, .iload_n 1, .iadd]) (pc' := 40) (ls' := [some (.inr (.inr (70, 0))), some (.inl x1)]) (st' := [.inl ((8 : Int32) + x1), .inr (.inr (70, 0))]) (m' := m) (by decide +kernel) rfl ?_
      refine go_iald h.1 (by decide +kernel) rfl rfl (fun b40 => ?_)
      show Go X (Em X puI) 41 [some (.inr (.inr (70, 0))), some (.inl x1)] [.inl (m 70 0 (ix ((8 : Int32) + x1)))] m _
      refine go_blk h.1 (is := [.iconst 1, .isub, .iconst 2]) (pc' := 44) (ls' := [some (.inr (.inr (70, 0))), some (.inl x1)]) (st' := [.inl (2 : Int32), .inl ((m 70 0 (ix ((8 : Int32) + x1))) - (1 : Int32))]) (m' := m) (by decide +kernel) rfl ?_
      refine go_idiv h.1 (by decide +kernel) (fun z44 q44 _ => ?_)
      exact go_iret h.1 h.2.2.2.2 (by decide +kernel)
    · refine go_blk h.1 (is := [.aload_n 0, .bipush 8, .iload_n 1, .iadd]) (pc' := 29) (ls' := [some (.inr (.inr (70, 0))), some (.inl x1)]) (st' := [.inl ((8 : Int32) + x1), .inr (.inr (70, 0))]) (m' := m) (by decide +kernel) rfl ?_
      refine go_iald h.1 (by decide +kernel) rfl rfl (fun b29 => ?_)
      show Go X (Em X puI) 30 [some (.inr (.inr (70, 0))), some (.inl x1)] [.inl (m 70 0 (ix ((8 : Int32) + x1)))] m _
      refine go_blk h.1 (is := [.iconst 1, .isub]) (pc' := 32) (ls' := [some (.inr (.inr (70, 0))), some (.inl x1)]) (st' := [.inl ((m 70 0 (ix ((8 : Int32) + x1))) - (1 : Int32))]) (m' := m) (by decide +kernel) rfl ?_
      refine go_goto h.1 (off := 13) 45 (by decide +kernel) (by decide) ?_
      exact go_iret h.1 h.2.2.2.2 (by decide +kernel)
  · refine go_blk h.1 (is := [.aload_n 0, .bipush 8, .iload_n 1, .iadd]) (pc' := 13) (ls' := [some (.inr (.inr (70, 0))), some (.inl x1)]) (st' := [.inl ((8 : Int32) + x1), .inr (.inr (70, 0))]) (m' := m) (by decide +kernel) rfl ?_
    refine go_iald h.1 (by decide +kernel) rfl rfl (fun b13 => ?_)
    show Go X (Em X puI) 14 [some (.inr (.inr (70, 0))), some (.inl x1)] [.inl (m 70 0 (ix ((8 : Int32) + x1)))] m _
    exact go_iret h.1 h.2.2.2.2 (by decide +kernel)
theorem ctr_L_share (Z : ZT) (x1 : Int32) (m : Mem) : Ctr Z yL_share method_6_code 2 (some .int) 0 puI [.inr (.inr (70, 0)), .inl x1] m (f_L_share (zL Z) (zx Z) x1 m) :=
  ctr_of (P := P_L) (by decide +kernel) rfl pt_L rfl rfl (fun X hC hZ hR h0 h1 hr => by subst hZ; exact g_L_share ⟨hC, hR, h0, h1, hr⟩ x1 m)

def f_L_toll_j22 (L : Nat) (xsc : Nat → Int32) (x1 : Int32) (x3 : Int32) (m : Mem) : Option (Int32 × Mem) :=
  if inB (6 : Int32) 9 = true then
    if (((m 72 0 (ix (6 : Int32))) >>> (x1 &&& 31)) &&& (1 : Int32)) = (1 : Int32) then
      some ((x3 + x3), m)
    else
      some (x3, m)
  else none
theorem g_L_toll_j22 {X : XT} (h : MX X method_8_code P_L 1 (some .int)) (x1 : Int32) (x3 : Int32) (m : Mem) (o0 : Option AV) : Go X (Em X puI) 22 [o0, some (.inl x1), some (.inr (.inr (72, 0))), some (.inl x3)] [] m (f_L_toll_j22 (xL X) (xx X) x1 x3 m) := by
  unfold f_L_toll_j22
  refine go_blk h.1 (is := [.aload_n 2, .bipush 6]) (pc' := 25) (ls' := [o0, some (.inl x1), some (.inr (.inr (72, 0))), some (.inl x3)]) (st' := [.inl (6 : Int32), .inr (.inr (72, 0))]) (m' := m) (by decide +kernel) rfl ?_
  refine go_iald h.1 (by decide +kernel) rfl rfl (fun b25 => ?_)
  show Go X (Em X puI) 26 [o0, some (.inl x1), some (.inr (.inr (72, 0))), some (.inl x3)] [.inl (m 72 0 (ix (6 : Int32)))] m _
  refine go_blk h.1 (is := [.iload_n 1, .ishr, .iconst 1, .iand, .iconst 1]) (pc' := 31) (ls' := [o0, some (.inl x1), some (.inr (.inr (72, 0))), some (.inl x3)]) (st' := [.inl (1 : Int32), .inl (((m 72 0 (ix (6 : Int32))) >>> (x1 &&& 31)) &&& (1 : Int32))]) (m' := m) (by decide +kernel) rfl ?_
  refine go_icmpne h.1 (off := 9) 40 (by decide +kernel) (by decide) (fun c31 => ?_) (fun c31 => ?_)
  · refine go_blk h.1 (is := [.iload_n 3]) (pc' := 41) (ls' := [o0, some (.inl x1), some (.inr (.inr (72, 0))), some (.inl x3)]) (st' := [.inl x3]) (m' := m) (by decide +kernel) rfl ?_
    exact go_iret h.1 h.2.2.2.2 (by decide +kernel)
  · refine go_blk h.1 (is := [.iload_n 3, .iload_n 3, .iadd]) (pc' := 37) (ls' := [o0, some (.inl x1), some (.inr (.inr (72, 0))), some (.inl x3)]) (st' := [.inl (x3 + x3)]) (m' := m) (by decide +kernel) rfl ?_
    refine go_goto h.1 (off := 4) 41 (by decide +kernel) (by decide) ?_
    exact go_iret h.1 h.2.2.2.2 (by decide +kernel)

def f_L_toll (L : Nat) (xsc : Nat → Int32) (x1 : Int32) (m : Mem) : Option (Int32 × Mem) :=
  bnd (f_L_share L xsc x1 m) (fun r2 m2 =>
    if inB (5 : Int32) 9 = true then
      if (((m2 72 0 (ix (5 : Int32))) >>> (x1 &&& 31)) &&& (1 : Int32)) = 0 then
        if inB (0 : Int32) 28 = true then
          f_L_toll_j22 L xsc x1 (r2 + (m2 70 0 (ix (0 : Int32)))) m2
        else none
      else
        f_L_toll_j22 L xsc x1 r2 m2
    else none)
theorem g_L_toll {X : XT} (h : MX X method_8_code P_L 1 (some .int)) (x1 : Int32) (m : Mem) : Go X (Em X puI) 0 [some (.inr (.inr (70, 0))), some (.inl x1), some (.inr (.inr (72, 0))), none] [] m (f_L_toll (xL X) (xx X) x1 m) := by
  unfold f_L_toll
  refine go_blk h.1 (is := [.aload_n 0, .iload_n 1]) (pc' := 2) (ls' := [some (.inr (.inr (70, 0))), some (.inl x1), some (.inr (.inr (72, 0))), none]) (st' := [.inl x1, .inr (.inr (70, 0))]) (m' := m) (by decide +kernel) rfl ?_
  refine go_callS h.1 (index := 38) (n := 2) (as := [.inr (.inr (70, 0)), .inl x1]) (rest := []) (ctr_L_share (xZ X) x1 m) (by decide +kernel) wd_s_L_38 rfl (h.room (by first | decide | omega) (by decide)) h.cl (Nat.le_of_ble_eq_true rfl) puI_ok rfl (fun r2 m2 _ => ?_)
  show Go X (Em X puI) 5 [some (.inr (.inr (70, 0))), some (.inl x1), some (.inr (.inr (72, 0))), none] [.inl r2] m2 _
  refine go_blk h.1 (is := [.istore_n 3, .aload_n 2, .iconst 5]) (pc' := 8) (ls' := [some (.inr (.inr (70, 0))), some (.inl x1), some (.inr (.inr (72, 0))), some (.inl r2)]) (st' := [.inl (5 : Int32), .inr (.inr (72, 0))]) (m' := m2) (by decide +kernel) rfl ?_
  refine go_iald h.1 (by decide +kernel) rfl rfl (fun b8 => ?_)
  show Go X (Em X puI) 9 [some (.inr (.inr (70, 0))), some (.inl x1), some (.inr (.inr (72, 0))), some (.inl r2)] [.inl (m2 72 0 (ix (5 : Int32)))] m2 _
  refine go_blk h.1 (is := [.iload_n 1, .ishr, .iconst 1, .iand]) (pc' := 13) (ls' := [some (.inr (.inr (70, 0))), some (.inl x1), some (.inr (.inr (72, 0))), some (.inl r2)]) (st' := [.inl (((m2 72 0 (ix (5 : Int32))) >>> (x1 &&& 31)) &&& (1 : Int32))]) (m' := m2) (by decide +kernel) rfl ?_
  refine go_ifne h.1 (off := 9) 22 (by decide +kernel) (by decide) (fun c13 => ?_) (fun c13 => ?_)
  · exact g_L_toll_j22 h x1 r2 m2 (some (.inr (.inr (70, 0))))
  · refine go_blk h.1 (is := [.iload_n 3, .aload_n 0, .iconst 0]) (pc' := 19) (ls' := [some (.inr (.inr (70, 0))), some (.inl x1), some (.inr (.inr (72, 0))), some (.inl r2)]) (st' := [.inl (0 : Int32), .inr (.inr (70, 0)), .inl r2]) (m' := m2) (by decide +kernel) rfl ?_
    refine go_iald h.1 (by decide +kernel) rfl rfl (fun b19 => ?_)
    show Go X (Em X puI) 20 [some (.inr (.inr (70, 0))), some (.inl x1), some (.inr (.inr (72, 0))), some (.inl r2)] [.inl (m2 70 0 (ix (0 : Int32))), .inl r2] m2 _
    refine go_blk h.1 (is := [.iadd, .istore_n 3]) (pc' := 22) (ls' := [some (.inr (.inr (70, 0))), some (.inl x1), some (.inr (.inr (72, 0))), some (.inl (r2 + (m2 70 0 (ix (0 : Int32)))))]) (st' := []) (m' := m2) (by decide +kernel) rfl ?_
    exact g_L_toll_j22 h x1 (r2 + (m2 70 0 (ix (0 : Int32)))) m2 (some (.inr (.inr (70, 0))))
theorem ctr_L_toll (Z : ZT) (x1 : Int32) (m : Mem) : Ctr Z yL_toll method_8_code 4 (some .int) 1 puI [.inr (.inr (70, 0)), .inl x1, .inr (.inr (72, 0))] m (f_L_toll (zL Z) (zx Z) x1 m) :=
  ctr_of (P := P_L) (by decide +kernel) rfl pt_L rfl rfl (fun X hC hZ hR h0 h1 hr => by subst hZ; exact g_L_toll ⟨hC, hR, h0, h1, hr⟩ x1 m)

def f_L_pass_j239 (L : Nat) (xsc : Nat → Int32) (x1 : Int32) (m : Mem) : Option (Int32 × Mem) :=
  if inB (5 : Int32) 9 = true then
    if inB (5 : Int32) 9 = true then
      some ((1 : Int32), (mset m 72 0 (ix (5 : Int32)) ((m 72 0 (ix (5 : Int32))) ^^^ ((1 : Int32) <<< (x1 &&& 31)))))
    else none
  else none
theorem g_L_pass_j239 {X : XT} (h : MX X method_9_code P_L 2 (some .boolean)) (x1 : Int32) (m : Mem) (o0 : Option AV) (o2 : Option AV) (o4 : Option AV) (o5 : Option AV) (o6 : Option AV) (o7 : Option AV) : Go X (Em X puI) 239 [o0, some (.inl x1), o2, some (.inr (.inr (72, 0))), o4, o5, o6, o7] [] m (f_L_pass_j239 (xL X) (xx X) x1 m) := by
  unfold f_L_pass_j239
  refine go_blk h.1 (is := [.aload_n 3, .iconst 5, .dup2]) (pc' := 242) (ls' := [o0, some (.inl x1), o2, some (.inr (.inr (72, 0))), o4, o5, o6, o7]) (st' := [.inl (5 : Int32), .inr (.inr (72, 0)), .inl (5 : Int32), .inr (.inr (72, 0))]) (m' := m) (by decide +kernel) rfl ?_
  refine go_iald h.1 (by decide +kernel) rfl rfl (fun b242 => ?_)
  show Go X (Em X puI) 243 [o0, some (.inl x1), o2, some (.inr (.inr (72, 0))), o4, o5, o6, o7] [.inl (m 72 0 (ix (5 : Int32))), .inl (5 : Int32), .inr (.inr (72, 0))] m _
  refine go_blk h.1 (is := [.iconst 1, .iload_n 1, .ishl, .ixor]) (pc' := 247) (ls' := [o0, some (.inl x1), o2, some (.inr (.inr (72, 0))), o4, o5, o6, o7]) (st' := [.inl ((m 72 0 (ix (5 : Int32))) ^^^ ((1 : Int32) <<< (x1 &&& 31))), .inl (5 : Int32), .inr (.inr (72, 0))]) (m' := m) (by decide +kernel) rfl ?_
  refine go_iast h.1 (by decide +kernel) rfl rfl (fun b247 => ?_)
  refine go_blk h.1 (is := [.iconst 1]) (pc' := 249) (ls' := [o0, some (.inl x1), o2, some (.inr (.inr (72, 0))), o4, o5, o6, o7]) (st' := [.inl (1 : Int32)]) (m' := (mset m 72 0 (ix (5 : Int32)) ((m 72 0 (ix (5 : Int32))) ^^^ ((1 : Int32) <<< (x1 &&& 31))))) (by decide +kernel) rfl ?_
  exact go_zret h.1 h.2.2.2.2 (Or.inr rfl) (by decide +kernel)

def f_L_pass_j220 (L : Nat) (xsc : Nat → Int32) (x1 : Int32) (x2 : Int32) (x5 : Int32) (x6 : Int32) (m : Mem) : Option (Int32 × Mem) :=
  if x2 = (3 : Int32) then
    if inB (((5 : Int32) * x1) + x6) 25 = true then
      if inB (((5 : Int32) * x1) + x6) 25 = true then
        f_L_pass_j239 L xsc x1 (mset m 73 0 (ix (((5 : Int32) * x1) + x6)) ((m 73 0 (ix (((5 : Int32) * x1) + x6))) + x5))
      else none
    else none
  else
    f_L_pass_j239 L xsc x1 m
theorem g_L_pass_j220 {X : XT} (h : MX X method_9_code P_L 2 (some .boolean)) (x1 : Int32) (x2 : Int32) (x5 : Int32) (x6 : Int32) (m : Mem) (o0 : Option AV) (o7 : Option AV) : Go X (Em X puI) 220 [o0, some (.inl x1), some (.inl x2), some (.inr (.inr (72, 0))), some (.inr (.inr (73, 0))), some (.inl x5), some (.inl x6), o7] [] m (f_L_pass_j220 (xL X) (xx X) x1 x2 x5 x6 m) := by
  unfold f_L_pass_j220
  refine go_blk h.1 (is := [.iload_n 2, .iconst 3]) (pc' := 222) (ls' := [o0, some (.inl x1), some (.inl x2), some (.inr (.inr (72, 0))), some (.inr (.inr (73, 0))), some (.inl x5), some (.inl x6), o7]) (st' := [.inl (3 : Int32), .inl x2]) (m' := m) (by decide +kernel) rfl ?_
  refine go_icmpne h.1 (off := 17) 239 (by decide +kernel) (by decide) (fun c222 => ?_) (fun c222 => ?_)
  · exact g_L_pass_j239 h x1 m (o0) (some (.inl x2)) (some (.inr (.inr (73, 0)))) (some (.inl x5)) (some (.inl x6)) (o7)
  · refine go_blk h.1 (is := [.aload 4, .iconst 5, .iload_n 1, .imul, .iload 6, .iadd, .dup2]) (pc' := 234) (ls' := [o0, some (.inl x1), some (.inl x2), some (.inr (.inr (72, 0))), some (.inr (.inr (73, 0))), some (.inl x5), some (.inl x6), o7]) (st' := [.inl (((5 : Int32) * x1) + x6), .inr (.inr (73, 0)), .inl (((5 : Int32) * x1) + x6), .inr (.inr (73, 0))]) (m' := m) (by decide +kernel) rfl ?_
    refine go_iald h.1 (by decide +kernel) rfl rfl (fun b234 => ?_)
    show Go X (Em X puI) 235 [o0, some (.inl x1), some (.inl x2), some (.inr (.inr (72, 0))), some (.inr (.inr (73, 0))), some (.inl x5), some (.inl x6), o7] [.inl (m 73 0 (ix (((5 : Int32) * x1) + x6))), .inl (((5 : Int32) * x1) + x6), .inr (.inr (73, 0))] m _
    refine go_blk h.1 (is := [.iload 5, .iadd]) (pc' := 238) (ls' := [o0, some (.inl x1), some (.inl x2), some (.inr (.inr (72, 0))), some (.inr (.inr (73, 0))), some (.inl x5), some (.inl x6), o7]) (st' := [.inl ((m 73 0 (ix (((5 : Int32) * x1) + x6))) + x5), .inl (((5 : Int32) * x1) + x6), .inr (.inr (73, 0))]) (m' := m) (by decide +kernel) rfl ?_
    refine go_iast h.1 (by decide +kernel) rfl rfl (fun b238 => ?_)
    exact g_L_pass_j239 h x1 (mset m 73 0 (ix (((5 : Int32) * x1) + x6)) ((m 73 0 (ix (((5 : Int32) * x1) + x6))) + x5)) (o0) (some (.inl x2)) (some (.inr (.inr (73, 0)))) (some (.inl x5)) (some (.inl x6)) (o7)

def f_L_pass_j197 (L : Nat) (xsc : Nat → Int32) (x1 : Int32) (x2 : Int32) (x5 : Int32) (x6 : Int32) (m : Mem) : Option (Int32 × Mem) :=
  if x6 < 0 then
    f_L_pass_j220 L xsc x1 x2 x5 x6 m
  else
    if inB x6 9 = true then
      if inB x6 9 = true then
        if inB (8 : Int32) 9 = true then
          if inB (8 : Int32) 9 = true then
            f_L_pass_j220 L xsc x1 x2 x5 x6 (mset (mset m 72 0 (ix x6) ((m 72 0 (ix x6)) - x5)) 72 0 (ix (8 : Int32)) (((mset m 72 0 (ix x6) ((m 72 0 (ix x6)) - x5)) 72 0 (ix (8 : Int32))) + x5))
          else none
        else none
      else none
    else none
theorem g_L_pass_j197 {X : XT} (h : MX X method_9_code P_L 2 (some .boolean)) (x1 : Int32) (x2 : Int32) (x5 : Int32) (x6 : Int32) (m : Mem) (o0 : Option AV) (o7 : Option AV) : Go X (Em X puI) 197 [o0, some (.inl x1), some (.inl x2), some (.inr (.inr (72, 0))), some (.inr (.inr (73, 0))), some (.inl x5), some (.inl x6), o7] [] m (f_L_pass_j197 (xL X) (xx X) x1 x2 x5 x6 m) := by
  unfold f_L_pass_j197
  refine go_blk h.1 (is := [.iload 6]) (pc' := 199) (ls' := [o0, some (.inl x1), some (.inl x2), some (.inr (.inr (72, 0))), some (.inr (.inr (73, 0))), some (.inl x5), some (.inl x6), o7]) (st' := [.inl x6]) (m' := m) (by decide +kernel) rfl ?_
  refine go_iflt h.1 (off := 21) 220 (by decide +kernel) (by decide) (fun c199 => ?_) (fun c199 => ?_)
  · exact g_L_pass_j220 h x1 x2 x5 x6 m (o0) (o7)
  · refine go_blk h.1 (is := [.aload_n 3, .iload 6, .dup2]) (pc' := 206) (ls' := [o0, some (.inl x1), some (.inl x2), some (.inr (.inr (72, 0))), some (.inr (.inr (73, 0))), some (.inl x5), some (.inl x6), o7]) (st' := [.inl x6, .inr (.inr (72, 0)), .inl x6, .inr (.inr (72, 0))]) (m' := m) (by decide +kernel) rfl ?_
    refine go_iald h.1 (by decide +kernel) rfl rfl (fun b206 => ?_)
    show Go X (Em X puI) 207 [o0, some (.inl x1), some (.inl x2), some (.inr (.inr (72, 0))), some (.inr (.inr (73, 0))), some (.inl x5), some (.inl x6), o7] [.inl (m 72 0 (ix x6)), .inl x6, .inr (.inr (72, 0))] m _
    refine go_blk h.1 (is := [.iload 5, .isub]) (pc' := 210) (ls' := [o0, some (.inl x1), some (.inl x2), some (.inr (.inr (72, 0))), some (.inr (.inr (73, 0))), some (.inl x5), some (.inl x6), o7]) (st' := [.inl ((m 72 0 (ix x6)) - x5), .inl x6, .inr (.inr (72, 0))]) (m' := m) (by decide +kernel) rfl ?_
    refine go_iast h.1 (by decide +kernel) rfl rfl (fun b210 => ?_)
    refine go_blk h.1 (is := [.aload_n 3, .bipush 8, .dup2]) (pc' := 215) (ls' := [o0, some (.inl x1), some (.inl x2), some (.inr (.inr (72, 0))), some (.inr (.inr (73, 0))), some (.inl x5), some (.inl x6), o7]) (st' := [.inl (8 : Int32), .inr (.inr (72, 0)), .inl (8 : Int32), .inr (.inr (72, 0))]) (m' := (mset m 72 0 (ix x6) ((m 72 0 (ix x6)) - x5))) (by decide +kernel) rfl ?_
    refine go_iald h.1 (by decide +kernel) rfl rfl (fun b215 => ?_)
    show Go X (Em X puI) 216 [o0, some (.inl x1), some (.inl x2), some (.inr (.inr (72, 0))), some (.inr (.inr (73, 0))), some (.inl x5), some (.inl x6), o7] [.inl ((mset m 72 0 (ix x6) ((m 72 0 (ix x6)) - x5)) 72 0 (ix (8 : Int32))), .inl (8 : Int32), .inr (.inr (72, 0))] (mset m 72 0 (ix x6) ((m 72 0 (ix x6)) - x5)) _
    refine go_blk h.1 (is := [.iload 5, .iadd]) (pc' := 219) (ls' := [o0, some (.inl x1), some (.inl x2), some (.inr (.inr (72, 0))), some (.inr (.inr (73, 0))), some (.inl x5), some (.inl x6), o7]) (st' := [.inl (((mset m 72 0 (ix x6) ((m 72 0 (ix x6)) - x5)) 72 0 (ix (8 : Int32))) + x5), .inl (8 : Int32), .inr (.inr (72, 0))]) (m' := (mset m 72 0 (ix x6) ((m 72 0 (ix x6)) - x5))) (by decide +kernel) rfl ?_
    refine go_iast h.1 (by decide +kernel) rfl rfl (fun b219 => ?_)
    exact g_L_pass_j220 h x1 x2 x5 x6 (mset (mset m 72 0 (ix x6) ((m 72 0 (ix x6)) - x5)) 72 0 (ix (8 : Int32)) (((mset m 72 0 (ix x6) ((m 72 0 (ix x6)) - x5)) 72 0 (ix (8 : Int32))) + x5)) (o0) (o7)

def f_L_pass_j144 (L : Nat) (xsc : Nat → Int32) (x1 : Int32) (x2 : Int32) (x5 : Int32) (x6 : Int32) (m : Mem) : Option (Int32 × Mem) :=
  if x2 = (2 : Int32) then
    if inB ((23 : Int32) + x1) 28 = true then
      if inB (1 : Int32) 28 = true then
        if (m 70 0 (ix (1 : Int32))) ≤ (m 70 0 (ix ((23 : Int32) + x1))) then
          some ((0 : Int32), m)
        else
          if (m 70 0 (ix ((23 : Int32) + x1))) = x1 then
            some ((0 : Int32), m)
          else
            if inB (6 : Int32) 9 = true then
              if (((m 72 0 (ix (6 : Int32))) >>> ((m 70 0 (ix ((23 : Int32) + x1))) &&& 31)) &&& (1 : Int32)) = (1 : Int32) then
                some ((0 : Int32), m)
              else
                if inB (6 : Int32) 9 = true then
                  if inB (6 : Int32) 9 = true then
                    f_L_pass_j197 L xsc x1 x2 x5 x6 (mset m 72 0 (ix (6 : Int32)) ((m 72 0 (ix (6 : Int32))) ||| ((1 : Int32) <<< ((m 70 0 (ix ((23 : Int32) + x1))) &&& 31))))
                  else none
                else none
            else none
      else none
    else none
  else
    f_L_pass_j197 L xsc x1 x2 x5 x6 m
theorem g_L_pass_j144 {X : XT} (h : MX X method_9_code P_L 2 (some .boolean)) (x1 : Int32) (x2 : Int32) (x5 : Int32) (x6 : Int32) (m : Mem) (o7 : Option AV) : Go X (Em X puI) 144 [some (.inr (.inr (70, 0))), some (.inl x1), some (.inl x2), some (.inr (.inr (72, 0))), some (.inr (.inr (73, 0))), some (.inl x5), some (.inl x6), o7] [] m (f_L_pass_j144 (xL X) (xx X) x1 x2 x5 x6 m) := by
  unfold f_L_pass_j144
  refine go_blk h.1 (is := [.iload_n 2, .iconst 2]) (pc' := 146) (ls' := [some (.inr (.inr (70, 0))), some (.inl x1), some (.inl x2), some (.inr (.inr (72, 0))), some (.inr (.inr (73, 0))), some (.inl x5), some (.inl x6), o7]) (st' := [.inl (2 : Int32), .inl x2]) (m' := m) (by decide +kernel) rfl ?_
  refine go_icmpne h.1 (off := 51) 197 (by decide +kernel) (by decide) (fun c146 => ?_) (fun c146 => ?_)
  · exact g_L_pass_j197 h x1 x2 x5 x6 m (some (.inr (.inr (70, 0)))) (o7)
  · refine go_blk h.1 (is := [.aload_n 0, .bipush 23, .iload_n 1, .iadd]) (pc' := 154) (ls' := [some (.inr (.inr (70, 0))), some (.inl x1), some (.inl x2), some (.inr (.inr (72, 0))), some (.inr (.inr (73, 0))), some (.inl x5), some (.inl x6), o7]) (st' := [.inl ((23 : Int32) + x1), .inr (.inr (70, 0))]) (m' := m) (by decide +kernel) rfl ?_
    refine go_iald h.1 (by decide +kernel) rfl rfl (fun b154 => ?_)
    show Go X (Em X puI) 155 [some (.inr (.inr (70, 0))), some (.inl x1), some (.inl x2), some (.inr (.inr (72, 0))), some (.inr (.inr (73, 0))), some (.inl x5), some (.inl x6), o7] [.inl (m 70 0 (ix ((23 : Int32) + x1)))] m _
    refine go_blk h.1 (is := [.istore 7, .iload 7, .aload_n 0, .iconst 1]) (pc' := 161) (ls' := [some (.inr (.inr (70, 0))), some (.inl x1), some (.inl x2), some (.inr (.inr (72, 0))), some (.inr (.inr (73, 0))), some (.inl x5), some (.inl x6), some (.inl (m 70 0 (ix ((23 : Int32) + x1))))]) (st' := [.inl (1 : Int32), .inr (.inr (70, 0)), .inl (m 70 0 (ix ((23 : Int32) + x1)))]) (m' := m) (by decide +kernel) rfl ?_
    refine go_iald h.1 (by decide +kernel) rfl rfl (fun b161 => ?_)
    show Go X (Em X puI) 162 [some (.inr (.inr (70, 0))), some (.inl x1), some (.inl x2), some (.inr (.inr (72, 0))), some (.inr (.inr (73, 0))), some (.inl x5), some (.inl x6), some (.inl (m 70 0 (ix ((23 : Int32) + x1))))] [.inl (m 70 0 (ix (1 : Int32))), .inl (m 70 0 (ix ((23 : Int32) + x1)))] m _
    refine go_icmpge h.1 (off := 22) 184 (by decide +kernel) (by decide) (fun c162 => ?_) (fun c162 => ?_)
    · refine go_blk h.1 (is := [.iconst 0]) (pc' := 185) (ls' := [some (.inr (.inr (70, 0))), some (.inl x1), some (.inl x2), some (.inr (.inr (72, 0))), some (.inr (.inr (73, 0))), some (.inl x5), some (.inl x6), some (.inl (m 70 0 (ix ((23 : Int32) + x1))))]) (st' := [.inl (0 : Int32)]) (m' := m) (by decide +kernel) rfl ?_
      exact go_zret h.1 h.2.2.2.2 (Or.inl rfl) (by decide +kernel)
    · refine go_blk h.1 (is := [.iload 7, .iload_n 1]) (pc' := 168) (ls' := [some (.inr (.inr (70, 0))), some (.inl x1), some (.inl x2), some (.inr (.inr (72, 0))), some (.inr (.inr (73, 0))), some (.inl x5), some (.inl x6), some (.inl (m 70 0 (ix ((23 : Int32) + x1))))]) (st' := [.inl x1, .inl (m 70 0 (ix ((23 : Int32) + x1)))]) (m' := m) (by decide +kernel) rfl ?_
      refine go_icmpeq h.1 (off := 16) 184 (by decide +kernel) (by decide) (fun c168 => ?_) (fun c168 => ?_)
      · refine go_blk h.1 (is := [.iconst 0]) (pc' := 185) (ls' := [some (.inr (.inr (70, 0))), some (.inl x1), some (.inl x2), some (.inr (.inr (72, 0))), some (.inr (.inr (73, 0))), some (.inl x5), some (.inl x6), some (.inl (m 70 0 (ix ((23 : Int32) + x1))))]) (st' := [.inl (0 : Int32)]) (m' := m) (by decide +kernel) rfl ?_
        exact go_zret h.1 h.2.2.2.2 (Or.inl rfl) (by decide +kernel)
      · refine go_blk h.1 (is := [.aload_n 3, .bipush 6]) (pc' := 174) (ls' := [some (.inr (.inr (70, 0))), some (.inl x1), some (.inl x2), some (.inr (.inr (72, 0))), some (.inr (.inr (73, 0))), some (.inl x5), some (.inl x6), some (.inl (m 70 0 (ix ((23 : Int32) + x1))))]) (st' := [.inl (6 : Int32), .inr (.inr (72, 0))]) (m' := m) (by decide +kernel) rfl ?_
        refine go_iald h.1 (by decide +kernel) rfl rfl (fun b174 => ?_)
        show Go X (Em X puI) 175 [some (.inr (.inr (70, 0))), some (.inl x1), some (.inl x2), some (.inr (.inr (72, 0))), some (.inr (.inr (73, 0))), some (.inl x5), some (.inl x6), some (.inl (m 70 0 (ix ((23 : Int32) + x1))))] [.inl (m 72 0 (ix (6 : Int32)))] m _
        refine go_blk h.1 (is := [.iload 7, .ishr, .iconst 1, .iand, .iconst 1]) (pc' := 181) (ls' := [some (.inr (.inr (70, 0))), some (.inl x1), some (.inl x2), some (.inr (.inr (72, 0))), some (.inr (.inr (73, 0))), some (.inl x5), some (.inl x6), some (.inl (m 70 0 (ix ((23 : Int32) + x1))))]) (st' := [.inl (1 : Int32), .inl (((m 72 0 (ix (6 : Int32))) >>> ((m 70 0 (ix ((23 : Int32) + x1))) &&& 31)) &&& (1 : Int32))]) (m' := m) (by decide +kernel) rfl ?_
        refine go_icmpne h.1 (off := 5) 186 (by decide +kernel) (by decide) (fun c181 => ?_) (fun c181 => ?_)
        · refine go_blk h.1 (is := [.aload_n 3, .bipush 6, .dup2]) (pc' := 190) (ls' := [some (.inr (.inr (70, 0))), some (.inl x1), some (.inl x2), some (.inr (.inr (72, 0))), some (.inr (.inr (73, 0))), some (.inl x5), some (.inl x6), some (.inl (m 70 0 (ix ((23 : Int32) + x1))))]) (st' := [.inl (6 : Int32), .inr (.inr (72, 0)), .inl (6 : Int32), .inr (.inr (72, 0))]) (m' := m) (by decide +kernel) rfl ?_
          refine go_iald h.1 (by decide +kernel) rfl rfl (fun b190 => ?_)
          show Go X (Em X puI) 191 [some (.inr (.inr (70, 0))), some (.inl x1), some (.inl x2), some (.inr (.inr (72, 0))), some (.inr (.inr (73, 0))), some (.inl x5), some (.inl x6), some (.inl (m 70 0 (ix ((23 : Int32) + x1))))] [.inl (m 72 0 (ix (6 : Int32))), .inl (6 : Int32), .inr (.inr (72, 0))] m _
          refine go_blk h.1 (is := [.iconst 1, .iload 7, .ishl, .ior]) (pc' := 196) (ls' := [some (.inr (.inr (70, 0))), some (.inl x1), some (.inl x2), some (.inr (.inr (72, 0))), some (.inr (.inr (73, 0))), some (.inl x5), some (.inl x6), some (.inl (m 70 0 (ix ((23 : Int32) + x1))))]) (st' := [.inl ((m 72 0 (ix (6 : Int32))) ||| ((1 : Int32) <<< ((m 70 0 (ix ((23 : Int32) + x1))) &&& 31))), .inl (6 : Int32), .inr (.inr (72, 0))]) (m' := m) (by decide +kernel) rfl ?_
          refine go_iast h.1 (by decide +kernel) rfl rfl (fun b196 => ?_)
          exact g_L_pass_j197 h x1 x2 x5 x6 (mset m 72 0 (ix (6 : Int32)) ((m 72 0 (ix (6 : Int32))) ||| ((1 : Int32) <<< ((m 70 0 (ix ((23 : Int32) + x1))) &&& 31)))) (some (.inr (.inr (70, 0)))) (some (.inl (m 70 0 (ix ((23 : Int32) + x1)))))
        · refine go_blk h.1 (is := [.iconst 0]) (pc' := 185) (ls' := [some (.inr (.inr (70, 0))), some (.inl x1), some (.inl x2), some (.inr (.inr (72, 0))), some (.inr (.inr (73, 0))), some (.inl x5), some (.inl x6), some (.inl (m 70 0 (ix ((23 : Int32) + x1))))]) (st' := [.inl (0 : Int32)]) (m' := m) (by decide +kernel) rfl ?_
          exact go_zret h.1 h.2.2.2.2 (Or.inl rfl) (by decide +kernel)

def f_L_pass_j94 (L : Nat) (xsc : Nat → Int32) (x1 : Int32) (x2 : Int32) (x5 : Int32) (x6 : Int32) (m : Mem) : Option (Int32 × Mem) :=
  if x2 = (1 : Int32) then
    if inB ((18 : Int32) + x1) 28 = true then
      if (m 70 0 (ix ((18 : Int32) + x1))) = (6 : Int32) then
        some ((0 : Int32), m)
      else
        if inB (7 : Int32) 9 = true then
          if inB ((18 : Int32) + x1) 28 = true then
            if (((m 72 0 (ix (7 : Int32))) >>> ((m 70 0 (ix ((18 : Int32) + x1))) &&& 31)) &&& (1 : Int32)) = (1 : Int32) then
              some ((0 : Int32), m)
            else
              if inB (7 : Int32) 9 = true then
                if inB ((18 : Int32) + x1) 28 = true then
                  if inB (7 : Int32) 9 = true then
                    f_L_pass_j144 L xsc x1 x2 x5 x6 (mset m 72 0 (ix (7 : Int32)) ((m 72 0 (ix (7 : Int32))) ||| ((1 : Int32) <<< ((m 70 0 (ix ((18 : Int32) + x1))) &&& 31))))
                  else none
                else none
              else none
          else none
        else none
    else none
  else
    f_L_pass_j144 L xsc x1 x2 x5 x6 m
theorem g_L_pass_j94 {X : XT} (h : MX X method_9_code P_L 2 (some .boolean)) (x1 : Int32) (x2 : Int32) (x5 : Int32) (x6 : Int32) (m : Mem) (o7 : Option AV) : Go X (Em X puI) 94 [some (.inr (.inr (70, 0))), some (.inl x1), some (.inl x2), some (.inr (.inr (72, 0))), some (.inr (.inr (73, 0))), some (.inl x5), some (.inl x6), o7] [] m (f_L_pass_j94 (xL X) (xx X) x1 x2 x5 x6 m) := by
  unfold f_L_pass_j94
  refine go_blk h.1 (is := [.iload_n 2, .iconst 1]) (pc' := 96) (ls' := [some (.inr (.inr (70, 0))), some (.inl x1), some (.inl x2), some (.inr (.inr (72, 0))), some (.inr (.inr (73, 0))), some (.inl x5), some (.inl x6), o7]) (st' := [.inl (1 : Int32), .inl x2]) (m' := m) (by decide +kernel) rfl ?_
  refine go_icmpne h.1 (off := 48) 144 (by decide +kernel) (by decide) (fun c96 => ?_) (fun c96 => ?_)
  · exact g_L_pass_j144 h x1 x2 x5 x6 m (o7)
  · refine go_blk h.1 (is := [.aload_n 0, .bipush 18, .iload_n 1, .iadd]) (pc' := 104) (ls' := [some (.inr (.inr (70, 0))), some (.inl x1), some (.inl x2), some (.inr (.inr (72, 0))), some (.inr (.inr (73, 0))), some (.inl x5), some (.inl x6), o7]) (st' := [.inl ((18 : Int32) + x1), .inr (.inr (70, 0))]) (m' := m) (by decide +kernel) rfl ?_
    refine go_iald h.1 (by decide +kernel) rfl rfl (fun b104 => ?_)
    show Go X (Em X puI) 105 [some (.inr (.inr (70, 0))), some (.inl x1), some (.inl x2), some (.inr (.inr (72, 0))), some (.inr (.inr (73, 0))), some (.inl x5), some (.inl x6), o7] [.inl (m 70 0 (ix ((18 : Int32) + x1)))] m _
    refine go_blk h.1 (is := [.bipush 6]) (pc' := 107) (ls' := [some (.inr (.inr (70, 0))), some (.inl x1), some (.inl x2), some (.inr (.inr (72, 0))), some (.inr (.inr (73, 0))), some (.inl x5), some (.inl x6), o7]) (st' := [.inl (6 : Int32), .inl (m 70 0 (ix ((18 : Int32) + x1)))]) (m' := m) (by decide +kernel) rfl ?_
    refine go_icmpeq h.1 (off := 20) 127 (by decide +kernel) (by decide) (fun c107 => ?_) (fun c107 => ?_)
    · refine go_blk h.1 (is := [.iconst 0]) (pc' := 128) (ls' := [some (.inr (.inr (70, 0))), some (.inl x1), some (.inl x2), some (.inr (.inr (72, 0))), some (.inr (.inr (73, 0))), some (.inl x5), some (.inl x6), o7]) (st' := [.inl (0 : Int32)]) (m' := m) (by decide +kernel) rfl ?_
      exact go_zret h.1 h.2.2.2.2 (Or.inl rfl) (by decide +kernel)
    · refine go_blk h.1 (is := [.aload_n 3, .bipush 7]) (pc' := 113) (ls' := [some (.inr (.inr (70, 0))), some (.inl x1), some (.inl x2), some (.inr (.inr (72, 0))), some (.inr (.inr (73, 0))), some (.inl x5), some (.inl x6), o7]) (st' := [.inl (7 : Int32), .inr (.inr (72, 0))]) (m' := m) (by decide +kernel) rfl ?_
      refine go_iald h.1 (by decide +kernel) rfl rfl (fun b113 => ?_)
      show Go X (Em X puI) 114 [some (.inr (.inr (70, 0))), some (.inl x1), some (.inl x2), some (.inr (.inr (72, 0))), some (.inr (.inr (73, 0))), some (.inl x5), some (.inl x6), o7] [.inl (m 72 0 (ix (7 : Int32)))] m _
      refine go_blk h.1 (is := [.aload_n 0, .bipush 18, .iload_n 1, .iadd]) (pc' := 119) (ls' := [some (.inr (.inr (70, 0))), some (.inl x1), some (.inl x2), some (.inr (.inr (72, 0))), some (.inr (.inr (73, 0))), some (.inl x5), some (.inl x6), o7]) (st' := [.inl ((18 : Int32) + x1), .inr (.inr (70, 0)), .inl (m 72 0 (ix (7 : Int32)))]) (m' := m) (by decide +kernel) rfl ?_
      refine go_iald h.1 (by decide +kernel) rfl rfl (fun b119 => ?_)
      show Go X (Em X puI) 120 [some (.inr (.inr (70, 0))), some (.inl x1), some (.inl x2), some (.inr (.inr (72, 0))), some (.inr (.inr (73, 0))), some (.inl x5), some (.inl x6), o7] [.inl (m 70 0 (ix ((18 : Int32) + x1))), .inl (m 72 0 (ix (7 : Int32)))] m _
      refine go_blk h.1 (is := [.ishr, .iconst 1, .iand, .iconst 1]) (pc' := 124) (ls' := [some (.inr (.inr (70, 0))), some (.inl x1), some (.inl x2), some (.inr (.inr (72, 0))), some (.inr (.inr (73, 0))), some (.inl x5), some (.inl x6), o7]) (st' := [.inl (1 : Int32), .inl (((m 72 0 (ix (7 : Int32))) >>> ((m 70 0 (ix ((18 : Int32) + x1))) &&& 31)) &&& (1 : Int32))]) (m' := m) (by decide +kernel) rfl ?_
      refine go_icmpne h.1 (off := 5) 129 (by decide +kernel) (by decide) (fun c124 => ?_) (fun c124 => ?_)
      · refine go_blk h.1 (is := [.aload_n 3, .bipush 7, .dup2]) (pc' := 133) (ls' := [some (.inr (.inr (70, 0))), some (.inl x1), some (.inl x2), some (.inr (.inr (72, 0))), some (.inr (.inr (73, 0))), some (.inl x5), some (.inl x6), o7]) (st' := [.inl (7 : Int32), .inr (.inr (72, 0)), .inl (7 : Int32), .inr (.inr (72, 0))]) (m' := m) (by decide +kernel) rfl ?_
        refine go_iald h.1 (by decide +kernel) rfl rfl (fun b133 => ?_)
        show Go X (Em X puI) 134 [some (.inr (.inr (70, 0))), some (.inl x1), some (.inl x2), some (.inr (.inr (72, 0))), some (.inr (.inr (73, 0))), some (.inl x5), some (.inl x6), o7] [.inl (m 72 0 (ix (7 : Int32))), .inl (7 : Int32), .inr (.inr (72, 0))] m _
        refine go_blk h.1 (is := [.iconst 1, .aload_n 0, .bipush 18, .iload_n 1, .iadd]) (pc' := 140) (ls' := [some (.inr (.inr (70, 0))), some (.inl x1), some (.inl x2), some (.inr (.inr (72, 0))), some (.inr (.inr (73, 0))), some (.inl x5), some (.inl x6), o7]) (st' := [.inl ((18 : Int32) + x1), .inr (.inr (70, 0)), .inl (1 : Int32), .inl (m 72 0 (ix (7 : Int32))), .inl (7 : Int32), .inr (.inr (72, 0))]) (m' := m) (by decide +kernel) rfl ?_
        refine go_iald h.1 (by decide +kernel) rfl rfl (fun b140 => ?_)
        show Go X (Em X puI) 141 [some (.inr (.inr (70, 0))), some (.inl x1), some (.inl x2), some (.inr (.inr (72, 0))), some (.inr (.inr (73, 0))), some (.inl x5), some (.inl x6), o7] [.inl (m 70 0 (ix ((18 : Int32) + x1))), .inl (1 : Int32), .inl (m 72 0 (ix (7 : Int32))), .inl (7 : Int32), .inr (.inr (72, 0))] m _
        refine go_blk h.1 (is := [.ishl, .ior]) (pc' := 143) (ls' := [some (.inr (.inr (70, 0))), some (.inl x1), some (.inl x2), some (.inr (.inr (72, 0))), some (.inr (.inr (73, 0))), some (.inl x5), some (.inl x6), o7]) (st' := [.inl ((m 72 0 (ix (7 : Int32))) ||| ((1 : Int32) <<< ((m 70 0 (ix ((18 : Int32) + x1))) &&& 31))), .inl (7 : Int32), .inr (.inr (72, 0))]) (m' := m) (by decide +kernel) rfl ?_
        refine go_iast h.1 (by decide +kernel) rfl rfl (fun b143 => ?_)
        exact g_L_pass_j144 h x1 x2 x5 x6 (mset m 72 0 (ix (7 : Int32)) ((m 72 0 (ix (7 : Int32))) ||| ((1 : Int32) <<< ((m 70 0 (ix ((18 : Int32) + x1))) &&& 31)))) (o7)
      · refine go_blk h.1 (is := [.iconst 0]) (pc' := 128) (ls' := [some (.inr (.inr (70, 0))), some (.inl x1), some (.inl x2), some (.inr (.inr (72, 0))), some (.inr (.inr (73, 0))), some (.inl x5), some (.inl x6), o7]) (st' := [.inl (0 : Int32)]) (m' := m) (by decide +kernel) rfl ?_
        exact go_zret h.1 h.2.2.2.2 (Or.inl rfl) (by decide +kernel)

def f_L_pass_j82 (L : Nat) (xsc : Nat → Int32) (x1 : Int32) (x2 : Int32) (x5 : Int32) (x6 : Int32) (m : Mem) : Option (Int32 × Mem) :=
  if x2 = (3 : Int32) then
    if 0 ≤ x6 then
      f_L_pass_j94 L xsc x1 x2 x5 x6 m
    else
      some ((0 : Int32), m)
  else
    f_L_pass_j94 L xsc x1 x2 x5 x6 m
theorem g_L_pass_j82 {X : XT} (h : MX X method_9_code P_L 2 (some .boolean)) (x1 : Int32) (x2 : Int32) (x5 : Int32) (x6 : Int32) (m : Mem) (o7 : Option AV) : Go X (Em X puI) 82 [some (.inr (.inr (70, 0))), some (.inl x1), some (.inl x2), some (.inr (.inr (72, 0))), some (.inr (.inr (73, 0))), some (.inl x5), some (.inl x6), o7] [] m (f_L_pass_j82 (xL X) (xx X) x1 x2 x5 x6 m) := by
  unfold f_L_pass_j82
  refine go_blk h.1 (is := [.iload_n 2, .iconst 3]) (pc' := 84) (ls' := [some (.inr (.inr (70, 0))), some (.inl x1), some (.inl x2), some (.inr (.inr (72, 0))), some (.inr (.inr (73, 0))), some (.inl x5), some (.inl x6), o7]) (st' := [.inl (3 : Int32), .inl x2]) (m' := m) (by decide +kernel) rfl ?_
  refine go_icmpne h.1 (off := 10) 94 (by decide +kernel) (by decide) (fun c84 => ?_) (fun c84 => ?_)
  · exact g_L_pass_j94 h x1 x2 x5 x6 m (o7)
  · refine go_blk h.1 (is := [.iload 6]) (pc' := 89) (ls' := [some (.inr (.inr (70, 0))), some (.inl x1), some (.inl x2), some (.inr (.inr (72, 0))), some (.inr (.inr (73, 0))), some (.inl x5), some (.inl x6), o7]) (st' := [.inl x6]) (m' := m) (by decide +kernel) rfl ?_
    refine go_ifge h.1 (off := 5) 94 (by decide +kernel) (by decide) (fun c89 => ?_) (fun c89 => ?_)
    · exact g_L_pass_j94 h x1 x2 x5 x6 m (o7)
    · refine go_blk h.1 (is := [.iconst 0]) (pc' := 93) (ls' := [some (.inr (.inr (70, 0))), some (.inl x1), some (.inl x2), some (.inr (.inr (72, 0))), some (.inr (.inr (73, 0))), some (.inl x5), some (.inl x6), o7]) (st' := [.inl (0 : Int32)]) (m' := m) (by decide +kernel) rfl ?_
      exact go_zret h.1 h.2.2.2.2 (Or.inl rfl) (by decide +kernel)

def f_L_pass_j70 (L : Nat) (xsc : Nat → Int32) (x1 : Int32) (x2 : Int32) (x5 : Int32) (x6 : Int32) (m : Mem) : Option (Int32 × Mem) :=
  if x2 = 0 then
    if inB x1 9 = true then
      if (m 72 0 (ix x1)) < x5 then
        some ((0 : Int32), m)
      else
        f_L_pass_j82 L xsc x1 x2 x5 x6 m
    else none
  else
    f_L_pass_j82 L xsc x1 x2 x5 x6 m
theorem g_L_pass_j70 {X : XT} (h : MX X method_9_code P_L 2 (some .boolean)) (x1 : Int32) (x2 : Int32) (x5 : Int32) (x6 : Int32) (m : Mem) (o7 : Option AV) : Go X (Em X puI) 70 [some (.inr (.inr (70, 0))), some (.inl x1), some (.inl x2), some (.inr (.inr (72, 0))), some (.inr (.inr (73, 0))), some (.inl x5), some (.inl x6), o7] [] m (f_L_pass_j70 (xL X) (xx X) x1 x2 x5 x6 m) := by
  unfold f_L_pass_j70
  refine go_blk h.1 (is := [.iload_n 2]) (pc' := 71) (ls' := [some (.inr (.inr (70, 0))), some (.inl x1), some (.inl x2), some (.inr (.inr (72, 0))), some (.inr (.inr (73, 0))), some (.inl x5), some (.inl x6), o7]) (st' := [.inl x2]) (m' := m) (by decide +kernel) rfl ?_
  refine go_ifne h.1 (off := 11) 82 (by decide +kernel) (by decide) (fun c71 => ?_) (fun c71 => ?_)
  · exact g_L_pass_j82 h x1 x2 x5 x6 m (o7)
  · refine go_blk h.1 (is := [.aload_n 3, .iload_n 1]) (pc' := 76) (ls' := [some (.inr (.inr (70, 0))), some (.inl x1), some (.inl x2), some (.inr (.inr (72, 0))), some (.inr (.inr (73, 0))), some (.inl x5), some (.inl x6), o7]) (st' := [.inl x1, .inr (.inr (72, 0))]) (m' := m) (by decide +kernel) rfl ?_
    refine go_iald h.1 (by decide +kernel) rfl rfl (fun b76 => ?_)
    show Go X (Em X puI) 77 [some (.inr (.inr (70, 0))), some (.inl x1), some (.inl x2), some (.inr (.inr (72, 0))), some (.inr (.inr (73, 0))), some (.inl x5), some (.inl x6), o7] [.inl (m 72 0 (ix x1))] m _
    refine go_blk h.1 (is := [.iload 5]) (pc' := 79) (ls' := [some (.inr (.inr (70, 0))), some (.inl x1), some (.inl x2), some (.inr (.inr (72, 0))), some (.inr (.inr (73, 0))), some (.inl x5), some (.inl x6), o7]) (st' := [.inl x5, .inl (m 72 0 (ix x1))]) (m' := m) (by decide +kernel) rfl ?_
    refine go_icmplt h.1 (off := 13) 92 (by decide +kernel) (by decide) (fun c79 => ?_) (fun c79 => ?_)
    · refine go_blk h.1 (is := [.iconst 0]) (pc' := 93) (ls' := [some (.inr (.inr (70, 0))), some (.inl x1), some (.inl x2), some (.inr (.inr (72, 0))), some (.inr (.inr (73, 0))), some (.inl x5), some (.inl x6), o7]) (st' := [.inl (0 : Int32)]) (m' := m) (by decide +kernel) rfl ?_
      exact go_zret h.1 h.2.2.2.2 (Or.inl rfl) (by decide +kernel)
    · exact g_L_pass_j82 h x1 x2 x5 x6 m (o7)

def f_L_pass_j64 (L : Nat) (xsc : Nat → Int32) (next : Int32 × Int32 × Mem → Option (Int32 × Mem)) (exit : Int32 × Mem → Option (Int32 × Mem)) (x1 : Int32) (x2 : Int32) (x5 : Int32) (x6 : Int32) (x7 : Int32) (m : Mem) : Option (Int32 × Mem) :=
  next (x6, (x7 + (-1 : Int32)), m)
theorem g_L_pass_j64 {X : XT} (h : MX X method_9_code P_L 2 (some .boolean)) (next : Int32 × Int32 × Mem → Option (Int32 × Mem)) (exit : Int32 × Mem → Option (Int32 × Mem)) (x1 : Int32) (x2 : Int32) (x5 : Int32) (x6 : Int32) (x7 : Int32) (m : Mem) (hn : ∀ (y6 : Int32) (y7 : Int32) (n : Mem), Go X (Em X puI) 31 [some (.inr (.inr (70, 0))), some (.inl x1), some (.inl x2), some (.inr (.inr (72, 0))), some (.inr (.inr (73, 0))), some (.inl x5), some (.inl y6), some (.inl y7)] [] n (next (y6, y7, n))) (hx : ∀ (y6 : Int32) (n : Mem) (o7 : Option AV), Go X (Em X puI) 70 [some (.inr (.inr (70, 0))), some (.inl x1), some (.inl x2), some (.inr (.inr (72, 0))), some (.inr (.inr (73, 0))), some (.inl x5), some (.inl y6), o7] [] n (exit (y6, n))) : Go X (Em X puI) 64 [some (.inr (.inr (70, 0))), some (.inl x1), some (.inl x2), some (.inr (.inr (72, 0))), some (.inr (.inr (73, 0))), some (.inl x5), some (.inl x6), some (.inl x7)] [] m (f_L_pass_j64 (xL X) (xx X) next exit x1 x2 x5 x6 x7 m) := by
  unfold f_L_pass_j64
  refine go_blk h.1 (is := [.iinc 7 (-1)]) (pc' := 67) (ls' := [some (.inr (.inr (70, 0))), some (.inl x1), some (.inl x2), some (.inr (.inr (72, 0))), some (.inr (.inr (73, 0))), some (.inl x5), some (.inl x6), some (.inl (x7 + (-1 : Int32)))]) (st' := []) (m' := m) (by decide +kernel) rfl ?_
  refine go_goto h.1 (off := -36) 31 (by decide +kernel) (by decide) ?_
  exact hn x6 (x7 + (-1 : Int32)) m

def f_L_pass_b31 (L : Nat) (xsc : Nat → Int32) (x1 : Int32) (x2 : Int32) (x5 : Int32) (next : Int32 × Int32 × Mem → Option (Int32 × Mem)) (exit : Int32 × Mem → Option (Int32 × Mem)) (s : Int32 × Int32 × Mem) : Option (Int32 × Mem) :=
  if s.2.1 < 0 then
    exit (s.1, s.2.2)
  else
    if s.2.1 = x1 then
      f_L_pass_j64 L xsc next exit x1 x2 x5 s.1 s.2.1 s.2.2
    else
      if inB ((3 : Int32) + s.2.1) 28 = true then
        if (s.2.2 70 0 (ix ((3 : Int32) + s.2.1))) ≤ 0 then
          f_L_pass_j64 L xsc next exit x1 x2 x5 s.1 s.2.1 s.2.2
        else
          if inB s.2.1 9 = true then
            if (s.2.2 72 0 (ix s.2.1)) < x5 then
              f_L_pass_j64 L xsc next exit x1 x2 x5 s.1 s.2.1 s.2.2
            else
              f_L_pass_j64 L xsc next exit x1 x2 x5 s.2.1 s.2.1 s.2.2
          else none
      else none
theorem g_L_pass_b31 {X : XT} (h : MX X method_9_code P_L 2 (some .boolean)) (x1 : Int32) (x2 : Int32) (x5 : Int32) (next : Int32 × Int32 × Mem → Option (Int32 × Mem)) (exit : Int32 × Mem → Option (Int32 × Mem)) (hn : ∀ (y6 : Int32) (y7 : Int32) (n : Mem), Go X (Em X puI) 31 [some (.inr (.inr (70, 0))), some (.inl x1), some (.inl x2), some (.inr (.inr (72, 0))), some (.inr (.inr (73, 0))), some (.inl x5), some (.inl y6), some (.inl y7)] [] n (next (y6, y7, n))) (hx : ∀ (y6 : Int32) (n : Mem) (o7 : Option AV), Go X (Em X puI) 70 [some (.inr (.inr (70, 0))), some (.inl x1), some (.inl x2), some (.inr (.inr (72, 0))), some (.inr (.inr (73, 0))), some (.inl x5), some (.inl y6), o7] [] n (exit (y6, n))) (s : Int32 × Int32 × Mem) : Go X (Em X puI) 31 [some (.inr (.inr (70, 0))), some (.inl x1), some (.inl x2), some (.inr (.inr (72, 0))), some (.inr (.inr (73, 0))), some (.inl x5), some (.inl s.1), some (.inl s.2.1)] [] s.2.2 (f_L_pass_b31 (xL X) (xx X) x1 x2 x5 next exit s) := by
  unfold f_L_pass_b31
  refine go_blk h.1 (is := [.iload 7]) (pc' := 33) (ls' := [some (.inr (.inr (70, 0))), some (.inl x1), some (.inl x2), some (.inr (.inr (72, 0))), some (.inr (.inr (73, 0))), some (.inl x5), some (.inl s.1), some (.inl s.2.1)]) (st' := [.inl s.2.1]) (m' := s.2.2) (by decide +kernel) rfl ?_
  refine go_iflt h.1 (off := 37) 70 (by decide +kernel) (by decide) (fun c33 => ?_) (fun c33 => ?_)
  · exact hx s.1 s.2.2 (some (.inl s.2.1))
  · refine go_blk h.1 (is := [.iload 7, .iload_n 1]) (pc' := 39) (ls' := [some (.inr (.inr (70, 0))), some (.inl x1), some (.inl x2), some (.inr (.inr (72, 0))), some (.inr (.inr (73, 0))), some (.inl x5), some (.inl s.1), some (.inl s.2.1)]) (st' := [.inl x1, .inl s.2.1]) (m' := s.2.2) (by decide +kernel) rfl ?_
    refine go_icmpeq h.1 (off := 25) 64 (by decide +kernel) (by decide) (fun c39 => ?_) (fun c39 => ?_)
    · exact g_L_pass_j64 h next exit x1 x2 x5 s.1 s.2.1 s.2.2 hn hx
    · refine go_blk h.1 (is := [.aload_n 0, .iconst 3, .iload 7, .iadd]) (pc' := 47) (ls' := [some (.inr (.inr (70, 0))), some (.inl x1), some (.inl x2), some (.inr (.inr (72, 0))), some (.inr (.inr (73, 0))), some (.inl x5), some (.inl s.1), some (.inl s.2.1)]) (st' := [.inl ((3 : Int32) + s.2.1), .inr (.inr (70, 0))]) (m' := s.2.2) (by decide +kernel) rfl ?_
      refine go_iald h.1 (by decide +kernel) rfl rfl (fun b47 => ?_)
      show Go X (Em X puI) 48 [some (.inr (.inr (70, 0))), some (.inl x1), some (.inl x2), some (.inr (.inr (72, 0))), some (.inr (.inr (73, 0))), some (.inl x5), some (.inl s.1), some (.inl s.2.1)] [.inl (s.2.2 70 0 (ix ((3 : Int32) + s.2.1)))] s.2.2 _
      refine go_ifle h.1 (off := 16) 64 (by decide +kernel) (by decide) (fun c48 => ?_) (fun c48 => ?_)
      · exact g_L_pass_j64 h next exit x1 x2 x5 s.1 s.2.1 s.2.2 hn hx
      · refine go_blk h.1 (is := [.aload_n 3, .iload 7]) (pc' := 54) (ls' := [some (.inr (.inr (70, 0))), some (.inl x1), some (.inl x2), some (.inr (.inr (72, 0))), some (.inr (.inr (73, 0))), some (.inl x5), some (.inl s.1), some (.inl s.2.1)]) (st' := [.inl s.2.1, .inr (.inr (72, 0))]) (m' := s.2.2) (by decide +kernel) rfl ?_
        refine go_iald h.1 (by decide +kernel) rfl rfl (fun b54 => ?_)
        show Go X (Em X puI) 55 [some (.inr (.inr (70, 0))), some (.inl x1), some (.inl x2), some (.inr (.inr (72, 0))), some (.inr (.inr (73, 0))), some (.inl x5), some (.inl s.1), some (.inl s.2.1)] [.inl (s.2.2 72 0 (ix s.2.1))] s.2.2 _
        refine go_blk h.1 (is := [.iload 5]) (pc' := 57) (ls' := [some (.inr (.inr (70, 0))), some (.inl x1), some (.inl x2), some (.inr (.inr (72, 0))), some (.inr (.inr (73, 0))), some (.inl x5), some (.inl s.1), some (.inl s.2.1)]) (st' := [.inl x5, .inl (s.2.2 72 0 (ix s.2.1))]) (m' := s.2.2) (by decide +kernel) rfl ?_
        refine go_icmplt h.1 (off := 7) 64 (by decide +kernel) (by decide) (fun c57 => ?_) (fun c57 => ?_)
        · exact g_L_pass_j64 h next exit x1 x2 x5 s.1 s.2.1 s.2.2 hn hx
        · refine go_blk h.1 (is := [.iload 7, .istore 6]) (pc' := 64) (ls' := [some (.inr (.inr (70, 0))), some (.inl x1), some (.inl x2), some (.inr (.inr (72, 0))), some (.inr (.inr (73, 0))), some (.inl x5), some (.inl s.2.1), some (.inl s.2.1)]) (st' := []) (m' := s.2.2) (by decide +kernel) rfl ?_
          exact g_L_pass_j64 h next exit x1 x2 x5 s.2.1 s.2.1 s.2.2 hn hx

def f_L_pass_j17 (L : Nat) (xsc : Nat → Int32) (s0 : Int32) (x1 : Int32) (x2 : Int32) (x5 : Int32) (m : Mem) : Option (Int32 × Mem) :=
  if x2 = (3 : Int32) then
    if inB (1 : Int32) 28 = true then
      lpk (f_L_pass_b31 L xsc x1 x2 x5) fuelN (s0, ((m 70 0 (ix (1 : Int32))) - (1 : Int32)), m) (fun t31 =>
        f_L_pass_j70 L xsc x1 x2 x5 t31.1 t31.2)
    else none
  else
    f_L_pass_j70 L xsc x1 x2 x5 s0 m
theorem g_L_pass_j17 {X : XT} (h : MX X method_9_code P_L 2 (some .boolean)) (s0 : Int32) (x1 : Int32) (x2 : Int32) (x5 : Int32) (m : Mem) (o6 : Option AV) (o7 : Option AV) : Go X (Em X puI) 17 [some (.inr (.inr (70, 0))), some (.inl x1), some (.inl x2), some (.inr (.inr (72, 0))), some (.inr (.inr (73, 0))), some (.inl x5), o6, o7] [.inl s0] m (f_L_pass_j17 (xL X) (xx X) s0 x1 x2 x5 m) := by
  unfold f_L_pass_j17
  refine go_blk h.1 (is := [.istore 6, .iload_n 2, .iconst 3]) (pc' := 21) (ls' := [some (.inr (.inr (70, 0))), some (.inl x1), some (.inl x2), some (.inr (.inr (72, 0))), some (.inr (.inr (73, 0))), some (.inl x5), some (.inl s0), o7]) (st' := [.inl (3 : Int32), .inl x2]) (m' := m) (by decide +kernel) rfl ?_
  refine go_icmpne h.1 (off := 49) 70 (by decide +kernel) (by decide) (fun c21 => ?_) (fun c21 => ?_)
  · exact g_L_pass_j70 h x1 x2 x5 s0 m (o7)
  · refine go_blk h.1 (is := [.aload_n 0, .iconst 1]) (pc' := 26) (ls' := [some (.inr (.inr (70, 0))), some (.inl x1), some (.inl x2), some (.inr (.inr (72, 0))), some (.inr (.inr (73, 0))), some (.inl x5), some (.inl s0), o7]) (st' := [.inl (1 : Int32), .inr (.inr (70, 0))]) (m' := m) (by decide +kernel) rfl ?_
    refine go_iald h.1 (by decide +kernel) rfl rfl (fun b26 => ?_)
    show Go X (Em X puI) 27 [some (.inr (.inr (70, 0))), some (.inl x1), some (.inl x2), some (.inr (.inr (72, 0))), some (.inr (.inr (73, 0))), some (.inl x5), some (.inl s0), o7] [.inl (m 70 0 (ix (1 : Int32)))] m _
    refine go_blk h.1 (is := [.iconst 1, .isub, .istore 7]) (pc' := 31) (ls' := [some (.inr (.inr (70, 0))), some (.inl x1), some (.inl x2), some (.inr (.inr (72, 0))), some (.inr (.inr (73, 0))), some (.inl x5), some (.inl s0), some (.inl ((m 70 0 (ix (1 : Int32))) - (1 : Int32)))]) (st' := []) (m' := m) (by decide +kernel) rfl ?_
    refine go_lp2 (hd := fun (y6 : Int32) (y7 : Int32) (n : Mem) o => Go X (Em X puI) 31 [some (.inr (.inr (70, 0))), some (.inl x1), some (.inl x2), some (.inr (.inr (72, 0))), some (.inr (.inr (73, 0))), some (.inl x5), some (.inl y6), some (.inl y7)] [] n o) (fun _ _ _ => go_none) (fun y6 y7 n nx_ hn_ => g_L_pass_b31 h x1 x2 x5 nx_ _ hn_ (fun z6_31 z_31 o7_31 => ?_) (y6, y7, n)) fuelN s0 ((m 70 0 (ix (1 : Int32))) - (1 : Int32)) m
    exact g_L_pass_j70 h x1 x2 x5 z6_31 z_31 (o7_31)

def f_L_pass (L : Nat) (xsc : Nat → Int32) (x1 : Int32) (x2 : Int32) (m : Mem) : Option (Int32 × Mem) :=
  bnd (f_L_toll L xsc x1 m) (fun r3 m3 =>
    if x2 = 0 then
      f_L_pass_j17 L xsc x1 x1 x2 r3 m3
    else
      f_L_pass_j17 L xsc (-1 : Int32) x1 x2 r3 m3)
theorem g_L_pass {X : XT} (h : MX X method_9_code P_L 2 (some .boolean)) (x1 : Int32) (x2 : Int32) (m : Mem) : Go X (Em X puI) 0 [some (.inr (.inr (70, 0))), some (.inl x1), some (.inl x2), some (.inr (.inr (72, 0))), some (.inr (.inr (73, 0))), none, none, none] [] m (f_L_pass (xL X) (xx X) x1 x2 m) := by
  unfold f_L_pass
  refine go_blk h.1 (is := [.aload_n 0, .iload_n 1, .aload_n 3]) (pc' := 3) (ls' := [some (.inr (.inr (70, 0))), some (.inl x1), some (.inl x2), some (.inr (.inr (72, 0))), some (.inr (.inr (73, 0))), none, none, none]) (st' := [.inr (.inr (72, 0)), .inl x1, .inr (.inr (70, 0))]) (m' := m) (by decide +kernel) rfl ?_
  refine go_callS h.1 (index := 41) (n := 3) (as := [.inr (.inr (70, 0)), .inl x1, .inr (.inr (72, 0))]) (rest := []) (ctr_L_toll (xZ X) x1 m) (by decide +kernel) wd_s_L_41 rfl (h.room (by first | decide | omega) (by decide)) h.cl (Nat.le_of_ble_eq_true rfl) puI_ok rfl (fun r3 m3 _ => ?_)
  show Go X (Em X puI) 6 [some (.inr (.inr (70, 0))), some (.inl x1), some (.inl x2), some (.inr (.inr (72, 0))), some (.inr (.inr (73, 0))), none, none, none] [.inl r3] m3 _
  refine go_blk h.1 (is := [.istore 5, .iload_n 2]) (pc' := 9) (ls' := [some (.inr (.inr (70, 0))), some (.inl x1), some (.inl x2), some (.inr (.inr (72, 0))), some (.inr (.inr (73, 0))), some (.inl r3), none, none]) (st' := [.inl x2]) (m' := m3) (by decide +kernel) rfl ?_
  refine go_ifne h.1 (off := 7) 16 (by decide +kernel) (by decide) (fun c9 => ?_) (fun c9 => ?_)
  · refine go_blk h.1 (is := [.iconst (-1)]) (pc' := 17) (ls' := [some (.inr (.inr (70, 0))), some (.inl x1), some (.inl x2), some (.inr (.inr (72, 0))), some (.inr (.inr (73, 0))), some (.inl r3), none, none]) (st' := [.inl (-1 : Int32)]) (m' := m3) (by decide +kernel) rfl ?_
    exact g_L_pass_j17 h (-1 : Int32) x1 x2 r3 m3 (none) (none)
  · refine go_blk h.1 (is := [.iload_n 1]) (pc' := 13) (ls' := [some (.inr (.inr (70, 0))), some (.inl x1), some (.inl x2), some (.inr (.inr (72, 0))), some (.inr (.inr (73, 0))), some (.inl r3), none, none]) (st' := [.inl x1]) (m' := m3) (by decide +kernel) rfl ?_
    refine go_goto h.1 (off := 4) 17 (by decide +kernel) (by decide) ?_
    exact g_L_pass_j17 h x1 x1 x2 r3 m3 (none) (none)
theorem ctr_L_pass (Z : ZT) (x1 : Int32) (x2 : Int32) (m : Mem) : Ctr Z yL_pass method_9_code 8 (some .boolean) 2 puI [.inr (.inr (70, 0)), .inl x1, .inl x2, .inr (.inr (72, 0)), .inr (.inr (73, 0))] m (f_L_pass (zL Z) (zx Z) x1 x2 m) :=
  ctr_of (P := P_L) (by decide +kernel) rfl pt_L rfl rfl (fun X hC hZ hR h0 h1 hr => by subst hZ; exact g_L_pass ⟨hC, hR, h0, h1, hr⟩ x1 x2 m)

def f_L_lay_b105 (L : Nat) (xsc : Nat → Int32) (x2 : Int32) (x8 : Int32) (x9 : Int32) (x10 : Int32) (next : Int32 × Mem → Option (Int32 × Mem)) (exit : Mem → Option (Int32 × Mem)) (s : Int32 × Mem) : Option (Int32 × Mem) :=
  if (4 : Int32) ≤ s.1 then
    exit (s.2)
  else
    bnd (f_L_some L xsc (x10 >>> ((4 : Int32) &&& 31)) (9 : Int32) s.2) (fun r117 m117 =>
      if r117 ≤ 0 then
        exit (m117)
      else
        if inB ((2 : Int32) * x9) 40 = true then
          if inB (((2 : Int32) * x9) + (1 : Int32)) 40 = true then
            bnd (f_L_pass L xsc (m117 71 0 (ix ((2 : Int32) * x9))) (m117 71 0 (ix (((2 : Int32) * x9) + (1 : Int32)))) m117) (fun r144 m144 =>
              if r144 = 0 then
                if inB (((2 : Int32) * x9) + (1 : Int32)) 40 = true then
                  if ¬ (4 : Int32) = 0 then dv (((m144 71 0 (ix (((2 : Int32) * x9) + (1 : Int32)))) + (1 : Int32)) - ((m144 71 0 (ix (((2 : Int32) * x9) + (1 : Int32)))) + (1 : Int32)) / (4 : Int32) * (4 : Int32)) (fun q173 =>
                    if inB (((2 : Int32) * x9) + (1 : Int32)) 40 = true then
                      next ((s.1 + (1 : Int32)), (mset m144 71 0 (ix (((2 : Int32) * x9) + (1 : Int32))) q173))
                    else none)
                  else none
                else none
              else
                exit (m144))
          else none
        else none)
theorem g_L_lay_b105 {X : XT} (h : MX X method_11_code P_L 3 (some .int)) (x2 : Int32) (x8 : Int32) (x9 : Int32) (x10 : Int32) (next : Int32 × Mem → Option (Int32 × Mem)) (exit : Mem → Option (Int32 × Mem)) (hn : ∀ (y11 : Int32) (n : Mem) (o7 : Option AV), Go X (Em X puI) 105 [some (.inr (.inr (0, 0))), some (.inr (.inr (60, 0))), some (.inl x2), some (.inr (.inr (70, 0))), some (.inr (.inr (71, 0))), some (.inr (.inr (72, 0))), some (.inr (.inr (73, 0))), o7, some (.inl x8), some (.inl x9), some (.inl x10), some (.inl y11)] [] n (next (y11, n))) (hx : ∀ (n : Mem) (o7 : Option AV) (o10 : Option AV) (o11 : Option AV), Go X (Em X puI) 181 [some (.inr (.inr (0, 0))), some (.inr (.inr (60, 0))), some (.inl x2), some (.inr (.inr (70, 0))), some (.inr (.inr (71, 0))), some (.inr (.inr (72, 0))), some (.inr (.inr (73, 0))), o7, some (.inl x8), some (.inl x9), o10, o11] [] n (exit (n))) (s : Int32 × Mem) (o7 : Option AV) : Go X (Em X puI) 105 [some (.inr (.inr (0, 0))), some (.inr (.inr (60, 0))), some (.inl x2), some (.inr (.inr (70, 0))), some (.inr (.inr (71, 0))), some (.inr (.inr (72, 0))), some (.inr (.inr (73, 0))), o7, some (.inl x8), some (.inl x9), some (.inl x10), some (.inl s.1)] [] s.2 (f_L_lay_b105 (xL X) (xx X) x2 x8 x9 x10 next exit s) := by
  unfold f_L_lay_b105
  refine go_blk h.1 (is := [.iload 11, .iconst 4]) (pc' := 108) (ls' := [some (.inr (.inr (0, 0))), some (.inr (.inr (60, 0))), some (.inl x2), some (.inr (.inr (70, 0))), some (.inr (.inr (71, 0))), some (.inr (.inr (72, 0))), some (.inr (.inr (73, 0))), o7, some (.inl x8), some (.inl x9), some (.inl x10), some (.inl s.1)]) (st' := [.inl (4 : Int32), .inl s.1]) (m' := s.2) (by decide +kernel) rfl ?_
  refine go_icmpge h.1 (off := 73) 181 (by decide +kernel) (by decide) (fun c108 => ?_) (fun c108 => ?_)
  · exact hx s.2 (o7) (some (.inl x10)) (some (.inl s.1))
  · refine go_blk h.1 (is := [.iload 10, .iconst 4, .ishr, .bipush 9]) (pc' := 117) (ls' := [some (.inr (.inr (0, 0))), some (.inr (.inr (60, 0))), some (.inl x2), some (.inr (.inr (70, 0))), some (.inr (.inr (71, 0))), some (.inr (.inr (72, 0))), some (.inr (.inr (73, 0))), o7, some (.inl x8), some (.inl x9), some (.inl x10), some (.inl s.1)]) (st' := [.inl (9 : Int32), .inl (x10 >>> ((4 : Int32) &&& 31))]) (m' := s.2) (by decide +kernel) rfl ?_
    refine go_callS h.1 (index := 15) (n := 2) (as := [.inl (x10 >>> ((4 : Int32) &&& 31)), .inl (9 : Int32)]) (rest := []) (ctr_L_some (xZ X) (x10 >>> ((4 : Int32) &&& 31)) (9 : Int32) s.2) (by decide +kernel) wd_s_L_15 rfl (h.room (by first | decide | omega) (by decide)) h.cl (Nat.le_of_ble_eq_true rfl) puI_ok rfl (fun r117 m117 _ => ?_)
    show Go X (Em X puI) 120 [some (.inr (.inr (0, 0))), some (.inr (.inr (60, 0))), some (.inl x2), some (.inr (.inr (70, 0))), some (.inr (.inr (71, 0))), some (.inr (.inr (72, 0))), some (.inr (.inr (73, 0))), o7, some (.inl x8), some (.inl x9), some (.inl x10), some (.inl s.1)] [.inl r117] m117 _
    refine go_ifle h.1 (off := 61) 181 (by decide +kernel) (by decide) (fun c120 => ?_) (fun c120 => ?_)
    · exact hx m117 (o7) (some (.inl x10)) (some (.inl s.1))
    · refine go_blk h.1 (is := [.aload_n 3, .aload 4, .iconst 2, .iload 9, .imul]) (pc' := 130) (ls' := [some (.inr (.inr (0, 0))), some (.inr (.inr (60, 0))), some (.inl x2), some (.inr (.inr (70, 0))), some (.inr (.inr (71, 0))), some (.inr (.inr (72, 0))), some (.inr (.inr (73, 0))), o7, some (.inl x8), some (.inl x9), some (.inl x10), some (.inl s.1)]) (st' := [.inl ((2 : Int32) * x9), .inr (.inr (71, 0)), .inr (.inr (70, 0))]) (m' := m117) (by decide +kernel) rfl ?_
      refine go_iald h.1 (by decide +kernel) rfl rfl (fun b130 => ?_)
      show Go X (Em X puI) 131 [some (.inr (.inr (0, 0))), some (.inr (.inr (60, 0))), some (.inl x2), some (.inr (.inr (70, 0))), some (.inr (.inr (71, 0))), some (.inr (.inr (72, 0))), some (.inr (.inr (73, 0))), o7, some (.inl x8), some (.inl x9), some (.inl x10), some (.inl s.1)] [.inl (m117 71 0 (ix ((2 : Int32) * x9))), .inr (.inr (70, 0))] m117 _
      refine go_blk h.1 (is := [.aload 4, .iconst 2, .iload 9, .imul, .iconst 1, .iadd]) (pc' := 139) (ls' := [some (.inr (.inr (0, 0))), some (.inr (.inr (60, 0))), some (.inl x2), some (.inr (.inr (70, 0))), some (.inr (.inr (71, 0))), some (.inr (.inr (72, 0))), some (.inr (.inr (73, 0))), o7, some (.inl x8), some (.inl x9), some (.inl x10), some (.inl s.1)]) (st' := [.inl (((2 : Int32) * x9) + (1 : Int32)), .inr (.inr (71, 0)), .inl (m117 71 0 (ix ((2 : Int32) * x9))), .inr (.inr (70, 0))]) (m' := m117) (by decide +kernel) rfl ?_
      refine go_iald h.1 (by decide +kernel) rfl rfl (fun b139 => ?_)
      show Go X (Em X puI) 140 [some (.inr (.inr (0, 0))), some (.inr (.inr (60, 0))), some (.inl x2), some (.inr (.inr (70, 0))), some (.inr (.inr (71, 0))), some (.inr (.inr (72, 0))), some (.inr (.inr (73, 0))), o7, some (.inl x8), some (.inl x9), some (.inl x10), some (.inl s.1)] [.inl (m117 71 0 (ix (((2 : Int32) * x9) + (1 : Int32)))), .inl (m117 71 0 (ix ((2 : Int32) * x9))), .inr (.inr (70, 0))] m117 _
      refine go_blk h.1 (is := [.aload 5, .aload 6]) (pc' := 144) (ls' := [some (.inr (.inr (0, 0))), some (.inr (.inr (60, 0))), some (.inl x2), some (.inr (.inr (70, 0))), some (.inr (.inr (71, 0))), some (.inr (.inr (72, 0))), some (.inr (.inr (73, 0))), o7, some (.inl x8), some (.inl x9), some (.inl x10), some (.inl s.1)]) (st' := [.inr (.inr (73, 0)), .inr (.inr (72, 0)), .inl (m117 71 0 (ix (((2 : Int32) * x9) + (1 : Int32)))), .inl (m117 71 0 (ix ((2 : Int32) * x9))), .inr (.inr (70, 0))]) (m' := m117) (by decide +kernel) rfl ?_
      refine go_callS h.1 (index := 49) (n := 5) (as := [.inr (.inr (70, 0)), .inl (m117 71 0 (ix ((2 : Int32) * x9))), .inl (m117 71 0 (ix (((2 : Int32) * x9) + (1 : Int32)))), .inr (.inr (72, 0)), .inr (.inr (73, 0))]) (rest := []) (ctr_L_pass (xZ X) (m117 71 0 (ix ((2 : Int32) * x9))) (m117 71 0 (ix (((2 : Int32) * x9) + (1 : Int32)))) m117) (by decide +kernel) wd_s_L_49 rfl (h.room (by first | decide | omega) (by decide)) h.cl (Nat.le_of_ble_eq_true rfl) puI_ok rfl (fun r144 m144 _ => ?_)
      show Go X (Em X puI) 147 [some (.inr (.inr (0, 0))), some (.inr (.inr (60, 0))), some (.inl x2), some (.inr (.inr (70, 0))), some (.inr (.inr (71, 0))), some (.inr (.inr (72, 0))), some (.inr (.inr (73, 0))), o7, some (.inl x8), some (.inl x9), some (.inl x10), some (.inl s.1)] [.inl r144] m144 _
      refine go_ifeq h.1 (off := 6) 153 (by decide +kernel) (by decide) (fun c147 => ?_) (fun c147 => ?_)
      · refine go_blk h.1 (is := [.aload 4, .iconst 2, .iload 9, .imul, .iconst 1, .iadd, .aload 4, .iconst 2, .iload 9, .imul, .iconst 1, .iadd]) (pc' := 169) (ls' := [some (.inr (.inr (0, 0))), some (.inr (.inr (60, 0))), some (.inl x2), some (.inr (.inr (70, 0))), some (.inr (.inr (71, 0))), some (.inr (.inr (72, 0))), some (.inr (.inr (73, 0))), o7, some (.inl x8), some (.inl x9), some (.inl x10), some (.inl s.1)]) (st' := [.inl (((2 : Int32) * x9) + (1 : Int32)), .inr (.inr (71, 0)), .inl (((2 : Int32) * x9) + (1 : Int32)), .inr (.inr (71, 0))]) (m' := m144) (by decide +kernel) rfl ?_
        refine go_iald h.1 (by decide +kernel) rfl rfl (fun b169 => ?_)
        show Go X (Em X puI) 170 [some (.inr (.inr (0, 0))), some (.inr (.inr (60, 0))), some (.inl x2), some (.inr (.inr (70, 0))), some (.inr (.inr (71, 0))), some (.inr (.inr (72, 0))), some (.inr (.inr (73, 0))), o7, some (.inl x8), some (.inl x9), some (.inl x10), some (.inl s.1)] [.inl (m144 71 0 (ix (((2 : Int32) * x9) + (1 : Int32)))), .inl (((2 : Int32) * x9) + (1 : Int32)), .inr (.inr (71, 0))] m144 _
        refine go_blk h.1 (is := [.iconst 1, .iadd, .iconst 4]) (pc' := 173) (ls' := [some (.inr (.inr (0, 0))), some (.inr (.inr (60, 0))), some (.inl x2), some (.inr (.inr (70, 0))), some (.inr (.inr (71, 0))), some (.inr (.inr (72, 0))), some (.inr (.inr (73, 0))), o7, some (.inl x8), some (.inl x9), some (.inl x10), some (.inl s.1)]) (st' := [.inl (4 : Int32), .inl ((m144 71 0 (ix (((2 : Int32) * x9) + (1 : Int32)))) + (1 : Int32)), .inl (((2 : Int32) * x9) + (1 : Int32)), .inr (.inr (71, 0))]) (m' := m144) (by decide +kernel) rfl ?_
        refine go_irem h.1 (by decide +kernel) (fun z173 q173 _ => ?_)
        refine go_iast h.1 (by decide +kernel) rfl rfl (fun b174 => ?_)
        refine go_blk h.1 (is := [.iinc 11 1]) (pc' := 178) (ls' := [some (.inr (.inr (0, 0))), some (.inr (.inr (60, 0))), some (.inl x2), some (.inr (.inr (70, 0))), some (.inr (.inr (71, 0))), some (.inr (.inr (72, 0))), some (.inr (.inr (73, 0))), o7, some (.inl x8), some (.inl x9), some (.inl x10), some (.inl (s.1 + (1 : Int32)))]) (st' := []) (m' := (mset m144 71 0 (ix (((2 : Int32) * x9) + (1 : Int32))) q173)) (by decide +kernel) rfl ?_
        refine go_goto h.1 (off := -73) 105 (by decide +kernel) (by decide) ?_
        exact hn (s.1 + (1 : Int32)) (mset m144 71 0 (ix (((2 : Int32) * x9) + (1 : Int32))) q173) (o7)
      · refine go_goto h.1 (off := 31) 181 (by decide +kernel) (by decide) ?_
        exact hx m144 (o7) (some (.inl x10)) (some (.inl s.1))

def f_L_lay_j181 (L : Nat) (xsc : Nat → Int32) (next : Int32 × Mem → Option (Int32 × Mem)) (exit : Mem → Option (Int32 × Mem)) (x2 : Int32) (x8 : Int32) (x9 : Int32) (m : Mem) : Option (Int32 × Mem) :=
  if inB ((2 : Int32) * x9) 40 = true then
    bnd (f_X6_put (1 : Int32) ((2 : Int32) + ((2 : Int32) * x9)) (m 71 0 (ix ((2 : Int32) * x9))) m) (fun r196 m196 =>
      if r196 = (1 : Int32) then
        if inB (((2 : Int32) * x9) + (1 : Int32)) 40 = true then
          bnd (f_X6_put (1 : Int32) ((3 : Int32) + ((2 : Int32) * x9)) (m196 71 0 (ix (((2 : Int32) * x9) + (1 : Int32)))) m196) (fun r220 m220 =>
            if r220 = (1 : Int32) then
              next ((x9 + (1 : Int32)), m220)
            else
              some ((-99 : Int32), m220))
        else none
      else
        some ((-99 : Int32), m196))
  else none
theorem g_L_lay_j181 {X : XT} (h : MX X method_11_code P_L 3 (some .int)) (next : Int32 × Mem → Option (Int32 × Mem)) (exit : Mem → Option (Int32 × Mem)) (x2 : Int32) (x8 : Int32) (x9 : Int32) (m : Mem) (o7 : Option AV) (o10 : Option AV) (o11 : Option AV) (hn : ∀ (y9 : Int32) (n : Mem) (o7 : Option AV) (o10 : Option AV) (o11 : Option AV), Go X (Em X puI) 42 [some (.inr (.inr (0, 0))), some (.inr (.inr (60, 0))), some (.inl x2), some (.inr (.inr (70, 0))), some (.inr (.inr (71, 0))), some (.inr (.inr (72, 0))), some (.inr (.inr (73, 0))), o7, some (.inl x8), some (.inl y9), o10, o11] [] n (next (y9, n))) (hx : ∀ (n : Mem) (o0 : Option AV) (o1 : Option AV) (o2 : Option AV) (o3 : Option AV) (o4 : Option AV) (o5 : Option AV) (o6 : Option AV) (o7 : Option AV) (o9 : Option AV) (o10 : Option AV) (o11 : Option AV), Go X (Em X puI) 236 [o0, o1, o2, o3, o4, o5, o6, o7, some (.inl x8), o9, o10, o11] [] n (exit (n))) : Go X (Em X puI) 181 [some (.inr (.inr (0, 0))), some (.inr (.inr (60, 0))), some (.inl x2), some (.inr (.inr (70, 0))), some (.inr (.inr (71, 0))), some (.inr (.inr (72, 0))), some (.inr (.inr (73, 0))), o7, some (.inl x8), some (.inl x9), o10, o11] [] m (f_L_lay_j181 (xL X) (xx X) next exit x2 x8 x9 m) := by
  unfold f_L_lay_j181
  refine go_blk h.1 (is := [.aload_n 0, .iconst 1, .iconst 2, .iconst 2, .iload 9, .imul, .iadd, .aload 4, .iconst 2, .iload 9, .imul]) (pc' := 195) (ls' := [some (.inr (.inr (0, 0))), some (.inr (.inr (60, 0))), some (.inl x2), some (.inr (.inr (70, 0))), some (.inr (.inr (71, 0))), some (.inr (.inr (72, 0))), some (.inr (.inr (73, 0))), o7, some (.inl x8), some (.inl x9), o10, o11]) (st' := [.inl ((2 : Int32) * x9), .inr (.inr (71, 0)), .inl ((2 : Int32) + ((2 : Int32) * x9)), .inl (1 : Int32), .inr (.inr (0, 0))]) (m' := m) (by decide +kernel) rfl ?_
  refine go_iald h.1 (by decide +kernel) rfl rfl (fun b195 => ?_)
  show Go X (Em X puI) 196 [some (.inr (.inr (0, 0))), some (.inr (.inr (60, 0))), some (.inl x2), some (.inr (.inr (70, 0))), some (.inr (.inr (71, 0))), some (.inr (.inr (72, 0))), some (.inr (.inr (73, 0))), o7, some (.inl x8), some (.inl x9), o10, o11] [.inl (m 71 0 (ix ((2 : Int32) * x9))), .inl ((2 : Int32) + ((2 : Int32) * x9)), .inl (1 : Int32), .inr (.inr (0, 0))] m _
  refine go_callV h.1 (index := 25) (n := 3) (t := 0) (i := 0) (ci := 6) (nf := 7) (cz := (RX6, TX6, 7)) (as := [.inl (1 : Int32), .inl ((2 : Int32) + ((2 : Int32) * x9)), .inl (m 71 0 (ix ((2 : Int32) * x9)))]) (rest := []) (ctr_X6_put (xZ X) (1 : Int32) ((2 : Int32) + ((2 : Int32) * x9)) (m 71 0 (ix ((2 : Int32) * x9))) m) (by decide +kernel) rfl rfl wd_v_L_25 rfl (h.room (by first | decide | omega) (by decide)) h.cl (Nat.le_of_ble_eq_true rfl) puI_ok rfl (fun r196 m196 _ => ?_)
  show Go X (Em X puI) 199 [some (.inr (.inr (0, 0))), some (.inr (.inr (60, 0))), some (.inl x2), some (.inr (.inr (70, 0))), some (.inr (.inr (71, 0))), some (.inr (.inr (72, 0))), some (.inr (.inr (73, 0))), o7, some (.inl x8), some (.inl x9), o10, o11] [.inl r196] m196 _
  refine go_blk h.1 (is := [.iconst 1]) (pc' := 200) (ls' := [some (.inr (.inr (0, 0))), some (.inr (.inr (60, 0))), some (.inl x2), some (.inr (.inr (70, 0))), some (.inr (.inr (71, 0))), some (.inr (.inr (72, 0))), some (.inr (.inr (73, 0))), o7, some (.inl x8), some (.inl x9), o10, o11]) (st' := [.inl (1 : Int32), .inl r196]) (m' := m196) (by decide +kernel) rfl ?_
  refine go_icmpne h.1 (off := 27) 227 (by decide +kernel) (by decide) (fun c200 => ?_) (fun c200 => ?_)
  · refine go_blk h.1 (is := [.bipush (-99)]) (pc' := 229) (ls' := [some (.inr (.inr (0, 0))), some (.inr (.inr (60, 0))), some (.inl x2), some (.inr (.inr (70, 0))), some (.inr (.inr (71, 0))), some (.inr (.inr (72, 0))), some (.inr (.inr (73, 0))), o7, some (.inl x8), some (.inl x9), o10, o11]) (st' := [.inl (-99 : Int32)]) (m' := m196) (by decide +kernel) rfl ?_
    exact go_iret h.1 h.2.2.2.2 (by decide +kernel)
  · refine go_blk h.1 (is := [.aload_n 0, .iconst 1, .iconst 3, .iconst 2, .iload 9, .imul, .iadd, .aload 4, .iconst 2, .iload 9, .imul, .iconst 1, .iadd]) (pc' := 219) (ls' := [some (.inr (.inr (0, 0))), some (.inr (.inr (60, 0))), some (.inl x2), some (.inr (.inr (70, 0))), some (.inr (.inr (71, 0))), some (.inr (.inr (72, 0))), some (.inr (.inr (73, 0))), o7, some (.inl x8), some (.inl x9), o10, o11]) (st' := [.inl (((2 : Int32) * x9) + (1 : Int32)), .inr (.inr (71, 0)), .inl ((3 : Int32) + ((2 : Int32) * x9)), .inl (1 : Int32), .inr (.inr (0, 0))]) (m' := m196) (by decide +kernel) rfl ?_
    refine go_iald h.1 (by decide +kernel) rfl rfl (fun b219 => ?_)
    show Go X (Em X puI) 220 [some (.inr (.inr (0, 0))), some (.inr (.inr (60, 0))), some (.inl x2), some (.inr (.inr (70, 0))), some (.inr (.inr (71, 0))), some (.inr (.inr (72, 0))), some (.inr (.inr (73, 0))), o7, some (.inl x8), some (.inl x9), o10, o11] [.inl (m196 71 0 (ix (((2 : Int32) * x9) + (1 : Int32)))), .inl ((3 : Int32) + ((2 : Int32) * x9)), .inl (1 : Int32), .inr (.inr (0, 0))] m196 _
    refine go_callV h.1 (index := 25) (n := 3) (t := 0) (i := 0) (ci := 6) (nf := 7) (cz := (RX6, TX6, 7)) (as := [.inl (1 : Int32), .inl ((3 : Int32) + ((2 : Int32) * x9)), .inl (m196 71 0 (ix (((2 : Int32) * x9) + (1 : Int32))))]) (rest := []) (ctr_X6_put (xZ X) (1 : Int32) ((3 : Int32) + ((2 : Int32) * x9)) (m196 71 0 (ix (((2 : Int32) * x9) + (1 : Int32)))) m196) (by decide +kernel) rfl rfl wd_v_L_25 rfl (h.room (by first | decide | omega) (by decide)) h.cl (Nat.le_of_ble_eq_true rfl) puI_ok rfl (fun r220 m220 _ => ?_)
    show Go X (Em X puI) 223 [some (.inr (.inr (0, 0))), some (.inr (.inr (60, 0))), some (.inl x2), some (.inr (.inr (70, 0))), some (.inr (.inr (71, 0))), some (.inr (.inr (72, 0))), some (.inr (.inr (73, 0))), o7, some (.inl x8), some (.inl x9), o10, o11] [.inl r220] m220 _
    refine go_blk h.1 (is := [.iconst 1]) (pc' := 224) (ls' := [some (.inr (.inr (0, 0))), some (.inr (.inr (60, 0))), some (.inl x2), some (.inr (.inr (70, 0))), some (.inr (.inr (71, 0))), some (.inr (.inr (72, 0))), some (.inr (.inr (73, 0))), o7, some (.inl x8), some (.inl x9), o10, o11]) (st' := [.inl (1 : Int32), .inl r220]) (m' := m220) (by decide +kernel) rfl ?_
    refine go_icmpeq h.1 (off := 6) 230 (by decide +kernel) (by decide) (fun c224 => ?_) (fun c224 => ?_)
    · refine go_blk h.1 (is := [.iinc 9 1]) (pc' := 233) (ls' := [some (.inr (.inr (0, 0))), some (.inr (.inr (60, 0))), some (.inl x2), some (.inr (.inr (70, 0))), some (.inr (.inr (71, 0))), some (.inr (.inr (72, 0))), some (.inr (.inr (73, 0))), o7, some (.inl x8), some (.inl (x9 + (1 : Int32))), o10, o11]) (st' := []) (m' := m220) (by decide +kernel) rfl ?_
      refine go_goto h.1 (off := -191) 42 (by decide +kernel) (by decide) ?_
      exact hn (x9 + (1 : Int32)) m220 (o7) (o10) (o11)
    · refine go_blk h.1 (is := [.bipush (-99)]) (pc' := 229) (ls' := [some (.inr (.inr (0, 0))), some (.inr (.inr (60, 0))), some (.inl x2), some (.inr (.inr (70, 0))), some (.inr (.inr (71, 0))), some (.inr (.inr (72, 0))), some (.inr (.inr (73, 0))), o7, some (.inl x8), some (.inl x9), o10, o11]) (st' := [.inl (-99 : Int32)]) (m' := m220) (by decide +kernel) rfl ?_
      exact go_iret h.1 h.2.2.2.2 (by decide +kernel)

def f_L_lay_b42 (L : Nat) (xsc : Nat → Int32) (x2 : Int32) (x8 : Int32) (next : Int32 × Mem → Option (Int32 × Mem)) (exit : Mem → Option (Int32 × Mem)) (s : Int32 × Mem) : Option (Int32 × Mem) :=
  if x8 ≤ s.1 then
    exit (s.2)
  else
    if ¬ (3 : Int32) = 0 then dv (s.1 - s.1 / (3 : Int32) * (3 : Int32)) (fun q56 =>
      bnd (f_L_cell L xsc ((x2 + (1 : Int32)) + q56) s.2) (fun r58 m58 =>
        if ¬ (3 : Int32) = 0 then dv (s.1 / (3 : Int32)) (fun q64 =>
          if inB (1 : Int32) 28 = true then
            bnd (f_L_some L xsc (r58 >>> ((q64 * (5 : Int32)) &&& 31)) (m58 70 0 (ix (1 : Int32))) m58) (fun r81 m81 =>
              if inB ((2 : Int32) * s.1) 40 = true then
                bnd (f_L_some L xsc ((r58 >>> ((q64 * (5 : Int32)) &&& 31)) >>> ((2 : Int32) &&& 31)) (4 : Int32) (mset m81 71 0 (ix ((2 : Int32) * s.1)) r81)) (fun r98 m98 =>
                  if inB (((2 : Int32) * s.1) + (1 : Int32)) 40 = true then
                    lpk (f_L_lay_b105 L xsc x2 x8 s.1 (r58 >>> ((q64 * (5 : Int32)) &&& 31))) fuelN ((0 : Int32), (mset m98 71 0 (ix (((2 : Int32) * s.1) + (1 : Int32))) r98)) (fun t105 =>
                      f_L_lay_j181 L xsc next exit x2 x8 s.1 t105)
                  else none)
              else none)
          else none)
        else none))
    else none
theorem g_L_lay_b42 {X : XT} (h : MX X method_11_code P_L 3 (some .int)) (x2 : Int32) (x8 : Int32) (next : Int32 × Mem → Option (Int32 × Mem)) (exit : Mem → Option (Int32 × Mem)) (hn : ∀ (y9 : Int32) (n : Mem) (o7 : Option AV) (o10 : Option AV) (o11 : Option AV), Go X (Em X puI) 42 [some (.inr (.inr (0, 0))), some (.inr (.inr (60, 0))), some (.inl x2), some (.inr (.inr (70, 0))), some (.inr (.inr (71, 0))), some (.inr (.inr (72, 0))), some (.inr (.inr (73, 0))), o7, some (.inl x8), some (.inl y9), o10, o11] [] n (next (y9, n))) (hx : ∀ (n : Mem) (o0 : Option AV) (o1 : Option AV) (o2 : Option AV) (o3 : Option AV) (o4 : Option AV) (o5 : Option AV) (o6 : Option AV) (o7 : Option AV) (o9 : Option AV) (o10 : Option AV) (o11 : Option AV), Go X (Em X puI) 236 [o0, o1, o2, o3, o4, o5, o6, o7, some (.inl x8), o9, o10, o11] [] n (exit (n))) (s : Int32 × Mem) (o7 : Option AV) (o10 : Option AV) (o11 : Option AV) : Go X (Em X puI) 42 [some (.inr (.inr (0, 0))), some (.inr (.inr (60, 0))), some (.inl x2), some (.inr (.inr (70, 0))), some (.inr (.inr (71, 0))), some (.inr (.inr (72, 0))), some (.inr (.inr (73, 0))), o7, some (.inl x8), some (.inl s.1), o10, o11] [] s.2 (f_L_lay_b42 (xL X) (xx X) x2 x8 next exit s) := by
  unfold f_L_lay_b42
  refine go_blk h.1 (is := [.iload 9, .iload 8]) (pc' := 46) (ls' := [some (.inr (.inr (0, 0))), some (.inr (.inr (60, 0))), some (.inl x2), some (.inr (.inr (70, 0))), some (.inr (.inr (71, 0))), some (.inr (.inr (72, 0))), some (.inr (.inr (73, 0))), o7, some (.inl x8), some (.inl s.1), o10, o11]) (st' := [.inl x8, .inl s.1]) (m' := s.2) (by decide +kernel) rfl ?_
  refine go_icmpge h.1 (off := 190) 236 (by decide +kernel) (by decide) (fun c46 => ?_) (fun c46 => ?_)
  · exact hx s.2 (some (.inr (.inr (0, 0)))) (some (.inr (.inr (60, 0)))) (some (.inl x2)) (some (.inr (.inr (70, 0)))) (some (.inr (.inr (71, 0)))) (some (.inr (.inr (72, 0)))) (some (.inr (.inr (73, 0)))) (o7) (some (.inl s.1)) (o10) (o11)
  · refine go_blk h.1 (is := [.aload_n 1, .iload_n 2, .iconst 1, .iadd, .iload 9, .iconst 3]) (pc' := 56) (ls' := [some (.inr (.inr (0, 0))), some (.inr (.inr (60, 0))), some (.inl x2), some (.inr (.inr (70, 0))), some (.inr (.inr (71, 0))), some (.inr (.inr (72, 0))), some (.inr (.inr (73, 0))), o7, some (.inl x8), some (.inl s.1), o10, o11]) (st' := [.inl (3 : Int32), .inl s.1, .inl (x2 + (1 : Int32)), .inr (.inr (60, 0))]) (m' := s.2) (by decide +kernel) rfl ?_
    refine go_irem h.1 (by decide +kernel) (fun z56 q56 _ => ?_)
    refine go_blk h.1 (is := [.iadd]) (pc' := 58) (ls' := [some (.inr (.inr (0, 0))), some (.inr (.inr (60, 0))), some (.inl x2), some (.inr (.inr (70, 0))), some (.inr (.inr (71, 0))), some (.inr (.inr (72, 0))), some (.inr (.inr (73, 0))), o7, some (.inl x8), some (.inl s.1), o10, o11]) (st' := [.inl ((x2 + (1 : Int32)) + q56), .inr (.inr (60, 0))]) (m' := s.2) (by decide +kernel) rfl ?_
    refine go_callS h.1 (index := 9) (n := 2) (as := [.inr (.inr (60, 0)), .inl ((x2 + (1 : Int32)) + q56)]) (rest := []) (ctr_L_cell (xZ X) ((x2 + (1 : Int32)) + q56) s.2) (by decide +kernel) wd_s_L_9 rfl (h.room (by first | decide | omega) (by decide)) h.cl (Nat.le_of_ble_eq_true rfl) puI_ok rfl (fun r58 m58 _ => ?_)
    show Go X (Em X puI) 61 [some (.inr (.inr (0, 0))), some (.inr (.inr (60, 0))), some (.inl x2), some (.inr (.inr (70, 0))), some (.inr (.inr (71, 0))), some (.inr (.inr (72, 0))), some (.inr (.inr (73, 0))), o7, some (.inl x8), some (.inl s.1), o10, o11] [.inl r58] m58 _
    refine go_blk h.1 (is := [.iload 9, .iconst 3]) (pc' := 64) (ls' := [some (.inr (.inr (0, 0))), some (.inr (.inr (60, 0))), some (.inl x2), some (.inr (.inr (70, 0))), some (.inr (.inr (71, 0))), some (.inr (.inr (72, 0))), some (.inr (.inr (73, 0))), o7, some (.inl x8), some (.inl s.1), o10, o11]) (st' := [.inl (3 : Int32), .inl s.1, .inl r58]) (m' := m58) (by decide +kernel) rfl ?_
    refine go_idiv h.1 (by decide +kernel) (fun z64 q64 _ => ?_)
    refine go_blk h.1 (is := [.iconst 5, .imul, .ishr, .istore 10, .aload 4, .iconst 2, .iload 9, .imul, .iload 10, .aload_n 3, .iconst 1]) (pc' := 80) (ls' := [some (.inr (.inr (0, 0))), some (.inr (.inr (60, 0))), some (.inl x2), some (.inr (.inr (70, 0))), some (.inr (.inr (71, 0))), some (.inr (.inr (72, 0))), some (.inr (.inr (73, 0))), o7, some (.inl x8), some (.inl s.1), some (.inl (r58 >>> ((q64 * (5 : Int32)) &&& 31))), o11]) (st' := [.inl (1 : Int32), .inr (.inr (70, 0)), .inl (r58 >>> ((q64 * (5 : Int32)) &&& 31)), .inl ((2 : Int32) * s.1), .inr (.inr (71, 0))]) (m' := m58) (by decide +kernel) rfl ?_
    refine go_iald h.1 (by decide +kernel) rfl rfl (fun b80 => ?_)
    show Go X (Em X puI) 81 [some (.inr (.inr (0, 0))), some (.inr (.inr (60, 0))), some (.inl x2), some (.inr (.inr (70, 0))), some (.inr (.inr (71, 0))), some (.inr (.inr (72, 0))), some (.inr (.inr (73, 0))), o7, some (.inl x8), some (.inl s.1), some (.inl (r58 >>> ((q64 * (5 : Int32)) &&& 31))), o11] [.inl (m58 70 0 (ix (1 : Int32))), .inl (r58 >>> ((q64 * (5 : Int32)) &&& 31)), .inl ((2 : Int32) * s.1), .inr (.inr (71, 0))] m58 _
    refine go_callS h.1 (index := 15) (n := 2) (as := [.inl (r58 >>> ((q64 * (5 : Int32)) &&& 31)), .inl (m58 70 0 (ix (1 : Int32)))]) (rest := [.inl ((2 : Int32) * s.1), .inr (.inr (71, 0))]) (ctr_L_some (xZ X) (r58 >>> ((q64 * (5 : Int32)) &&& 31)) (m58 70 0 (ix (1 : Int32))) m58) (by decide +kernel) wd_s_L_15 rfl (h.room (by first | decide | omega) (by decide)) h.cl (Nat.le_of_ble_eq_true rfl) puI_ok rfl (fun r81 m81 _ => ?_)
    show Go X (Em X puI) 84 [some (.inr (.inr (0, 0))), some (.inr (.inr (60, 0))), some (.inl x2), some (.inr (.inr (70, 0))), some (.inr (.inr (71, 0))), some (.inr (.inr (72, 0))), some (.inr (.inr (73, 0))), o7, some (.inl x8), some (.inl s.1), some (.inl (r58 >>> ((q64 * (5 : Int32)) &&& 31))), o11] [.inl r81, .inl ((2 : Int32) * s.1), .inr (.inr (71, 0))] m81 _
    refine go_iast h.1 (by decide +kernel) rfl rfl (fun b84 => ?_)
    refine go_blk h.1 (is := [.aload 4, .iconst 2, .iload 9, .imul, .iconst 1, .iadd, .iload 10, .iconst 2, .ishr, .iconst 4]) (pc' := 98) (ls' := [some (.inr (.inr (0, 0))), some (.inr (.inr (60, 0))), some (.inl x2), some (.inr (.inr (70, 0))), some (.inr (.inr (71, 0))), some (.inr (.inr (72, 0))), some (.inr (.inr (73, 0))), o7, some (.inl x8), some (.inl s.1), some (.inl (r58 >>> ((q64 * (5 : Int32)) &&& 31))), o11]) (st' := [.inl (4 : Int32), .inl ((r58 >>> ((q64 * (5 : Int32)) &&& 31)) >>> ((2 : Int32) &&& 31)), .inl (((2 : Int32) * s.1) + (1 : Int32)), .inr (.inr (71, 0))]) (m' := (mset m81 71 0 (ix ((2 : Int32) * s.1)) r81)) (by decide +kernel) rfl ?_
    refine go_callS h.1 (index := 15) (n := 2) (as := [.inl ((r58 >>> ((q64 * (5 : Int32)) &&& 31)) >>> ((2 : Int32) &&& 31)), .inl (4 : Int32)]) (rest := [.inl (((2 : Int32) * s.1) + (1 : Int32)), .inr (.inr (71, 0))]) (ctr_L_some (xZ X) ((r58 >>> ((q64 * (5 : Int32)) &&& 31)) >>> ((2 : Int32) &&& 31)) (4 : Int32) (mset m81 71 0 (ix ((2 : Int32) * s.1)) r81)) (by decide +kernel) wd_s_L_15 rfl (h.room (by first | decide | omega) (by decide)) h.cl (Nat.le_of_ble_eq_true rfl) puI_ok rfl (fun r98 m98 _ => ?_)
    show Go X (Em X puI) 101 [some (.inr (.inr (0, 0))), some (.inr (.inr (60, 0))), some (.inl x2), some (.inr (.inr (70, 0))), some (.inr (.inr (71, 0))), some (.inr (.inr (72, 0))), some (.inr (.inr (73, 0))), o7, some (.inl x8), some (.inl s.1), some (.inl (r58 >>> ((q64 * (5 : Int32)) &&& 31))), o11] [.inl r98, .inl (((2 : Int32) * s.1) + (1 : Int32)), .inr (.inr (71, 0))] m98 _
    refine go_iast h.1 (by decide +kernel) rfl rfl (fun b101 => ?_)
    refine go_blk h.1 (is := [.iconst 0, .istore 11]) (pc' := 105) (ls' := [some (.inr (.inr (0, 0))), some (.inr (.inr (60, 0))), some (.inl x2), some (.inr (.inr (70, 0))), some (.inr (.inr (71, 0))), some (.inr (.inr (72, 0))), some (.inr (.inr (73, 0))), o7, some (.inl x8), some (.inl s.1), some (.inl (r58 >>> ((q64 * (5 : Int32)) &&& 31))), some (.inl (0 : Int32))]) (st' := []) (m' := (mset m98 71 0 (ix (((2 : Int32) * s.1) + (1 : Int32))) r98)) (by decide +kernel) rfl ?_
    refine go_lp1 (hd := fun (y11 : Int32) (n : Mem) o => ∀ (o7 : Option AV), Go X (Em X puI) 105 [some (.inr (.inr (0, 0))), some (.inr (.inr (60, 0))), some (.inl x2), some (.inr (.inr (70, 0))), some (.inr (.inr (71, 0))), some (.inr (.inr (72, 0))), some (.inr (.inr (73, 0))), o7, some (.inl x8), some (.inl s.1), some (.inl (r58 >>> ((q64 * (5 : Int32)) &&& 31))), some (.inl y11)] [] n o) (fun _ _ _ => go_none) (fun y11 n nx_ hn_ => g_L_lay_b105 h x2 x8 s.1 (r58 >>> ((q64 * (5 : Int32)) &&& 31)) nx_ _ hn_ (fun z_105 o7_105 o10_105 o11_105 => ?_) (y11, n)) fuelN (0 : Int32) (mset m98 71 0 (ix (((2 : Int32) * s.1) + (1 : Int32))) r98) (o7)
    exact g_L_lay_j181 h next exit x2 x8 s.1 z_105 (o7_105) (o10_105) (o11_105) hn hx

def f_L_lay (L : Nat) (xsc : Nat → Int32) (x2 : Int32) (m : Mem) : Option (Int32 × Mem) :=
  bnd (f_L_cell L xsc x2 m) (fun r2 m2 =>
    bnd (f_L_some L xsc r2 (10 : Int32) m2) (fun r11 m11 =>
      bnd (f_X6_sheet (1 : Int32) (0 : Int32) (44 : Int32) m11) (fun r21 m21 =>
        if r21 = (1 : Int32) then
          bnd (f_L_begin L xsc m21) (fun _ m36 =>
            lpk (f_L_lay_b42 L xsc x2 r11) fuelN ((0 : Int32), m36) (fun t42 =>
              some (r11, t42)))
        else
          some ((-99 : Int32), m21))))
theorem g_L_lay {X : XT} (h : MX X method_11_code P_L 3 (some .int)) (x2 : Int32) (m : Mem) : Go X (Em X puI) 0 [some (.inr (.inr (0, 0))), some (.inr (.inr (60, 0))), some (.inl x2), some (.inr (.inr (70, 0))), some (.inr (.inr (71, 0))), some (.inr (.inr (72, 0))), some (.inr (.inr (73, 0))), none, none, none, none, none] [] m (f_L_lay (xL X) (xx X) x2 m) := by
  unfold f_L_lay
  refine go_blk h.1 (is := [.aload_n 1, .iload_n 2]) (pc' := 2) (ls' := [some (.inr (.inr (0, 0))), some (.inr (.inr (60, 0))), some (.inl x2), some (.inr (.inr (70, 0))), some (.inr (.inr (71, 0))), some (.inr (.inr (72, 0))), some (.inr (.inr (73, 0))), none, none, none, none, none]) (st' := [.inl x2, .inr (.inr (60, 0))]) (m' := m) (by decide +kernel) rfl ?_
  refine go_callS h.1 (index := 9) (n := 2) (as := [.inr (.inr (60, 0)), .inl x2]) (rest := []) (ctr_L_cell (xZ X) x2 m) (by decide +kernel) wd_s_L_9 rfl (h.room (by first | decide | omega) (by decide)) h.cl (Nat.le_of_ble_eq_true rfl) puI_ok rfl (fun r2 m2 _ => ?_)
  show Go X (Em X puI) 5 [some (.inr (.inr (0, 0))), some (.inr (.inr (60, 0))), some (.inl x2), some (.inr (.inr (70, 0))), some (.inr (.inr (71, 0))), some (.inr (.inr (72, 0))), some (.inr (.inr (73, 0))), none, none, none, none, none] [.inl r2] m2 _
  refine go_blk h.1 (is := [.istore 7, .iload 7, .bipush 10]) (pc' := 11) (ls' := [some (.inr (.inr (0, 0))), some (.inr (.inr (60, 0))), some (.inl x2), some (.inr (.inr (70, 0))), some (.inr (.inr (71, 0))), some (.inr (.inr (72, 0))), some (.inr (.inr (73, 0))), some (.inl r2), none, none, none, none]) (st' := [.inl (10 : Int32), .inl r2]) (m' := m2) (by decide +kernel) rfl ?_
  refine go_callS h.1 (index := 15) (n := 2) (as := [.inl r2, .inl (10 : Int32)]) (rest := []) (ctr_L_some (xZ X) r2 (10 : Int32) m2) (by decide +kernel) wd_s_L_15 rfl (h.room (by first | decide | omega) (by decide)) h.cl (Nat.le_of_ble_eq_true rfl) puI_ok rfl (fun r11 m11 _ => ?_)
  show Go X (Em X puI) 14 [some (.inr (.inr (0, 0))), some (.inr (.inr (60, 0))), some (.inl x2), some (.inr (.inr (70, 0))), some (.inr (.inr (71, 0))), some (.inr (.inr (72, 0))), some (.inr (.inr (73, 0))), some (.inl r2), none, none, none, none] [.inl r11] m11 _
  refine go_blk h.1 (is := [.istore 8, .aload_n 0, .iconst 1, .iconst 0, .bipush 44]) (pc' := 21) (ls' := [some (.inr (.inr (0, 0))), some (.inr (.inr (60, 0))), some (.inl x2), some (.inr (.inr (70, 0))), some (.inr (.inr (71, 0))), some (.inr (.inr (72, 0))), some (.inr (.inr (73, 0))), some (.inl r2), some (.inl r11), none, none, none]) (st' := [.inl (44 : Int32), .inl (0 : Int32), .inl (1 : Int32), .inr (.inr (0, 0))]) (m' := m11) (by decide +kernel) rfl ?_
  refine go_callV h.1 (index := 19) (n := 3) (t := 0) (i := 0) (ci := 6) (nf := 7) (cz := (RX6, TX6, 7)) (as := [.inl (1 : Int32), .inl (0 : Int32), .inl (44 : Int32)]) (rest := []) (ctr_X6_sheet (xZ X) (1 : Int32) (0 : Int32) (44 : Int32) m11) (by decide +kernel) rfl rfl wd_v_L_19 rfl (h.room (by first | decide | omega) (by decide)) h.cl (Nat.le_of_ble_eq_true rfl) puI_ok rfl (fun r21 m21 _ => ?_)
  show Go X (Em X puI) 24 [some (.inr (.inr (0, 0))), some (.inr (.inr (60, 0))), some (.inl x2), some (.inr (.inr (70, 0))), some (.inr (.inr (71, 0))), some (.inr (.inr (72, 0))), some (.inr (.inr (73, 0))), some (.inl r2), some (.inl r11), none, none, none] [.inl r21] m21 _
  refine go_blk h.1 (is := [.iconst 1]) (pc' := 25) (ls' := [some (.inr (.inr (0, 0))), some (.inr (.inr (60, 0))), some (.inl x2), some (.inr (.inr (70, 0))), some (.inr (.inr (71, 0))), some (.inr (.inr (72, 0))), some (.inr (.inr (73, 0))), some (.inl r2), some (.inl r11), none, none, none]) (st' := [.inl (1 : Int32), .inl r21]) (m' := m21) (by decide +kernel) rfl ?_
  refine go_icmpeq h.1 (off := 6) 31 (by decide +kernel) (by decide) (fun c25 => ?_) (fun c25 => ?_)
  · refine go_blk h.1 (is := [.aload_n 3, .aload 5, .aload 6]) (pc' := 36) (ls' := [some (.inr (.inr (0, 0))), some (.inr (.inr (60, 0))), some (.inl x2), some (.inr (.inr (70, 0))), some (.inr (.inr (71, 0))), some (.inr (.inr (72, 0))), some (.inr (.inr (73, 0))), some (.inl r2), some (.inl r11), none, none, none]) (st' := [.inr (.inr (73, 0)), .inr (.inr (72, 0)), .inr (.inr (70, 0))]) (m' := m21) (by decide +kernel) rfl ?_
    refine go_callS h.1 (index := 45) (n := 3) (as := [.inr (.inr (70, 0)), .inr (.inr (72, 0)), .inr (.inr (73, 0))]) (rest := []) (ctr_L_begin (xZ X) m21) (by decide +kernel) wd_s_L_45 rfl (h.room (by first | decide | omega) (by decide)) h.cl (Nat.le_of_ble_eq_true rfl) puV_ok rfl (fun r36 m36 _ => ?_)
    show Go X (Em X puI) 39 [some (.inr (.inr (0, 0))), some (.inr (.inr (60, 0))), some (.inl x2), some (.inr (.inr (70, 0))), some (.inr (.inr (71, 0))), some (.inr (.inr (72, 0))), some (.inr (.inr (73, 0))), some (.inl r2), some (.inl r11), none, none, none] [] m36 _
    refine go_blk h.1 (is := [.iconst 0, .istore 9]) (pc' := 42) (ls' := [some (.inr (.inr (0, 0))), some (.inr (.inr (60, 0))), some (.inl x2), some (.inr (.inr (70, 0))), some (.inr (.inr (71, 0))), some (.inr (.inr (72, 0))), some (.inr (.inr (73, 0))), some (.inl r2), some (.inl r11), some (.inl (0 : Int32)), none, none]) (st' := []) (m' := m36) (by decide +kernel) rfl ?_
    refine go_lp1 (hd := fun (y9 : Int32) (n : Mem) o => ∀ (o7 : Option AV) (o10 : Option AV) (o11 : Option AV), Go X (Em X puI) 42 [some (.inr (.inr (0, 0))), some (.inr (.inr (60, 0))), some (.inl x2), some (.inr (.inr (70, 0))), some (.inr (.inr (71, 0))), some (.inr (.inr (72, 0))), some (.inr (.inr (73, 0))), o7, some (.inl r11), some (.inl y9), o10, o11] [] n o) (fun _ _ _ _ _ => go_none) (fun y9 n nx_ hn_ => g_L_lay_b42 h x2 r11 nx_ _ hn_ (fun z_42 o0_42 o1_42 o2_42 o3_42 o4_42 o5_42 o6_42 o7_42 o9_42 o10_42 o11_42 => ?_) (y9, n)) fuelN (0 : Int32) m36 (some (.inl r2)) (none) (none)
    refine go_blk h.1 (is := [.iload 8]) (pc' := 238) (ls' := [o0_42, o1_42, o2_42, o3_42, o4_42, o5_42, o6_42, o7_42, some (.inl r11), o9_42, o10_42, o11_42]) (st' := [.inl r11]) (m' := z_42) (by decide +kernel) rfl ?_
    exact go_iret h.1 h.2.2.2.2 (by decide +kernel)
  · refine go_blk h.1 (is := [.bipush (-99)]) (pc' := 30) (ls' := [some (.inr (.inr (0, 0))), some (.inr (.inr (60, 0))), some (.inl x2), some (.inr (.inr (70, 0))), some (.inr (.inr (71, 0))), some (.inr (.inr (72, 0))), some (.inr (.inr (73, 0))), some (.inl r2), some (.inl r11), none, none, none]) (st' := [.inl (-99 : Int32)]) (m' := m21) (by decide +kernel) rfl ?_
    exact go_iret h.1 h.2.2.2.2 (by decide +kernel)
theorem ctr_L_lay (Z : ZT) (x2 : Int32) (m : Mem) : Ctr Z yL_lay method_11_code 12 (some .int) 3 puI [.inr (.inr (0, 0)), .inr (.inr (60, 0)), .inl x2, .inr (.inr (70, 0)), .inr (.inr (71, 0)), .inr (.inr (72, 0)), .inr (.inr (73, 0))] m (f_L_lay (zL Z) (zx Z) x2 m) :=
  ctr_of (P := P_L) (by decide +kernel) rfl pt_L rfl rfl (fun X hC hZ hR h0 h1 hr => by subst hZ; exact g_L_lay ⟨hC, hR, h0, h1, hr⟩ x2 m)

def f_L_go_b10 (L : Nat) (xsc : Nat → Int32) (x2 : Int32) (next : Int32 × Mem → Option (Int32 × Mem)) (exit : Mem → Option (Int32 × Mem)) (s : Int32 × Mem) : Option (Int32 × Mem) :=
  if x2 ≤ s.1 then
    exit (s.2)
  else
    if inB ((2 : Int32) * s.1) 40 = true then
      if inB (((2 : Int32) * s.1) + (1 : Int32)) 40 = true then
        bnd (f_L_pass L xsc (s.2 71 0 (ix ((2 : Int32) * s.1))) (s.2 71 0 (ix (((2 : Int32) * s.1) + (1 : Int32)))) s.2) (fun r34 m34 =>
          if r34 = 0 then
            some (s.1, m34)
          else
            next ((s.1 + (1 : Int32)), m34))
      else none
    else none
theorem g_L_go_b10 {X : XT} (h : MX X method_10_code P_L 3 (some .int)) (x2 : Int32) (next : Int32 × Mem → Option (Int32 × Mem)) (exit : Mem → Option (Int32 × Mem)) (hn : ∀ (y5 : Int32) (n : Mem), Go X (Em X puI) 10 [some (.inr (.inr (70, 0))), some (.inr (.inr (71, 0))), some (.inl x2), some (.inr (.inr (72, 0))), some (.inr (.inr (73, 0))), some (.inl y5)] [] n (next (y5, n))) (hx : ∀ (n : Mem) (o0 : Option AV) (o1 : Option AV) (o2 : Option AV) (o3 : Option AV) (o4 : Option AV) (o5 : Option AV), Go X (Em X puI) 49 [o0, o1, o2, o3, o4, o5] [] n (exit (n))) (s : Int32 × Mem) : Go X (Em X puI) 10 [some (.inr (.inr (70, 0))), some (.inr (.inr (71, 0))), some (.inl x2), some (.inr (.inr (72, 0))), some (.inr (.inr (73, 0))), some (.inl s.1)] [] s.2 (f_L_go_b10 (xL X) (xx X) x2 next exit s) := by
  unfold f_L_go_b10
  refine go_blk h.1 (is := [.iload 5, .iload_n 2]) (pc' := 13) (ls' := [some (.inr (.inr (70, 0))), some (.inr (.inr (71, 0))), some (.inl x2), some (.inr (.inr (72, 0))), some (.inr (.inr (73, 0))), some (.inl s.1)]) (st' := [.inl x2, .inl s.1]) (m' := s.2) (by decide +kernel) rfl ?_
  refine go_icmpge h.1 (off := 36) 49 (by decide +kernel) (by decide) (fun c13 => ?_) (fun c13 => ?_)
  · exact hx s.2 (some (.inr (.inr (70, 0)))) (some (.inr (.inr (71, 0)))) (some (.inl x2)) (some (.inr (.inr (72, 0)))) (some (.inr (.inr (73, 0)))) (some (.inl s.1))
  · refine go_blk h.1 (is := [.aload_n 0, .aload_n 1, .iconst 2, .iload 5, .imul]) (pc' := 22) (ls' := [some (.inr (.inr (70, 0))), some (.inr (.inr (71, 0))), some (.inl x2), some (.inr (.inr (72, 0))), some (.inr (.inr (73, 0))), some (.inl s.1)]) (st' := [.inl ((2 : Int32) * s.1), .inr (.inr (71, 0)), .inr (.inr (70, 0))]) (m' := s.2) (by decide +kernel) rfl ?_
    refine go_iald h.1 (by decide +kernel) rfl rfl (fun b22 => ?_)
    show Go X (Em X puI) 23 [some (.inr (.inr (70, 0))), some (.inr (.inr (71, 0))), some (.inl x2), some (.inr (.inr (72, 0))), some (.inr (.inr (73, 0))), some (.inl s.1)] [.inl (s.2 71 0 (ix ((2 : Int32) * s.1))), .inr (.inr (70, 0))] s.2 _
    refine go_blk h.1 (is := [.aload_n 1, .iconst 2, .iload 5, .imul, .iconst 1, .iadd]) (pc' := 30) (ls' := [some (.inr (.inr (70, 0))), some (.inr (.inr (71, 0))), some (.inl x2), some (.inr (.inr (72, 0))), some (.inr (.inr (73, 0))), some (.inl s.1)]) (st' := [.inl (((2 : Int32) * s.1) + (1 : Int32)), .inr (.inr (71, 0)), .inl (s.2 71 0 (ix ((2 : Int32) * s.1))), .inr (.inr (70, 0))]) (m' := s.2) (by decide +kernel) rfl ?_
    refine go_iald h.1 (by decide +kernel) rfl rfl (fun b30 => ?_)
    show Go X (Em X puI) 31 [some (.inr (.inr (70, 0))), some (.inr (.inr (71, 0))), some (.inl x2), some (.inr (.inr (72, 0))), some (.inr (.inr (73, 0))), some (.inl s.1)] [.inl (s.2 71 0 (ix (((2 : Int32) * s.1) + (1 : Int32)))), .inl (s.2 71 0 (ix ((2 : Int32) * s.1))), .inr (.inr (70, 0))] s.2 _
    refine go_blk h.1 (is := [.aload_n 3, .aload 4]) (pc' := 34) (ls' := [some (.inr (.inr (70, 0))), some (.inr (.inr (71, 0))), some (.inl x2), some (.inr (.inr (72, 0))), some (.inr (.inr (73, 0))), some (.inl s.1)]) (st' := [.inr (.inr (73, 0)), .inr (.inr (72, 0)), .inl (s.2 71 0 (ix (((2 : Int32) * s.1) + (1 : Int32)))), .inl (s.2 71 0 (ix ((2 : Int32) * s.1))), .inr (.inr (70, 0))]) (m' := s.2) (by decide +kernel) rfl ?_
    refine go_callS h.1 (index := 49) (n := 5) (as := [.inr (.inr (70, 0)), .inl (s.2 71 0 (ix ((2 : Int32) * s.1))), .inl (s.2 71 0 (ix (((2 : Int32) * s.1) + (1 : Int32)))), .inr (.inr (72, 0)), .inr (.inr (73, 0))]) (rest := []) (ctr_L_pass (xZ X) (s.2 71 0 (ix ((2 : Int32) * s.1))) (s.2 71 0 (ix (((2 : Int32) * s.1) + (1 : Int32)))) s.2) (by decide +kernel) wd_s_L_49 rfl (h.room (by first | decide | omega) (by decide)) h.cl (Nat.le_of_ble_eq_true rfl) puI_ok rfl (fun r34 m34 _ => ?_)
    show Go X (Em X puI) 37 [some (.inr (.inr (70, 0))), some (.inr (.inr (71, 0))), some (.inl x2), some (.inr (.inr (72, 0))), some (.inr (.inr (73, 0))), some (.inl s.1)] [.inl r34] m34 _
    refine go_ifne h.1 (off := 6) 43 (by decide +kernel) (by decide) (fun c37 => ?_) (fun c37 => ?_)
    · refine go_blk h.1 (is := [.iinc 5 1]) (pc' := 46) (ls' := [some (.inr (.inr (70, 0))), some (.inr (.inr (71, 0))), some (.inl x2), some (.inr (.inr (72, 0))), some (.inr (.inr (73, 0))), some (.inl (s.1 + (1 : Int32)))]) (st' := []) (m' := m34) (by decide +kernel) rfl ?_
      refine go_goto h.1 (off := -36) 10 (by decide +kernel) (by decide) ?_
      exact hn (s.1 + (1 : Int32)) m34
    · refine go_blk h.1 (is := [.iload 5]) (pc' := 42) (ls' := [some (.inr (.inr (70, 0))), some (.inr (.inr (71, 0))), some (.inl x2), some (.inr (.inr (72, 0))), some (.inr (.inr (73, 0))), some (.inl s.1)]) (st' := [.inl s.1]) (m' := m34) (by decide +kernel) rfl ?_
      exact go_iret h.1 h.2.2.2.2 (by decide +kernel)

def f_L_go (L : Nat) (xsc : Nat → Int32) (x2 : Int32) (m : Mem) : Option (Int32 × Mem) :=
  bnd (f_L_begin L xsc m) (fun _ m4 =>
    lpk (f_L_go_b10 L xsc x2) fuelN ((0 : Int32), m4) (fun t10 =>
      some ((-9 : Int32), t10)))
theorem g_L_go {X : XT} (h : MX X method_10_code P_L 3 (some .int)) (x2 : Int32) (m : Mem) : Go X (Em X puI) 0 [some (.inr (.inr (70, 0))), some (.inr (.inr (71, 0))), some (.inl x2), some (.inr (.inr (72, 0))), some (.inr (.inr (73, 0))), none] [] m (f_L_go (xL X) (xx X) x2 m) := by
  unfold f_L_go
  refine go_blk h.1 (is := [.aload_n 0, .aload_n 3, .aload 4]) (pc' := 4) (ls' := [some (.inr (.inr (70, 0))), some (.inr (.inr (71, 0))), some (.inl x2), some (.inr (.inr (72, 0))), some (.inr (.inr (73, 0))), none]) (st' := [.inr (.inr (73, 0)), .inr (.inr (72, 0)), .inr (.inr (70, 0))]) (m' := m) (by decide +kernel) rfl ?_
  refine go_callS h.1 (index := 45) (n := 3) (as := [.inr (.inr (70, 0)), .inr (.inr (72, 0)), .inr (.inr (73, 0))]) (rest := []) (ctr_L_begin (xZ X) m) (by decide +kernel) wd_s_L_45 rfl (h.room (by first | decide | omega) (by decide)) h.cl (Nat.le_of_ble_eq_true rfl) puV_ok rfl (fun r4 m4 _ => ?_)
  show Go X (Em X puI) 7 [some (.inr (.inr (70, 0))), some (.inr (.inr (71, 0))), some (.inl x2), some (.inr (.inr (72, 0))), some (.inr (.inr (73, 0))), none] [] m4 _
  refine go_blk h.1 (is := [.iconst 0, .istore 5]) (pc' := 10) (ls' := [some (.inr (.inr (70, 0))), some (.inr (.inr (71, 0))), some (.inl x2), some (.inr (.inr (72, 0))), some (.inr (.inr (73, 0))), some (.inl (0 : Int32))]) (st' := []) (m' := m4) (by decide +kernel) rfl ?_
  refine go_lp1 (hd := fun (y5 : Int32) (n : Mem) o => Go X (Em X puI) 10 [some (.inr (.inr (70, 0))), some (.inr (.inr (71, 0))), some (.inl x2), some (.inr (.inr (72, 0))), some (.inr (.inr (73, 0))), some (.inl y5)] [] n o) (fun _ _ => go_none) (fun y5 n nx_ hn_ => g_L_go_b10 h x2 nx_ _ hn_ (fun z_10 o0_10 o1_10 o2_10 o3_10 o4_10 o5_10 => ?_) (y5, n)) fuelN (0 : Int32) m4
  refine go_blk h.1 (is := [.bipush (-9)]) (pc' := 51) (ls' := [o0_10, o1_10, o2_10, o3_10, o4_10, o5_10]) (st' := [.inl (-9 : Int32)]) (m' := z_10) (by decide +kernel) rfl ?_
  exact go_iret h.1 h.2.2.2.2 (by decide +kernel)
theorem ctr_L_go (Z : ZT) (x2 : Int32) (m : Mem) : Ctr Z yL_go method_10_code 6 (some .int) 3 puI [.inr (.inr (70, 0)), .inr (.inr (71, 0)), .inl x2, .inr (.inr (72, 0)), .inr (.inr (73, 0))] m (f_L_go (zL Z) (zx Z) x2 m) :=
  ctr_of (P := P_L) (by decide +kernel) rfl pt_L rfl rfl (fun X hC hZ hR h0 h1 hr => by subst hZ; exact g_L_go ⟨hC, hR, h0, h1, hr⟩ x2 m)

def f_L_change_j81 (L : Nat) (xsc : Nat → Int32) (s0 : Int32) (s1 : Int32) (x3 : Int32) (x4 : Int32) (x5 : Int32) (m : Mem) : Option (Int32 × Mem) :=
  bnd (f_L_some L xsc s1 s0 m) (fun r81 m81 =>
    bnd (f_X6_scales x3 x4 m81) (fun r90 m90 =>
      if inB ((13 : Int32) + x3) 28 = true then
        if r90 = (m90 70 0 (ix ((13 : Int32) + x3))) then
          bnd (f_X6_hear x5 m90) (fun r105 m105 =>
            if inB (2 : Int32) 28 = true then
              if r105 = (m105 70 0 (ix (2 : Int32))) then
                bnd (f_X6_dear r81 m105) (fun r117 m117 =>
                  if inB (0 : Int32) 28 = true then
                    if r117 = (m117 70 0 (ix (0 : Int32))) then
                      if inB ((13 : Int32) + x3) 28 = true then
                        if inB (2 : Int32) 28 = true then
                          if inB (0 : Int32) 28 = true then
                            some ((1 : Int32), (mset (mset (mset m117 70 0 (ix ((13 : Int32) + x3)) x4) 70 0 (ix (2 : Int32)) x5) 70 0 (ix (0 : Int32)) r81))
                          else none
                        else none
                      else none
                    else
                      some ((0 : Int32), m117)
                  else none)
              else
                some ((0 : Int32), m105)
            else none)
        else
          some ((0 : Int32), m90)
      else none))
theorem g_L_change_j81 {X : XT} (h : MX X method_5_code P_L 2 (some .boolean)) (s0 : Int32) (s1 : Int32) (x3 : Int32) (x4 : Int32) (x5 : Int32) (m : Mem) (o1 : Option AV) (o6 : Option AV) : Go X (Em X puI) 81 [some (.inr (.inr (0, 0))), o1, some (.inr (.inr (70, 0))), some (.inl x3), some (.inl x4), some (.inl x5), o6] [.inl s0, .inl s1] m (f_L_change_j81 (xL X) (xx X) s0 s1 x3 x4 x5 m) := by
  unfold f_L_change_j81
  refine go_callS h.1 (index := 15) (n := 2) (as := [.inl s1, .inl s0]) (rest := []) (ctr_L_some (xZ X) s1 s0 m) (by decide +kernel) wd_s_L_15 rfl (h.room (by first | decide | omega) (by decide)) h.cl (Nat.le_of_ble_eq_true rfl) puI_ok rfl (fun r81 m81 _ => ?_)
  show Go X (Em X puI) 84 [some (.inr (.inr (0, 0))), o1, some (.inr (.inr (70, 0))), some (.inl x3), some (.inl x4), some (.inl x5), o6] [.inl r81] m81 _
  refine go_blk h.1 (is := [.istore 6, .aload_n 0, .iload_n 3, .iload 4]) (pc' := 90) (ls' := [some (.inr (.inr (0, 0))), o1, some (.inr (.inr (70, 0))), some (.inl x3), some (.inl x4), some (.inl x5), some (.inl r81)]) (st' := [.inl x4, .inl x3, .inr (.inr (0, 0))]) (m' := m81) (by decide +kernel) rfl ?_
  refine go_callV h.1 (index := 28) (n := 2) (t := 0) (i := 0) (ci := 6) (nf := 7) (cz := (RX6, TX6, 7)) (as := [.inl x3, .inl x4]) (rest := []) (ctr_X6_scales (xZ X) x3 x4 m81) (by decide +kernel) rfl rfl wd_v_L_28 rfl (h.room (by first | decide | omega) (by decide)) h.cl (Nat.le_of_ble_eq_true rfl) puI_ok rfl (fun r90 m90 _ => ?_)
  show Go X (Em X puI) 93 [some (.inr (.inr (0, 0))), o1, some (.inr (.inr (70, 0))), some (.inl x3), some (.inl x4), some (.inl x5), some (.inl r81)] [.inl r90] m90 _
  refine go_blk h.1 (is := [.aload_n 2, .bipush 13, .iload_n 3, .iadd]) (pc' := 98) (ls' := [some (.inr (.inr (0, 0))), o1, some (.inr (.inr (70, 0))), some (.inl x3), some (.inl x4), some (.inl x5), some (.inl r81)]) (st' := [.inl ((13 : Int32) + x3), .inr (.inr (70, 0)), .inl r90]) (m' := m90) (by decide +kernel) rfl ?_
  refine go_iald h.1 (by decide +kernel) rfl rfl (fun b98 => ?_)
  show Go X (Em X puI) 99 [some (.inr (.inr (0, 0))), o1, some (.inr (.inr (70, 0))), some (.inl x3), some (.inl x4), some (.inl x5), some (.inl r81)] [.inl (m90 70 0 (ix ((13 : Int32) + x3))), .inl r90] m90 _
  refine go_icmpne h.1 (off := 27) 126 (by decide +kernel) (by decide) (fun c99 => ?_) (fun c99 => ?_)
  · refine go_blk h.1 (is := [.iconst 0]) (pc' := 127) (ls' := [some (.inr (.inr (0, 0))), o1, some (.inr (.inr (70, 0))), some (.inl x3), some (.inl x4), some (.inl x5), some (.inl r81)]) (st' := [.inl (0 : Int32)]) (m' := m90) (by decide +kernel) rfl ?_
    exact go_zret h.1 h.2.2.2.2 (Or.inl rfl) (by decide +kernel)
  · refine go_blk h.1 (is := [.aload_n 0, .iload 5]) (pc' := 105) (ls' := [some (.inr (.inr (0, 0))), o1, some (.inr (.inr (70, 0))), some (.inl x3), some (.inl x4), some (.inl x5), some (.inl r81)]) (st' := [.inl x5, .inr (.inr (0, 0))]) (m' := m90) (by decide +kernel) rfl ?_
    refine go_callV h.1 (index := 31) (n := 1) (t := 0) (i := 0) (ci := 6) (nf := 7) (cz := (RX6, TX6, 7)) (as := [.inl x5]) (rest := []) (ctr_X6_hear (xZ X) x5 m90) (by decide +kernel) rfl rfl wd_v_L_31 rfl (h.room (by first | decide | omega) (by decide)) h.cl (Nat.le_of_ble_eq_true rfl) puI_ok rfl (fun r105 m105 _ => ?_)
    show Go X (Em X puI) 108 [some (.inr (.inr (0, 0))), o1, some (.inr (.inr (70, 0))), some (.inl x3), some (.inl x4), some (.inl x5), some (.inl r81)] [.inl r105] m105 _
    refine go_blk h.1 (is := [.aload_n 2, .iconst 2]) (pc' := 110) (ls' := [some (.inr (.inr (0, 0))), o1, some (.inr (.inr (70, 0))), some (.inl x3), some (.inl x4), some (.inl x5), some (.inl r81)]) (st' := [.inl (2 : Int32), .inr (.inr (70, 0)), .inl r105]) (m' := m105) (by decide +kernel) rfl ?_
    refine go_iald h.1 (by decide +kernel) rfl rfl (fun b110 => ?_)
    show Go X (Em X puI) 111 [some (.inr (.inr (0, 0))), o1, some (.inr (.inr (70, 0))), some (.inl x3), some (.inl x4), some (.inl x5), some (.inl r81)] [.inl (m105 70 0 (ix (2 : Int32))), .inl r105] m105 _
    refine go_icmpne h.1 (off := 15) 126 (by decide +kernel) (by decide) (fun c111 => ?_) (fun c111 => ?_)
    · refine go_blk h.1 (is := [.iconst 0]) (pc' := 127) (ls' := [some (.inr (.inr (0, 0))), o1, some (.inr (.inr (70, 0))), some (.inl x3), some (.inl x4), some (.inl x5), some (.inl r81)]) (st' := [.inl (0 : Int32)]) (m' := m105) (by decide +kernel) rfl ?_
      exact go_zret h.1 h.2.2.2.2 (Or.inl rfl) (by decide +kernel)
    · refine go_blk h.1 (is := [.aload_n 0, .iload 6]) (pc' := 117) (ls' := [some (.inr (.inr (0, 0))), o1, some (.inr (.inr (70, 0))), some (.inl x3), some (.inl x4), some (.inl x5), some (.inl r81)]) (st' := [.inl r81, .inr (.inr (0, 0))]) (m' := m105) (by decide +kernel) rfl ?_
      refine go_callV h.1 (index := 35) (n := 1) (t := 0) (i := 0) (ci := 6) (nf := 7) (cz := (RX6, TX6, 7)) (as := [.inl r81]) (rest := []) (ctr_X6_dear (xZ X) r81 m105) (by decide +kernel) rfl rfl wd_v_L_35 rfl (h.room (by first | decide | omega) (by decide)) h.cl (Nat.le_of_ble_eq_true rfl) puI_ok rfl (fun r117 m117 _ => ?_)
      show Go X (Em X puI) 120 [some (.inr (.inr (0, 0))), o1, some (.inr (.inr (70, 0))), some (.inl x3), some (.inl x4), some (.inl x5), some (.inl r81)] [.inl r117] m117 _
      refine go_blk h.1 (is := [.aload_n 2, .iconst 0]) (pc' := 122) (ls' := [some (.inr (.inr (0, 0))), o1, some (.inr (.inr (70, 0))), some (.inl x3), some (.inl x4), some (.inl x5), some (.inl r81)]) (st' := [.inl (0 : Int32), .inr (.inr (70, 0)), .inl r117]) (m' := m117) (by decide +kernel) rfl ?_
      refine go_iald h.1 (by decide +kernel) rfl rfl (fun b122 => ?_)
      show Go X (Em X puI) 123 [some (.inr (.inr (0, 0))), o1, some (.inr (.inr (70, 0))), some (.inl x3), some (.inl x4), some (.inl x5), some (.inl r81)] [.inl (m117 70 0 (ix (0 : Int32))), .inl r117] m117 _
      refine go_icmpeq h.1 (off := 5) 128 (by decide +kernel) (by decide) (fun c123 => ?_) (fun c123 => ?_)
      · refine go_blk h.1 (is := [.aload_n 2, .bipush 13, .iload_n 3, .iadd, .iload 4]) (pc' := 135) (ls' := [some (.inr (.inr (0, 0))), o1, some (.inr (.inr (70, 0))), some (.inl x3), some (.inl x4), some (.inl x5), some (.inl r81)]) (st' := [.inl x4, .inl ((13 : Int32) + x3), .inr (.inr (70, 0))]) (m' := m117) (by decide +kernel) rfl ?_
        refine go_iast h.1 (by decide +kernel) rfl rfl (fun b135 => ?_)
        refine go_blk h.1 (is := [.aload_n 2, .iconst 2, .iload 5]) (pc' := 140) (ls' := [some (.inr (.inr (0, 0))), o1, some (.inr (.inr (70, 0))), some (.inl x3), some (.inl x4), some (.inl x5), some (.inl r81)]) (st' := [.inl x5, .inl (2 : Int32), .inr (.inr (70, 0))]) (m' := (mset m117 70 0 (ix ((13 : Int32) + x3)) x4)) (by decide +kernel) rfl ?_
        refine go_iast h.1 (by decide +kernel) rfl rfl (fun b140 => ?_)
        refine go_blk h.1 (is := [.aload_n 2, .iconst 0, .iload 6]) (pc' := 145) (ls' := [some (.inr (.inr (0, 0))), o1, some (.inr (.inr (70, 0))), some (.inl x3), some (.inl x4), some (.inl x5), some (.inl r81)]) (st' := [.inl r81, .inl (0 : Int32), .inr (.inr (70, 0))]) (m' := (mset (mset m117 70 0 (ix ((13 : Int32) + x3)) x4) 70 0 (ix (2 : Int32)) x5)) (by decide +kernel) rfl ?_
        refine go_iast h.1 (by decide +kernel) rfl rfl (fun b145 => ?_)
        refine go_blk h.1 (is := [.iconst 1]) (pc' := 147) (ls' := [some (.inr (.inr (0, 0))), o1, some (.inr (.inr (70, 0))), some (.inl x3), some (.inl x4), some (.inl x5), some (.inl r81)]) (st' := [.inl (1 : Int32)]) (m' := (mset (mset (mset m117 70 0 (ix ((13 : Int32) + x3)) x4) 70 0 (ix (2 : Int32)) x5) 70 0 (ix (0 : Int32)) r81)) (by decide +kernel) rfl ?_
        exact go_zret h.1 h.2.2.2.2 (Or.inr rfl) (by decide +kernel)
      · refine go_blk h.1 (is := [.iconst 0]) (pc' := 127) (ls' := [some (.inr (.inr (0, 0))), o1, some (.inr (.inr (70, 0))), some (.inl x3), some (.inl x4), some (.inl x5), some (.inl r81)]) (st' := [.inl (0 : Int32)]) (m' := m117) (by decide +kernel) rfl ?_
        exact go_zret h.1 h.2.2.2.2 (Or.inl rfl) (by decide +kernel)

def f_L_change_j58 (L : Nat) (xsc : Nat → Int32) (s0 : Int32) (x1 : Int32) (x3 : Int32) (x4 : Int32) (m : Mem) : Option (Int32 × Mem) :=
  bnd (f_L_some L xsc (x1 >>> ((13 : Int32) &&& 31)) (2 : Int32) m) (fun r69 m69 =>
    if r69 = 0 then
      f_L_change_j81 L xsc (10 : Int32) (x1 >>> ((9 : Int32) &&& 31)) x3 x4 s0 m69
    else
      f_L_change_j81 L xsc (3 : Int32) (x1 >>> ((9 : Int32) &&& 31)) x3 x4 s0 m69)
theorem g_L_change_j58 {X : XT} (h : MX X method_5_code P_L 2 (some .boolean)) (s0 : Int32) (x1 : Int32) (x3 : Int32) (x4 : Int32) (m : Mem) (o5 : Option AV) (o6 : Option AV) : Go X (Em X puI) 58 [some (.inr (.inr (0, 0))), some (.inl x1), some (.inr (.inr (70, 0))), some (.inl x3), some (.inl x4), o5, o6] [.inl s0] m (f_L_change_j58 (xL X) (xx X) s0 x1 x3 x4 m) := by
  unfold f_L_change_j58
  refine go_blk h.1 (is := [.istore 5, .iload_n 1, .bipush 9, .ishr, .iload_n 1, .bipush 13, .ishr, .iconst 2]) (pc' := 69) (ls' := [some (.inr (.inr (0, 0))), some (.inl x1), some (.inr (.inr (70, 0))), some (.inl x3), some (.inl x4), some (.inl s0), o6]) (st' := [.inl (2 : Int32), .inl (x1 >>> ((13 : Int32) &&& 31)), .inl (x1 >>> ((9 : Int32) &&& 31))]) (m' := m) (by decide +kernel) rfl ?_
  refine go_callS h.1 (index := 15) (n := 2) (as := [.inl (x1 >>> ((13 : Int32) &&& 31)), .inl (2 : Int32)]) (rest := [.inl (x1 >>> ((9 : Int32) &&& 31))]) (ctr_L_some (xZ X) (x1 >>> ((13 : Int32) &&& 31)) (2 : Int32) m) (by decide +kernel) wd_s_L_15 rfl (h.room (by first | decide | omega) (by decide)) h.cl (Nat.le_of_ble_eq_true rfl) puI_ok rfl (fun r69 m69 _ => ?_)
  show Go X (Em X puI) 72 [some (.inr (.inr (0, 0))), some (.inl x1), some (.inr (.inr (70, 0))), some (.inl x3), some (.inl x4), some (.inl s0), o6] [.inl r69, .inl (x1 >>> ((9 : Int32) &&& 31))] m69 _
  refine go_ifne h.1 (off := 8) 80 (by decide +kernel) (by decide) (fun c72 => ?_) (fun c72 => ?_)
  · refine go_blk h.1 (is := [.iconst 3]) (pc' := 81) (ls' := [some (.inr (.inr (0, 0))), some (.inl x1), some (.inr (.inr (70, 0))), some (.inl x3), some (.inl x4), some (.inl s0), o6]) (st' := [.inl (3 : Int32), .inl (x1 >>> ((9 : Int32) &&& 31))]) (m' := m69) (by decide +kernel) rfl ?_
    exact g_L_change_j81 h (3 : Int32) (x1 >>> ((9 : Int32) &&& 31)) x3 x4 s0 m69 (some (.inl x1)) (o6)
  · refine go_blk h.1 (is := [.bipush 10]) (pc' := 77) (ls' := [some (.inr (.inr (0, 0))), some (.inl x1), some (.inr (.inr (70, 0))), some (.inl x3), some (.inl x4), some (.inl s0), o6]) (st' := [.inl (10 : Int32), .inl (x1 >>> ((9 : Int32) &&& 31))]) (m' := m69) (by decide +kernel) rfl ?_
    refine go_goto h.1 (off := 4) 81 (by decide +kernel) (by decide) ?_
    exact g_L_change_j81 h (10 : Int32) (x1 >>> ((9 : Int32) &&& 31)) x3 x4 s0 m69 (some (.inl x1)) (o6)

def f_L_change_j29 (L : Nat) (xsc : Nat → Int32) (s0 : Int32) (s1 : Int32) (x1 : Int32) (x3 : Int32) (m : Mem) : Option (Int32 × Mem) :=
  bnd (f_L_some L xsc s1 s0 m) (fun r29 m29 =>
    bnd (f_L_some L xsc (x1 >>> ((6 : Int32) &&& 31)) (2 : Int32) m29) (fun r39 m39 =>
      if r39 = 0 then
        bnd (f_L_some L xsc (x1 >>> ((7 : Int32) &&& 31)) (64 : Int32) m39) (fun r51 m51 =>
          f_L_change_j58 L xsc r51 x1 x3 r29 m51)
      else
        f_L_change_j58 L xsc (0 : Int32) x1 x3 r29 m39))
theorem g_L_change_j29 {X : XT} (h : MX X method_5_code P_L 2 (some .boolean)) (s0 : Int32) (s1 : Int32) (x1 : Int32) (x3 : Int32) (m : Mem) (o4 : Option AV) (o5 : Option AV) (o6 : Option AV) : Go X (Em X puI) 29 [some (.inr (.inr (0, 0))), some (.inl x1), some (.inr (.inr (70, 0))), some (.inl x3), o4, o5, o6] [.inl s0, .inl s1] m (f_L_change_j29 (xL X) (xx X) s0 s1 x1 x3 m) := by
  unfold f_L_change_j29
  refine go_callS h.1 (index := 15) (n := 2) (as := [.inl s1, .inl s0]) (rest := []) (ctr_L_some (xZ X) s1 s0 m) (by decide +kernel) wd_s_L_15 rfl (h.room (by first | decide | omega) (by decide)) h.cl (Nat.le_of_ble_eq_true rfl) puI_ok rfl (fun r29 m29 _ => ?_)
  show Go X (Em X puI) 32 [some (.inr (.inr (0, 0))), some (.inl x1), some (.inr (.inr (70, 0))), some (.inl x3), o4, o5, o6] [.inl r29] m29 _
  refine go_blk h.1 (is := [.istore 4, .iload_n 1, .bipush 6, .ishr, .iconst 2]) (pc' := 39) (ls' := [some (.inr (.inr (0, 0))), some (.inl x1), some (.inr (.inr (70, 0))), some (.inl x3), some (.inl r29), o5, o6]) (st' := [.inl (2 : Int32), .inl (x1 >>> ((6 : Int32) &&& 31))]) (m' := m29) (by decide +kernel) rfl ?_
  refine go_callS h.1 (index := 15) (n := 2) (as := [.inl (x1 >>> ((6 : Int32) &&& 31)), .inl (2 : Int32)]) (rest := []) (ctr_L_some (xZ X) (x1 >>> ((6 : Int32) &&& 31)) (2 : Int32) m29) (by decide +kernel) wd_s_L_15 rfl (h.room (by first | decide | omega) (by decide)) h.cl (Nat.le_of_ble_eq_true rfl) puI_ok rfl (fun r39 m39 _ => ?_)
  show Go X (Em X puI) 42 [some (.inr (.inr (0, 0))), some (.inl x1), some (.inr (.inr (70, 0))), some (.inl x3), some (.inl r29), o5, o6] [.inl r39] m39 _
  refine go_ifne h.1 (off := 15) 57 (by decide +kernel) (by decide) (fun c42 => ?_) (fun c42 => ?_)
  · refine go_blk h.1 (is := [.iconst 0]) (pc' := 58) (ls' := [some (.inr (.inr (0, 0))), some (.inl x1), some (.inr (.inr (70, 0))), some (.inl x3), some (.inl r29), o5, o6]) (st' := [.inl (0 : Int32)]) (m' := m39) (by decide +kernel) rfl ?_
    exact g_L_change_j58 h (0 : Int32) x1 x3 r29 m39 (o5) (o6)
  · refine go_blk h.1 (is := [.iload_n 1, .bipush 7, .ishr, .bipush 64]) (pc' := 51) (ls' := [some (.inr (.inr (0, 0))), some (.inl x1), some (.inr (.inr (70, 0))), some (.inl x3), some (.inl r29), o5, o6]) (st' := [.inl (64 : Int32), .inl (x1 >>> ((7 : Int32) &&& 31))]) (m' := m39) (by decide +kernel) rfl ?_
    refine go_callS h.1 (index := 15) (n := 2) (as := [.inl (x1 >>> ((7 : Int32) &&& 31)), .inl (64 : Int32)]) (rest := []) (ctr_L_some (xZ X) (x1 >>> ((7 : Int32) &&& 31)) (64 : Int32) m39) (by decide +kernel) wd_s_L_15 rfl (h.room (by first | decide | omega) (by decide)) h.cl (Nat.le_of_ble_eq_true rfl) puI_ok rfl (fun r51 m51 _ => ?_)
    show Go X (Em X puI) 54 [some (.inr (.inr (0, 0))), some (.inl x1), some (.inr (.inr (70, 0))), some (.inl x3), some (.inl r29), o5, o6] [.inl r51] m51 _
    refine go_goto h.1 (off := 4) 58 (by decide +kernel) (by decide) ?_
    exact g_L_change_j58 h r51 x1 x3 r29 m51 (o5) (o6)

def f_L_change (L : Nat) (xsc : Nat → Int32) (x1 : Int32) (m : Mem) : Option (Int32 × Mem) :=
  if inB (1 : Int32) 28 = true then
    bnd (f_L_some L xsc x1 (m 70 0 (ix (1 : Int32))) m) (fun r4 m4 =>
      bnd (f_L_some L xsc (x1 >>> ((12 : Int32) &&& 31)) (3 : Int32) m4) (fun r16 m16 =>
        if r16 = 0 then
          f_L_change_j29 L xsc (100 : Int32) (x1 >>> ((2 : Int32) &&& 31)) x1 r4 m16
        else
          f_L_change_j29 L xsc (16 : Int32) (x1 >>> ((2 : Int32) &&& 31)) x1 r4 m16))
  else none
theorem g_L_change {X : XT} (h : MX X method_5_code P_L 2 (some .boolean)) (x1 : Int32) (m : Mem) : Go X (Em X puI) 0 [some (.inr (.inr (0, 0))), some (.inl x1), some (.inr (.inr (70, 0))), none, none, none, none] [] m (f_L_change (xL X) (xx X) x1 m) := by
  unfold f_L_change
  refine go_blk h.1 (is := [.iload_n 1, .aload_n 2, .iconst 1]) (pc' := 3) (ls' := [some (.inr (.inr (0, 0))), some (.inl x1), some (.inr (.inr (70, 0))), none, none, none, none]) (st' := [.inl (1 : Int32), .inr (.inr (70, 0)), .inl x1]) (m' := m) (by decide +kernel) rfl ?_
  refine go_iald h.1 (by decide +kernel) rfl rfl (fun b3 => ?_)
  show Go X (Em X puI) 4 [some (.inr (.inr (0, 0))), some (.inl x1), some (.inr (.inr (70, 0))), none, none, none, none] [.inl (m 70 0 (ix (1 : Int32))), .inl x1] m _
  refine go_callS h.1 (index := 15) (n := 2) (as := [.inl x1, .inl (m 70 0 (ix (1 : Int32)))]) (rest := []) (ctr_L_some (xZ X) x1 (m 70 0 (ix (1 : Int32))) m) (by decide +kernel) wd_s_L_15 rfl (h.room (by first | decide | omega) (by decide)) h.cl (Nat.le_of_ble_eq_true rfl) puI_ok rfl (fun r4 m4 _ => ?_)
  show Go X (Em X puI) 7 [some (.inr (.inr (0, 0))), some (.inl x1), some (.inr (.inr (70, 0))), none, none, none, none] [.inl r4] m4 _
  refine go_blk h.1 (is := [.istore_n 3, .iload_n 1, .iconst 2, .ishr, .iload_n 1, .bipush 12, .ishr, .iconst 3]) (pc' := 16) (ls' := [some (.inr (.inr (0, 0))), some (.inl x1), some (.inr (.inr (70, 0))), some (.inl r4), none, none, none]) (st' := [.inl (3 : Int32), .inl (x1 >>> ((12 : Int32) &&& 31)), .inl (x1 >>> ((2 : Int32) &&& 31))]) (m' := m4) (by decide +kernel) rfl ?_
  refine go_callS h.1 (index := 15) (n := 2) (as := [.inl (x1 >>> ((12 : Int32) &&& 31)), .inl (3 : Int32)]) (rest := [.inl (x1 >>> ((2 : Int32) &&& 31))]) (ctr_L_some (xZ X) (x1 >>> ((12 : Int32) &&& 31)) (3 : Int32) m4) (by decide +kernel) wd_s_L_15 rfl (h.room (by first | decide | omega) (by decide)) h.cl (Nat.le_of_ble_eq_true rfl) puI_ok rfl (fun r16 m16 _ => ?_)
  show Go X (Em X puI) 19 [some (.inr (.inr (0, 0))), some (.inl x1), some (.inr (.inr (70, 0))), some (.inl r4), none, none, none] [.inl r16, .inl (x1 >>> ((2 : Int32) &&& 31))] m16 _
  refine go_ifne h.1 (off := 8) 27 (by decide +kernel) (by decide) (fun c19 => ?_) (fun c19 => ?_)
  · refine go_blk h.1 (is := [.bipush 16]) (pc' := 29) (ls' := [some (.inr (.inr (0, 0))), some (.inl x1), some (.inr (.inr (70, 0))), some (.inl r4), none, none, none]) (st' := [.inl (16 : Int32), .inl (x1 >>> ((2 : Int32) &&& 31))]) (m' := m16) (by decide +kernel) rfl ?_
    exact g_L_change_j29 h (16 : Int32) (x1 >>> ((2 : Int32) &&& 31)) x1 r4 m16 (none) (none) (none)
  · refine go_blk h.1 (is := [.bipush 100]) (pc' := 24) (ls' := [some (.inr (.inr (0, 0))), some (.inl x1), some (.inr (.inr (70, 0))), some (.inl r4), none, none, none]) (st' := [.inl (100 : Int32), .inl (x1 >>> ((2 : Int32) &&& 31))]) (m' := m16) (by decide +kernel) rfl ?_
    refine go_goto h.1 (off := 5) 29 (by decide +kernel) (by decide) ?_
    exact g_L_change_j29 h (100 : Int32) (x1 >>> ((2 : Int32) &&& 31)) x1 r4 m16 (none) (none) (none)
theorem ctr_L_change (Z : ZT) (x1 : Int32) (m : Mem) : Ctr Z yL_change method_5_code 7 (some .boolean) 2 puI [.inr (.inr (0, 0)), .inl x1, .inr (.inr (70, 0))] m (f_L_change (zL Z) (zx Z) x1 m) :=
  ctr_of (P := P_L) (by decide +kernel) rfl pt_L rfl rfl (fun X hC hZ hR h0 h1 hr => by subst hZ; exact g_L_change ⟨hC, hR, h0, h1, hr⟩ x1 m)

