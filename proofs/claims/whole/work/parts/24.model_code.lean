/-! ===== printed by wip/whole/tr.py out of the listing ===== -/
def f_X7_layNets_b19 (x1 : Int32) (next : Int32 × Mem → Option (Unit × Mem)) (exit : Mem → Option (Unit × Mem)) (s : Int32 × Mem) : Option (Unit × Mem) :=
  if (s.2 30 0 7) ≤ s.1 then
    exit (s.2)
  else
    if inB x1 5 = true then
      if inB (((5 : Int32) * x1) + s.1) 25 = true then
        if inB (((5 : Int32) * s.1) + x1) 25 = true then
          if inB x1 5 = true then
            next ((s.1 + (1 : Int32)), (mset s.2 45 0 (ix x1) ((s.2 45 0 (ix x1)) + ((s.2 41 0 (ix (((5 : Int32) * x1) + s.1))) - (s.2 41 0 (ix (((5 : Int32) * s.1) + x1)))))))
          else none
        else none
      else none
    else none
theorem g_X7_layNets_b19 {X : XT} (h : MX X prog_9_method_41_code P_X7 0 none) (x1 : Int32) (next : Int32 × Mem → Option (Unit × Mem)) (exit : Mem → Option (Unit × Mem)) (hn : ∀ (y2 : Int32) (n : Mem), Go X (Em X puV) 19 [some (.inr (.inr (30, 0))), some (.inl x1), some (.inl y2)] [] n (next (y2, n))) (hx : ∀ (n : Mem) (o2 : Option AV), Go X (Em X puV) 63 [some (.inr (.inr (30, 0))), some (.inl x1), o2] [] n (exit (n))) (s : Int32 × Mem) : Go X (Em X puV) 19 [some (.inr (.inr (30, 0))), some (.inl x1), some (.inl s.1)] [] s.2 (f_X7_layNets_b19 x1 next exit s) := by
  unfold f_X7_layNets_b19
  refine go_blk h.1 (is := [.iload_n 2, .aload_n 0, .getfield 74]) (pc' := 24) (ls' := [some (.inr (.inr (30, 0))), some (.inl x1), some (.inl s.1)]) (st' := [.inl (s.2 30 0 7), .inl s.1]) (m' := s.2) (by decide +kernel) rfl ?_
  refine go_icmpge h.1 (off := 39) 63 (by decide +kernel) (by decide) (fun c24 => ?_) (fun c24 => ?_)
  · exact hx s.2 (some (.inl s.1))
  · refine go_blk h.1 (is := [.aload_n 0, .getfield 52, .iload_n 1, .dup2]) (pc' := 33) (ls' := [some (.inr (.inr (30, 0))), some (.inl x1), some (.inl s.1)]) (st' := [.inl x1, .inr (.inr (45, 0)), .inl x1, .inr (.inr (45, 0))]) (m' := s.2) (by decide +kernel) rfl ?_
    refine go_iald h.1 (by decide +kernel) rfl rfl (fun b33 => ?_)
    show Go X (Em X puV) 34 [some (.inr (.inr (30, 0))), some (.inl x1), some (.inl s.1)] [.inl (s.2 45 0 (ix x1)), .inl x1, .inr (.inr (45, 0))] s.2 _
    refine go_blk h.1 (is := [.aload_n 0, .getfield 40, .iconst 5, .iload_n 1, .imul, .iload_n 2, .iadd]) (pc' := 43) (ls' := [some (.inr (.inr (30, 0))), some (.inl x1), some (.inl s.1)]) (st' := [.inl (((5 : Int32) * x1) + s.1), .inr (.inr (41, 0)), .inl (s.2 45 0 (ix x1)), .inl x1, .inr (.inr (45, 0))]) (m' := s.2) (by decide +kernel) rfl ?_
    refine go_iald h.1 (by decide +kernel) rfl rfl (fun b43 => ?_)
    show Go X (Em X puV) 44 [some (.inr (.inr (30, 0))), some (.inl x1), some (.inl s.1)] [.inl (s.2 41 0 (ix (((5 : Int32) * x1) + s.1))), .inl (s.2 45 0 (ix x1)), .inl x1, .inr (.inr (45, 0))] s.2 _
    refine go_blk h.1 (is := [.aload_n 0, .getfield 40, .iconst 5, .iload_n 2, .imul, .iload_n 1, .iadd]) (pc' := 53) (ls' := [some (.inr (.inr (30, 0))), some (.inl x1), some (.inl s.1)]) (st' := [.inl (((5 : Int32) * s.1) + x1), .inr (.inr (41, 0)), .inl (s.2 41 0 (ix (((5 : Int32) * x1) + s.1))), .inl (s.2 45 0 (ix x1)), .inl x1, .inr (.inr (45, 0))]) (m' := s.2) (by decide +kernel) rfl ?_
    refine go_iald h.1 (by decide +kernel) rfl rfl (fun b53 => ?_)
    show Go X (Em X puV) 54 [some (.inr (.inr (30, 0))), some (.inl x1), some (.inl s.1)] [.inl (s.2 41 0 (ix (((5 : Int32) * s.1) + x1))), .inl (s.2 41 0 (ix (((5 : Int32) * x1) + s.1))), .inl (s.2 45 0 (ix x1)), .inl x1, .inr (.inr (45, 0))] s.2 _
    refine go_blk h.1 (is := [.isub, .iadd]) (pc' := 56) (ls' := [some (.inr (.inr (30, 0))), some (.inl x1), some (.inl s.1)]) (st' := [.inl ((s.2 45 0 (ix x1)) + ((s.2 41 0 (ix (((5 : Int32) * x1) + s.1))) - (s.2 41 0 (ix (((5 : Int32) * s.1) + x1))))), .inl x1, .inr (.inr (45, 0))]) (m' := s.2) (by decide +kernel) rfl ?_
    refine go_iast h.1 (by decide +kernel) rfl rfl (fun b56 => ?_)
    refine go_blk h.1 (is := [.iinc 2 1]) (pc' := 60) (ls' := [some (.inr (.inr (30, 0))), some (.inl x1), some (.inl (s.1 + (1 : Int32)))]) (st' := []) (m' := (mset s.2 45 0 (ix x1) ((s.2 45 0 (ix x1)) + ((s.2 41 0 (ix (((5 : Int32) * x1) + s.1))) - (s.2 41 0 (ix (((5 : Int32) * s.1) + x1))))))) (by decide +kernel) rfl ?_
    refine go_goto h.1 (off := -41) 19 (by decide +kernel) (by decide) ?_
    exact hn (s.1 + (1 : Int32)) (mset s.2 45 0 (ix x1) ((s.2 45 0 (ix x1)) + ((s.2 41 0 (ix (((5 : Int32) * x1) + s.1))) - (s.2 41 0 (ix (((5 : Int32) * s.1) + x1))))))

def f_X7_layNets_b2 (next : Int32 × Mem → Option (Unit × Mem)) (exit : Mem → Option (Unit × Mem)) (s : Int32 × Mem) : Option (Unit × Mem) :=
  if (s.2 30 0 7) ≤ s.1 then
    exit (s.2)
  else
    if inB s.1 5 = true then
      lpk (f_X7_layNets_b19 s.1) fuelN ((0 : Int32), (mset s.2 45 0 (ix s.1) (0 : Int32))) (fun t19 =>
        next ((s.1 + (1 : Int32)), t19))
    else none
theorem g_X7_layNets_b2 {X : XT} (h : MX X prog_9_method_41_code P_X7 0 none) (next : Int32 × Mem → Option (Unit × Mem)) (exit : Mem → Option (Unit × Mem)) (hn : ∀ (y1 : Int32) (n : Mem) (o2 : Option AV), Go X (Em X puV) 2 [some (.inr (.inr (30, 0))), some (.inl y1), o2] [] n (next (y1, n))) (hx : ∀ (n : Mem) (o0 : Option AV) (o1 : Option AV) (o2 : Option AV), Go X (Em X puV) 69 [o0, o1, o2] [] n (exit (n))) (s : Int32 × Mem) (o2 : Option AV) : Go X (Em X puV) 2 [some (.inr (.inr (30, 0))), some (.inl s.1), o2] [] s.2 (f_X7_layNets_b2 next exit s) := by
  unfold f_X7_layNets_b2
  refine go_blk h.1 (is := [.iload_n 1, .aload_n 0, .getfield 74]) (pc' := 7) (ls' := [some (.inr (.inr (30, 0))), some (.inl s.1), o2]) (st' := [.inl (s.2 30 0 7), .inl s.1]) (m' := s.2) (by decide +kernel) rfl ?_
  refine go_icmpge h.1 (off := 62) 69 (by decide +kernel) (by decide) (fun c7 => ?_) (fun c7 => ?_)
  · exact hx s.2 (some (.inr (.inr (30, 0)))) (some (.inl s.1)) (o2)
  · refine go_blk h.1 (is := [.aload_n 0, .getfield 52, .iload_n 1, .iconst 0]) (pc' := 16) (ls' := [some (.inr (.inr (30, 0))), some (.inl s.1), o2]) (st' := [.inl (0 : Int32), .inl s.1, .inr (.inr (45, 0))]) (m' := s.2) (by decide +kernel) rfl ?_
    refine go_iast h.1 (by decide +kernel) rfl rfl (fun b16 => ?_)
    refine go_blk h.1 (is := [.iconst 0, .istore_n 2]) (pc' := 19) (ls' := [some (.inr (.inr (30, 0))), some (.inl s.1), some (.inl (0 : Int32))]) (st' := []) (m' := (mset s.2 45 0 (ix s.1) (0 : Int32))) (by decide +kernel) rfl ?_
    refine go_lp1 (hd := fun (y2 : Int32) (n : Mem) o => Go X (Em X puV) 19 [some (.inr (.inr (30, 0))), some (.inl s.1), some (.inl y2)] [] n o) (fun _ _ => go_none) (fun y2 n nx_ hn_ => g_X7_layNets_b19 h s.1 nx_ _ hn_ (fun z_19 o2_19 => ?_) (y2, n)) fuelN (0 : Int32) (mset s.2 45 0 (ix s.1) (0 : Int32))
    refine go_blk h.1 (is := [.iinc 1 1]) (pc' := 66) (ls' := [some (.inr (.inr (30, 0))), some (.inl (s.1 + (1 : Int32))), o2_19]) (st' := []) (m' := z_19) (by decide +kernel) rfl ?_
    refine go_goto h.1 (off := -64) 2 (by decide +kernel) (by decide) ?_
    exact hn (s.1 + (1 : Int32)) z_19 (o2_19)

def f_X7_layNets (m : Mem) : Option (Unit × Mem) :=
  lpk (f_X7_layNets_b2) fuelN ((0 : Int32), m) (fun t2 =>
    some ((), t2))
theorem g_X7_layNets {X : XT} (h : MX X prog_9_method_41_code P_X7 0 none) (m : Mem) : Go X (Em X puV) 0 [some (.inr (.inr (30, 0))), none, none] [] m (f_X7_layNets m) := by
  unfold f_X7_layNets
  refine go_blk h.1 (is := [.iconst 0, .istore_n 1]) (pc' := 2) (ls' := [some (.inr (.inr (30, 0))), some (.inl (0 : Int32)), none]) (st' := []) (m' := m) (by decide +kernel) rfl ?_
  refine go_lp1 (hd := fun (y1 : Int32) (n : Mem) o => ∀ (o2 : Option AV), Go X (Em X puV) 2 [some (.inr (.inr (30, 0))), some (.inl y1), o2] [] n o) (fun _ _ _ => go_none) (fun y1 n nx_ hn_ => g_X7_layNets_b2 h nx_ _ hn_ (fun z_2 o0_2 o1_2 o2_2 => ?_) (y1, n)) fuelN (0 : Int32) m (none)
  exact go_vret h.1 h.2.2.2.2 (by decide +kernel)
theorem ctr_X7_layNets (l : Launch) (A : AR → Nat) (dC : Nat → ClassId) (dI : Nat → Nat → Nat) (cs : Nat → ClassId) (m : Mem) : Ctr l A dC dI cs yX7_layNets prog_9_method_41_code 3 none 0 puV [.inr (.inr (30, 0))] m (f_X7_layNets m) :=
  ctr_of (P := P_X7) (by decide +kernel) rfl pt_X7 rfl rfl (fun X hC _ _ _ _ _ hR h0 h1 hr => g_X7_layNets ⟨hC, hR, h0, h1, hr⟩ m)

def f_X7_isEven_j32 (next : Int32 × Int32 × Mem → Option (Int32 × Mem)) (exit : Int32 × Mem → Option (Int32 × Mem)) (s0 : Int32) (s1 : Int32) (x1 : Int32) (x3 : Int32) (m : Mem) : Option (Int32 × Mem) :=
  next ((s1 + s0), (x3 + (1 : Int32)), m)
theorem g_X7_isEven_j32 {X : XT} (h : MX X prog_9_method_42_code P_X7 0 (some .boolean)) (next : Int32 × Int32 × Mem → Option (Int32 × Mem)) (exit : Int32 × Mem → Option (Int32 × Mem)) (s0 : Int32) (s1 : Int32) (x1 : Int32) (x3 : Int32) (m : Mem) (o2 : Option AV) (hn : ∀ (y2 : Int32) (y3 : Int32) (n : Mem), Go X (Em X puI) 4 [some (.inr (.inr (30, 0))), some (.inl x1), some (.inl y2), some (.inl y3)] [] n (next (y2, y3, n))) (hx : ∀ (y2 : Int32) (n : Mem) (o0 : Option AV) (o1 : Option AV) (o3 : Option AV), Go X (Em X puI) 40 [o0, o1, some (.inl y2), o3] [] n (exit (y2, n))) : Go X (Em X puI) 32 [some (.inr (.inr (30, 0))), some (.inl x1), o2, some (.inl x3)] [.inl s0, .inl s1] m (f_X7_isEven_j32 next exit s0 s1 x1 x3 m) := by
  unfold f_X7_isEven_j32
  refine go_blk h.1 (is := [.iadd, .istore_n 2, .iinc 3 1]) (pc' := 37) (ls' := [some (.inr (.inr (30, 0))), some (.inl x1), some (.inl (s1 + s0)), some (.inl (x3 + (1 : Int32)))]) (st' := []) (m' := m) (by decide +kernel) rfl ?_
  refine go_goto h.1 (off := -33) 4 (by decide +kernel) (by decide) ?_
  exact hn (s1 + s0) (x3 + (1 : Int32)) m

def f_X7_isEven_b4 (x1 : Int32) (next : Int32 × Int32 × Mem → Option (Int32 × Mem)) (exit : Int32 × Mem → Option (Int32 × Mem)) (s : Int32 × Int32 × Mem) : Option (Int32 × Mem) :=
  if (s.2.2 30 0 7) ≤ s.2.1 then
    exit (s.1, s.2.2)
  else
    if ((x1 >>> (s.2.1 &&& 31)) &&& (1 : Int32)) = (1 : Int32) then
      if inB s.2.1 5 = true then
        f_X7_isEven_j32 next exit (s.2.2 45 0 (ix s.2.1)) s.1 x1 s.2.1 s.2.2
      else none
    else
      f_X7_isEven_j32 next exit (0 : Int32) s.1 x1 s.2.1 s.2.2
theorem g_X7_isEven_b4 {X : XT} (h : MX X prog_9_method_42_code P_X7 0 (some .boolean)) (x1 : Int32) (next : Int32 × Int32 × Mem → Option (Int32 × Mem)) (exit : Int32 × Mem → Option (Int32 × Mem)) (hn : ∀ (y2 : Int32) (y3 : Int32) (n : Mem), Go X (Em X puI) 4 [some (.inr (.inr (30, 0))), some (.inl x1), some (.inl y2), some (.inl y3)] [] n (next (y2, y3, n))) (hx : ∀ (y2 : Int32) (n : Mem) (o0 : Option AV) (o1 : Option AV) (o3 : Option AV), Go X (Em X puI) 40 [o0, o1, some (.inl y2), o3] [] n (exit (y2, n))) (s : Int32 × Int32 × Mem) : Go X (Em X puI) 4 [some (.inr (.inr (30, 0))), some (.inl x1), some (.inl s.1), some (.inl s.2.1)] [] s.2.2 (f_X7_isEven_b4 x1 next exit s) := by
  unfold f_X7_isEven_b4
  refine go_blk h.1 (is := [.iload_n 3, .aload_n 0, .getfield 74]) (pc' := 9) (ls' := [some (.inr (.inr (30, 0))), some (.inl x1), some (.inl s.1), some (.inl s.2.1)]) (st' := [.inl (s.2.2 30 0 7), .inl s.2.1]) (m' := s.2.2) (by decide +kernel) rfl ?_
  refine go_icmpge h.1 (off := 31) 40 (by decide +kernel) (by decide) (fun c9 => ?_) (fun c9 => ?_)
  · exact hx s.1 s.2.2 (some (.inr (.inr (30, 0)))) (some (.inl x1)) (some (.inl s.2.1))
  · refine go_blk h.1 (is := [.iload_n 2, .iload_n 1, .iload_n 3, .ishr, .iconst 1, .iand, .iconst 1]) (pc' := 19) (ls' := [some (.inr (.inr (30, 0))), some (.inl x1), some (.inl s.1), some (.inl s.2.1)]) (st' := [.inl (1 : Int32), .inl ((x1 >>> (s.2.1 &&& 31)) &&& (1 : Int32)), .inl s.1]) (m' := s.2.2) (by decide +kernel) rfl ?_
    refine go_icmpne h.1 (off := 12) 31 (by decide +kernel) (by decide) (fun c19 => ?_) (fun c19 => ?_)
    · refine go_blk h.1 (is := [.iconst 0]) (pc' := 32) (ls' := [some (.inr (.inr (30, 0))), some (.inl x1), some (.inl s.1), some (.inl s.2.1)]) (st' := [.inl (0 : Int32), .inl s.1]) (m' := s.2.2) (by decide +kernel) rfl ?_
      exact g_X7_isEven_j32 h next exit (0 : Int32) s.1 x1 s.2.1 s.2.2 (some (.inl s.1)) hn hx
    · refine go_blk h.1 (is := [.aload_n 0, .getfield 52, .iload_n 3]) (pc' := 27) (ls' := [some (.inr (.inr (30, 0))), some (.inl x1), some (.inl s.1), some (.inl s.2.1)]) (st' := [.inl s.2.1, .inr (.inr (45, 0)), .inl s.1]) (m' := s.2.2) (by decide +kernel) rfl ?_
      refine go_iald h.1 (by decide +kernel) rfl rfl (fun b27 => ?_)
      show Go X (Em X puI) 28 [some (.inr (.inr (30, 0))), some (.inl x1), some (.inl s.1), some (.inl s.2.1)] [.inl (s.2.2 45 0 (ix s.2.1)), .inl s.1] s.2.2 _
      refine go_goto h.1 (off := 4) 32 (by decide +kernel) (by decide) ?_
      exact g_X7_isEven_j32 h next exit (s.2.2 45 0 (ix s.2.1)) s.1 x1 s.2.1 s.2.2 (some (.inl s.1)) hn hx

def f_X7_isEven (x1 : Int32) (m : Mem) : Option (Int32 × Mem) :=
  lpk (f_X7_isEven_b4 x1) fuelN ((0 : Int32), (0 : Int32), m) (fun t4 =>
    if t4.1 = 0 then
      some ((1 : Int32), t4.2)
    else
      some ((0 : Int32), t4.2))
theorem g_X7_isEven {X : XT} (h : MX X prog_9_method_42_code P_X7 0 (some .boolean)) (x1 : Int32) (m : Mem) : Go X (Em X puI) 0 [some (.inr (.inr (30, 0))), some (.inl x1), none, none] [] m (f_X7_isEven x1 m) := by
  unfold f_X7_isEven
  refine go_blk h.1 (is := [.iconst 0, .istore_n 2, .iconst 0, .istore_n 3]) (pc' := 4) (ls' := [some (.inr (.inr (30, 0))), some (.inl x1), some (.inl (0 : Int32)), some (.inl (0 : Int32))]) (st' := []) (m' := m) (by decide +kernel) rfl ?_
  refine go_lp2 (hd := fun (y2 : Int32) (y3 : Int32) (n : Mem) o => Go X (Em X puI) 4 [some (.inr (.inr (30, 0))), some (.inl x1), some (.inl y2), some (.inl y3)] [] n o) (fun _ _ _ => go_none) (fun y2 y3 n nx_ hn_ => g_X7_isEven_b4 h x1 nx_ _ hn_ (fun z2_4 z_4 o0_4 o1_4 o3_4 => ?_) (y2, y3, n)) fuelN (0 : Int32) (0 : Int32) m
  refine go_blk h.1 (is := [.iload_n 2]) (pc' := 41) (ls' := [o0_4, o1_4, some (.inl z2_4), o3_4]) (st' := [.inl z2_4]) (m' := z_4) (by decide +kernel) rfl ?_
  refine go_ifne h.1 (off := 7) 48 (by decide +kernel) (by decide) (fun c41 => ?_) (fun c41 => ?_)
  · refine go_blk h.1 (is := [.iconst 0]) (pc' := 49) (ls' := [o0_4, o1_4, some (.inl z2_4), o3_4]) (st' := [.inl (0 : Int32)]) (m' := z_4) (by decide +kernel) rfl ?_
    exact go_zret h.1 h.2.2.2.2 (Or.inl rfl) (by decide +kernel)
  · refine go_blk h.1 (is := [.iconst 1]) (pc' := 45) (ls' := [o0_4, o1_4, some (.inl z2_4), o3_4]) (st' := [.inl (1 : Int32)]) (m' := z_4) (by decide +kernel) rfl ?_
    refine go_goto h.1 (off := 4) 49 (by decide +kernel) (by decide) ?_
    exact go_zret h.1 h.2.2.2.2 (Or.inr rfl) (by decide +kernel)
theorem ctr_X7_isEven (l : Launch) (A : AR → Nat) (dC : Nat → ClassId) (dI : Nat → Nat → Nat) (cs : Nat → ClassId) (x1 : Int32) (m : Mem) : Ctr l A dC dI cs yX7_isEven prog_9_method_42_code 4 (some .boolean) 0 puI [.inr (.inr (30, 0)), .inl x1] m (f_X7_isEven x1 m) :=
  ctr_of (P := P_X7) (by decide +kernel) rfl pt_X7 rfl rfl (fun X hC _ _ _ _ _ hR h0 h1 hr => g_X7_isEven ⟨hC, hR, h0, h1, hr⟩ x1 m)

def f_X7_mostParts_j89 (next : Int32 × Mem → Option (Int32 × Mem)) (exit : Mem → Option (Int32 × Mem)) (s0 : Int32) (s1 : Int32) (x1 : Int32) (x2 : Int32) (x3 : Int32) (m : Mem) : Option (Int32 × Mem) :=
  if inB s1 32 = true then
    next (((x3 - (1 : Int32)) &&& x2), (mset m 46 0 (ix s1) s0))
  else none
theorem g_X7_mostParts_j89 {X : XT} (h : MX X prog_9_method_43_code P_X7 1 (some .int)) (next : Int32 × Mem → Option (Int32 × Mem)) (exit : Mem → Option (Int32 × Mem)) (s0 : Int32) (s1 : Int32) (x1 : Int32) (x2 : Int32) (x3 : Int32) (m : Mem) (o4 : Option AV) (hn : ∀ (y3 : Int32) (n : Mem) (o4 : Option AV), Go X (Em X puI) 32 [some (.inr (.inr (30, 0))), some (.inl x1), some (.inl x2), some (.inl y3), o4] [] n (next (y3, n))) (hx : ∀ (n : Mem) (o3 : Option AV) (o4 : Option AV), Go X (Em X puI) 99 [some (.inr (.inr (30, 0))), some (.inl x1), some (.inl x2), o3, o4] [] n (exit (n))) : Go X (Em X puI) 89 [some (.inr (.inr (30, 0))), some (.inl x1), some (.inl x2), some (.inl x3), o4] [.inl s0, .inl s1, .inr (.inr (46, 0))] m (f_X7_mostParts_j89 next exit s0 s1 x1 x2 x3 m) := by
  unfold f_X7_mostParts_j89
  refine go_iast h.1 (by decide +kernel) rfl rfl (fun b89 => ?_)
  refine go_blk h.1 (is := [.iload_n 3, .iconst 1, .isub, .iload_n 2, .iand, .istore_n 3]) (pc' := 96) (ls' := [some (.inr (.inr (30, 0))), some (.inl x1), some (.inl x2), some (.inl ((x3 - (1 : Int32)) &&& x2)), o4]) (st' := []) (m' := (mset m 46 0 (ix s1) s0)) (by decide +kernel) rfl ?_
  refine go_goto h.1 (off := -64) 32 (by decide +kernel) (by decide) ?_
  exact hn ((x3 - (1 : Int32)) &&& x2) (mset m 46 0 (ix s1) s0) (o4)

def f_X7_mostParts_j60 (next : Int32 × Mem → Option (Int32 × Mem)) (exit : Mem → Option (Int32 × Mem)) (s0 : Int32) (x1 : Int32) (x2 : Int32) (x3 : Int32) (m : Mem) : Option (Int32 × Mem) :=
  if inB x2 32 = true then
    if s0 ≤ (m 46 0 (ix x2)) then
      if inB x2 32 = true then
        f_X7_mostParts_j89 next exit (m 46 0 (ix x2)) x2 x1 x2 x3 m
      else none
    else
      f_X7_mostParts_j89 next exit s0 x2 x1 x2 x3 m
  else none
theorem g_X7_mostParts_j60 {X : XT} (h : MX X prog_9_method_43_code P_X7 1 (some .int)) (next : Int32 × Mem → Option (Int32 × Mem)) (exit : Mem → Option (Int32 × Mem)) (s0 : Int32) (x1 : Int32) (x2 : Int32) (x3 : Int32) (m : Mem) (o4 : Option AV) (hn : ∀ (y3 : Int32) (n : Mem) (o4 : Option AV), Go X (Em X puI) 32 [some (.inr (.inr (30, 0))), some (.inl x1), some (.inl x2), some (.inl y3), o4] [] n (next (y3, n))) (hx : ∀ (n : Mem) (o3 : Option AV) (o4 : Option AV), Go X (Em X puI) 99 [some (.inr (.inr (30, 0))), some (.inl x1), some (.inl x2), o3, o4] [] n (exit (n))) : Go X (Em X puI) 60 [some (.inr (.inr (30, 0))), some (.inl x1), some (.inl x2), some (.inl x3), o4] [.inl s0] m (f_X7_mostParts_j60 next exit s0 x1 x2 x3 m) := by
  unfold f_X7_mostParts_j60
  refine go_blk h.1 (is := [.istore 4, .aload_n 0, .getfield 55, .iload_n 2, .iload 4, .aload_n 0, .getfield 55, .iload_n 2]) (pc' := 74) (ls' := [some (.inr (.inr (30, 0))), some (.inl x1), some (.inl x2), some (.inl x3), some (.inl s0)]) (st' := [.inl x2, .inr (.inr (46, 0)), .inl s0, .inl x2, .inr (.inr (46, 0))]) (m' := m) (by decide +kernel) rfl ?_
  refine go_iald h.1 (by decide +kernel) rfl rfl (fun b74 => ?_)
  show Go X (Em X puI) 75 [some (.inr (.inr (30, 0))), some (.inl x1), some (.inl x2), some (.inl x3), some (.inl s0)] [.inl (m 46 0 (ix x2)), .inl s0, .inl x2, .inr (.inr (46, 0))] m _
  refine go_icmple h.1 (off := 8) 83 (by decide +kernel) (by decide) (fun c75 => ?_) (fun c75 => ?_)
  · refine go_blk h.1 (is := [.aload_n 0, .getfield 55, .iload_n 2]) (pc' := 88) (ls' := [some (.inr (.inr (30, 0))), some (.inl x1), some (.inl x2), some (.inl x3), some (.inl s0)]) (st' := [.inl x2, .inr (.inr (46, 0)), .inl x2, .inr (.inr (46, 0))]) (m' := m) (by decide +kernel) rfl ?_
    refine go_iald h.1 (by decide +kernel) rfl rfl (fun b88 => ?_)
    show Go X (Em X puI) 89 [some (.inr (.inr (30, 0))), some (.inl x1), some (.inl x2), some (.inl x3), some (.inl s0)] [.inl (m 46 0 (ix x2)), .inl x2, .inr (.inr (46, 0))] m _
    exact g_X7_mostParts_j89 h next exit (m 46 0 (ix x2)) x2 x1 x2 x3 m (some (.inl s0)) hn hx
  · refine go_blk h.1 (is := [.iload 4]) (pc' := 80) (ls' := [some (.inr (.inr (30, 0))), some (.inl x1), some (.inl x2), some (.inl x3), some (.inl s0)]) (st' := [.inl s0, .inl x2, .inr (.inr (46, 0))]) (m' := m) (by decide +kernel) rfl ?_
    refine go_goto h.1 (off := 9) 89 (by decide +kernel) (by decide) ?_
    exact g_X7_mostParts_j89 h next exit s0 x2 x1 x2 x3 m (some (.inl s0)) hn hx

def f_X7_mostParts_b32 (x1 : Int32) (x2 : Int32) (next : Int32 × Mem → Option (Int32 × Mem)) (exit : Mem → Option (Int32 × Mem)) (s : Int32 × Mem) : Option (Int32 × Mem) :=
  if s.1 ≤ 0 then
    exit (s.2)
  else
    bnd (f_X7_isEven s.1 s.2) (fun r38 m38 =>
      if r38 = 0 then
        f_X7_mostParts_j60 next exit (0 : Int32) x1 x2 s.1 m38
      else
        if inB (x2 &&& (s.1 ^^^ (-1 : Int32))) 32 = true then
          f_X7_mostParts_j60 next exit ((m38 46 0 (ix (x2 &&& (s.1 ^^^ (-1 : Int32))))) + (1 : Int32)) x1 x2 s.1 m38
        else none)
theorem g_X7_mostParts_b32 {X : XT} (h : MX X prog_9_method_43_code P_X7 1 (some .int)) (x1 : Int32) (x2 : Int32) (next : Int32 × Mem → Option (Int32 × Mem)) (exit : Mem → Option (Int32 × Mem)) (hn : ∀ (y3 : Int32) (n : Mem) (o4 : Option AV), Go X (Em X puI) 32 [some (.inr (.inr (30, 0))), some (.inl x1), some (.inl x2), some (.inl y3), o4] [] n (next (y3, n))) (hx : ∀ (n : Mem) (o3 : Option AV) (o4 : Option AV), Go X (Em X puI) 99 [some (.inr (.inr (30, 0))), some (.inl x1), some (.inl x2), o3, o4] [] n (exit (n))) (s : Int32 × Mem) (o4 : Option AV) : Go X (Em X puI) 32 [some (.inr (.inr (30, 0))), some (.inl x1), some (.inl x2), some (.inl s.1), o4] [] s.2 (f_X7_mostParts_b32 x1 x2 next exit s) := by
  unfold f_X7_mostParts_b32
  refine go_blk h.1 (is := [.iload_n 3]) (pc' := 33) (ls' := [some (.inr (.inr (30, 0))), some (.inl x1), some (.inl x2), some (.inl s.1), o4]) (st' := [.inl s.1]) (m' := s.2) (by decide +kernel) rfl ?_
  refine go_ifle h.1 (off := 66) 99 (by decide +kernel) (by decide) (fun c33 => ?_) (fun c33 => ?_)
  · exact hx s.2 (some (.inl s.1)) (o4)
  · refine go_blk h.1 (is := [.aload_n 0, .iload_n 3]) (pc' := 38) (ls' := [some (.inr (.inr (30, 0))), some (.inl x1), some (.inl x2), some (.inl s.1), o4]) (st' := [.inl s.1, .inr (.inr (30, 0))]) (m' := s.2) (by decide +kernel) rfl ?_
    refine go_callV h.1 (index := 211) (n := 1) (t := 30) (i := 0) (ci := 7) (nf := 35) (cz := (RX7, TX7, 35)) (as := [.inl s.1]) (rest := []) (ctr_X7_isEven (xl X) (xA X) (xC X) (xI X) (xk X) s.1 s.2) (by decide +kernel) rfl rfl wd_v_X7_211 rfl (h.room (by first | decide | omega) (by decide)) h.cl (Nat.le_of_ble_eq_true rfl) puI_ok rfl (fun r38 m38 _ => ?_)
    show Go X (Em X puI) 41 [some (.inr (.inr (30, 0))), some (.inl x1), some (.inl x2), some (.inl s.1), o4] [.inl r38] m38 _
    refine go_ifeq h.1 (off := 18) 59 (by decide +kernel) (by decide) (fun c41 => ?_) (fun c41 => ?_)
    · refine go_blk h.1 (is := [.iconst 0]) (pc' := 60) (ls' := [some (.inr (.inr (30, 0))), some (.inl x1), some (.inl x2), some (.inl s.1), o4]) (st' := [.inl (0 : Int32)]) (m' := m38) (by decide +kernel) rfl ?_
      exact g_X7_mostParts_j60 h next exit (0 : Int32) x1 x2 s.1 m38 (o4) hn hx
    · refine go_blk h.1 (is := [.aload_n 0, .getfield 55, .iload_n 2, .iload_n 3, .iconst (-1), .ixor, .iand]) (pc' := 53) (ls' := [some (.inr (.inr (30, 0))), some (.inl x1), some (.inl x2), some (.inl s.1), o4]) (st' := [.inl (x2 &&& (s.1 ^^^ (-1 : Int32))), .inr (.inr (46, 0))]) (m' := m38) (by decide +kernel) rfl ?_
      refine go_iald h.1 (by decide +kernel) rfl rfl (fun b53 => ?_)
      show Go X (Em X puI) 54 [some (.inr (.inr (30, 0))), some (.inl x1), some (.inl x2), some (.inl s.1), o4] [.inl (m38 46 0 (ix (x2 &&& (s.1 ^^^ (-1 : Int32)))))] m38 _
      refine go_blk h.1 (is := [.iconst 1, .iadd]) (pc' := 56) (ls' := [some (.inr (.inr (30, 0))), some (.inl x1), some (.inl x2), some (.inl s.1), o4]) (st' := [.inl ((m38 46 0 (ix (x2 &&& (s.1 ^^^ (-1 : Int32))))) + (1 : Int32))]) (m' := m38) (by decide +kernel) rfl ?_
      refine go_goto h.1 (off := 4) 60 (by decide +kernel) (by decide) ?_
      exact g_X7_mostParts_j60 h next exit ((m38 46 0 (ix (x2 &&& (s.1 ^^^ (-1 : Int32))))) + (1 : Int32)) x1 x2 s.1 m38 (o4) hn hx

def f_X7_mostParts_b18 (x1 : Int32) (next : Int32 × Mem → Option (Int32 × Mem)) (exit : Mem → Option (Int32 × Mem)) (s : Int32 × Mem) : Option (Int32 × Mem) :=
  if x1 < s.1 then
    exit (s.2)
  else
    if inB s.1 32 = true then
      lpk (f_X7_mostParts_b32 x1 s.1) fuelN (s.1, (mset s.2 46 0 (ix s.1) (0 : Int32))) (fun t32 =>
        next ((s.1 + (1 : Int32)), t32))
    else none
theorem g_X7_mostParts_b18 {X : XT} (h : MX X prog_9_method_43_code P_X7 1 (some .int)) (x1 : Int32) (next : Int32 × Mem → Option (Int32 × Mem)) (exit : Mem → Option (Int32 × Mem)) (hn : ∀ (y2 : Int32) (n : Mem) (o3 : Option AV) (o4 : Option AV), Go X (Em X puI) 18 [some (.inr (.inr (30, 0))), some (.inl x1), some (.inl y2), o3, o4] [] n (next (y2, n))) (hx : ∀ (n : Mem) (o2 : Option AV) (o3 : Option AV) (o4 : Option AV), Go X (Em X puI) 105 [some (.inr (.inr (30, 0))), some (.inl x1), o2, o3, o4] [] n (exit (n))) (s : Int32 × Mem) (o3 : Option AV) (o4 : Option AV) : Go X (Em X puI) 18 [some (.inr (.inr (30, 0))), some (.inl x1), some (.inl s.1), o3, o4] [] s.2 (f_X7_mostParts_b18 x1 next exit s) := by
  unfold f_X7_mostParts_b18
  refine go_blk h.1 (is := [.iload_n 2, .iload_n 1]) (pc' := 20) (ls' := [some (.inr (.inr (30, 0))), some (.inl x1), some (.inl s.1), o3, o4]) (st' := [.inl x1, .inl s.1]) (m' := s.2) (by decide +kernel) rfl ?_
  refine go_icmpgt h.1 (off := 85) 105 (by decide +kernel) (by decide) (fun c20 => ?_) (fun c20 => ?_)
  · exact hx s.2 (some (.inl s.1)) (o3) (o4)
  · refine go_blk h.1 (is := [.aload_n 0, .getfield 55, .iload_n 2, .iconst 0]) (pc' := 29) (ls' := [some (.inr (.inr (30, 0))), some (.inl x1), some (.inl s.1), o3, o4]) (st' := [.inl (0 : Int32), .inl s.1, .inr (.inr (46, 0))]) (m' := s.2) (by decide +kernel) rfl ?_
    refine go_iast h.1 (by decide +kernel) rfl rfl (fun b29 => ?_)
    refine go_blk h.1 (is := [.iload_n 2, .istore_n 3]) (pc' := 32) (ls' := [some (.inr (.inr (30, 0))), some (.inl x1), some (.inl s.1), some (.inl s.1), o4]) (st' := []) (m' := (mset s.2 46 0 (ix s.1) (0 : Int32))) (by decide +kernel) rfl ?_
    refine go_lp1 (hd := fun (y3 : Int32) (n : Mem) o => ∀ (o4 : Option AV), Go X (Em X puI) 32 [some (.inr (.inr (30, 0))), some (.inl x1), some (.inl s.1), some (.inl y3), o4] [] n o) (fun _ _ _ => go_none) (fun y3 n nx_ hn_ => g_X7_mostParts_b32 h x1 s.1 nx_ _ hn_ (fun z_32 o3_32 o4_32 => ?_) (y3, n)) fuelN s.1 (mset s.2 46 0 (ix s.1) (0 : Int32)) (o4)
    refine go_blk h.1 (is := [.iinc 2 1]) (pc' := 102) (ls' := [some (.inr (.inr (30, 0))), some (.inl x1), some (.inl (s.1 + (1 : Int32))), o3_32, o4_32]) (st' := []) (m' := z_32) (by decide +kernel) rfl ?_
    refine go_goto h.1 (off := -84) 18 (by decide +kernel) (by decide) ?_
    exact hn (s.1 + (1 : Int32)) z_32 (o3_32) (o4_32)

def f_X7_mostParts (m : Mem) : Option (Int32 × Mem) :=
  if inB (0 : Int32) 32 = true then
    lpk (f_X7_mostParts_b18 (((1 : Int32) <<< ((m 30 0 7) &&& 31)) - (1 : Int32))) fuelN ((1 : Int32), (mset m 46 0 (ix (0 : Int32)) (0 : Int32))) (fun t18 =>
      if inB (((1 : Int32) <<< ((m 30 0 7) &&& 31)) - (1 : Int32)) 32 = true then
        some ((t18 46 0 (ix (((1 : Int32) <<< ((m 30 0 7) &&& 31)) - (1 : Int32)))), t18)
      else none)
  else none
theorem g_X7_mostParts {X : XT} (h : MX X prog_9_method_43_code P_X7 1 (some .int)) (m : Mem) : Go X (Em X puI) 0 [some (.inr (.inr (30, 0))), none, none, none, none] [] m (f_X7_mostParts m) := by
  unfold f_X7_mostParts
  refine go_blk h.1 (is := [.iconst 1, .aload_n 0, .getfield 74, .ishl, .iconst 1, .isub, .istore_n 1, .aload_n 0, .getfield 55, .iconst 0, .iconst 0]) (pc' := 15) (ls' := [some (.inr (.inr (30, 0))), some (.inl (((1 : Int32) <<< ((m 30 0 7) &&& 31)) - (1 : Int32))), none, none, none]) (st' := [.inl (0 : Int32), .inl (0 : Int32), .inr (.inr (46, 0))]) (m' := m) (by decide +kernel) rfl ?_
  refine go_iast h.1 (by decide +kernel) rfl rfl (fun b15 => ?_)
  refine go_blk h.1 (is := [.iconst 1, .istore_n 2]) (pc' := 18) (ls' := [some (.inr (.inr (30, 0))), some (.inl (((1 : Int32) <<< ((m 30 0 7) &&& 31)) - (1 : Int32))), some (.inl (1 : Int32)), none, none]) (st' := []) (m' := (mset m 46 0 (ix (0 : Int32)) (0 : Int32))) (by decide +kernel) rfl ?_
  refine go_lp1 (hd := fun (y2 : Int32) (n : Mem) o => ∀ (o3 : Option AV) (o4 : Option AV), Go X (Em X puI) 18 [some (.inr (.inr (30, 0))), some (.inl (((1 : Int32) <<< ((m 30 0 7) &&& 31)) - (1 : Int32))), some (.inl y2), o3, o4] [] n o) (fun _ _ _ _ => go_none) (fun y2 n nx_ hn_ => g_X7_mostParts_b18 h (((1 : Int32) <<< ((m 30 0 7) &&& 31)) - (1 : Int32)) nx_ _ hn_ (fun z_18 o2_18 o3_18 o4_18 => ?_) (y2, n)) fuelN (1 : Int32) (mset m 46 0 (ix (0 : Int32)) (0 : Int32)) (none) (none)
  refine go_blk h.1 (is := [.aload_n 0, .getfield 55, .iload_n 1]) (pc' := 110) (ls' := [some (.inr (.inr (30, 0))), some (.inl (((1 : Int32) <<< ((m 30 0 7) &&& 31)) - (1 : Int32))), o2_18, o3_18, o4_18]) (st' := [.inl (((1 : Int32) <<< ((m 30 0 7) &&& 31)) - (1 : Int32)), .inr (.inr (46, 0))]) (m' := z_18) (by decide +kernel) rfl ?_
  refine go_iald h.1 (by decide +kernel) rfl rfl (fun b110 => ?_)
  show Go X (Em X puI) 111 [some (.inr (.inr (30, 0))), some (.inl (((1 : Int32) <<< ((m 30 0 7) &&& 31)) - (1 : Int32))), o2_18, o3_18, o4_18] [.inl (z_18 46 0 (ix (((1 : Int32) <<< ((m 30 0 7) &&& 31)) - (1 : Int32))))] z_18 _
  exact go_iret h.1 h.2.2.2.2 (by decide +kernel)
theorem ctr_X7_mostParts (l : Launch) (A : AR → Nat) (dC : Nat → ClassId) (dI : Nat → Nat → Nat) (cs : Nat → ClassId) (m : Mem) : Ctr l A dC dI cs yX7_mostParts prog_9_method_43_code 5 (some .int) 1 puI [.inr (.inr (30, 0))] m (f_X7_mostParts m) :=
  ctr_of (P := P_X7) (by decide +kernel) rfl pt_X7 rfl rfl (fun X hC _ _ _ _ _ hR h0 h1 hr => g_X7_mostParts ⟨hC, hR, h0, h1, hr⟩ m)

def f_X7_payments (x1 : Int32) (x2 : Int32) (x3 : Int32) (x4 : Int32) (m : Mem) : Option (Int32 × Mem) :=
  bnd (f_X7_isSheet x1 (mset m 30 0 0 (0 : Int32))) (fun r6 m6 =>
    if r6 = 0 then
      some ((-1 : Int32), m6)
    else
      bnd (f_X7_goRow x1 x2 x3 x4 m6) (fun r20 m20 =>
        if r20 = 0 then
          bnd (f_X7_layNets m20) (fun _ m34 =>
            bnd (f_X7_mostParts m34) (fun r42 m42 =>
              some (((m34 30 0 7) - r42), m42)))
        else
          some (r20, m20)))
theorem g_X7_payments {X : XT} (h : MX X prog_9_method_44_code P_X7 6 (some .int)) (x1 : Int32) (x2 : Int32) (x3 : Int32) (x4 : Int32) (m : Mem) : Go X (Em X puI) 0 [some (.inr (.inr (30, 0))), some (.inl x1), some (.inl x2), some (.inl x3), some (.inl x4), none] [] m (f_X7_payments x1 x2 x3 x4 m) := by
  unfold f_X7_payments
  refine go_blk h.1 (is := [.aload_n 0, .iconst 0, .putfield 64, .iload_n 1]) (pc' := 6) (ls' := [some (.inr (.inr (30, 0))), some (.inl x1), some (.inl x2), some (.inl x3), some (.inl x4), none]) (st' := [.inl x1]) (m' := (mset m 30 0 0 (0 : Int32))) (by decide +kernel) rfl ?_
  refine go_callS h.1 (index := 80) (n := 1) (as := [.inl x1]) (rest := []) (ctr_X7_isSheet (xl X) (xA X) (xC X) (xI X) (xk X) x1 (mset m 30 0 0 (0 : Int32))) (by decide +kernel) wd_s_X7_80 rfl (h.room (by first | decide | omega) (by decide)) h.cl (Nat.le_of_ble_eq_true rfl) puI_ok rfl (fun r6 m6 _ => ?_)
  show Go X (Em X puI) 9 [some (.inr (.inr (30, 0))), some (.inl x1), some (.inl x2), some (.inl x3), some (.inl x4), none] [.inl r6] m6 _
  refine go_ifne h.1 (off := 5) 14 (by decide +kernel) (by decide) (fun c9 => ?_) (fun c9 => ?_)
  · refine go_blk h.1 (is := [.aload_n 0, .iload_n 1, .iload_n 2, .iload_n 3, .iload 4]) (pc' := 20) (ls' := [some (.inr (.inr (30, 0))), some (.inl x1), some (.inl x2), some (.inl x3), some (.inl x4), none]) (st' := [.inl x4, .inl x3, .inl x2, .inl x1, .inr (.inr (30, 0))]) (m' := m6) (by decide +kernel) rfl ?_
    refine go_callV h.1 (index := 187) (n := 4) (t := 30) (i := 0) (ci := 7) (nf := 35) (cz := (RX7, TX7, 35)) (as := [.inl x1, .inl x2, .inl x3, .inl x4]) (rest := []) (ctr_X7_goRow (xl X) (xA X) (xC X) (xI X) (xk X) x1 x2 x3 x4 m6) (by decide +kernel) rfl rfl wd_v_X7_187 rfl (h.room (by first | decide | omega) (by decide)) h.cl (Nat.le_of_ble_eq_true rfl) puI_ok rfl (fun r20 m20 _ => ?_)
    show Go X (Em X puI) 23 [some (.inr (.inr (30, 0))), some (.inl x1), some (.inl x2), some (.inl x3), some (.inl x4), none] [.inl r20] m20 _
    refine go_blk h.1 (is := [.istore 5, .iload 5]) (pc' := 27) (ls' := [some (.inr (.inr (30, 0))), some (.inl x1), some (.inl x2), some (.inl x3), some (.inl x4), some (.inl r20)]) (st' := [.inl r20]) (m' := m20) (by decide +kernel) rfl ?_
    refine go_ifeq h.1 (off := 6) 33 (by decide +kernel) (by decide) (fun c27 => ?_) (fun c27 => ?_)
    · refine go_blk h.1 (is := [.aload_n 0]) (pc' := 34) (ls' := [some (.inr (.inr (30, 0))), some (.inl x1), some (.inl x2), some (.inl x3), some (.inl x4), some (.inl r20)]) (st' := [.inr (.inr (30, 0))]) (m' := m20) (by decide +kernel) rfl ?_
      refine go_callV h.1 (index := 214) (n := 0) (t := 30) (i := 0) (ci := 7) (nf := 35) (cz := (RX7, TX7, 35)) (as := []) (rest := []) (ctr_X7_layNets (xl X) (xA X) (xC X) (xI X) (xk X) m20) (by decide +kernel) rfl rfl wd_v_X7_214 rfl (h.room (by first | decide | omega) (by decide)) h.cl (Nat.le_of_ble_eq_true rfl) puV_ok rfl (fun r34 m34 _ => ?_)
      show Go X (Em X puI) 37 [some (.inr (.inr (30, 0))), some (.inl x1), some (.inl x2), some (.inl x3), some (.inl x4), some (.inl r20)] [] m34 _
      refine go_blk h.1 (is := [.aload_n 0, .getfield 74, .aload_n 0]) (pc' := 42) (ls' := [some (.inr (.inr (30, 0))), some (.inl x1), some (.inl x2), some (.inl x3), some (.inl x4), some (.inl r20)]) (st' := [.inr (.inr (30, 0)), .inl (m34 30 0 7)]) (m' := m34) (by decide +kernel) rfl ?_
      refine go_callV h.1 (index := 217) (n := 0) (t := 30) (i := 0) (ci := 7) (nf := 35) (cz := (RX7, TX7, 35)) (as := []) (rest := [.inl (m34 30 0 7)]) (ctr_X7_mostParts (xl X) (xA X) (xC X) (xI X) (xk X) m34) (by decide +kernel) rfl rfl wd_v_X7_217 rfl (h.room (by first | decide | omega) (by decide)) h.cl (Nat.le_of_ble_eq_true rfl) puI_ok rfl (fun r42 m42 _ => ?_)
      show Go X (Em X puI) 45 [some (.inr (.inr (30, 0))), some (.inl x1), some (.inl x2), some (.inl x3), some (.inl x4), some (.inl r20)] [.inl r42, .inl (m34 30 0 7)] m42 _
      refine go_blk h.1 (is := [.isub]) (pc' := 46) (ls' := [some (.inr (.inr (30, 0))), some (.inl x1), some (.inl x2), some (.inl x3), some (.inl x4), some (.inl r20)]) (st' := [.inl ((m34 30 0 7) - r42)]) (m' := m42) (by decide +kernel) rfl ?_
      exact go_iret h.1 h.2.2.2.2 (by decide +kernel)
    · refine go_blk h.1 (is := [.iload 5]) (pc' := 32) (ls' := [some (.inr (.inr (30, 0))), some (.inl x1), some (.inl x2), some (.inl x3), some (.inl x4), some (.inl r20)]) (st' := [.inl r20]) (m' := m20) (by decide +kernel) rfl ?_
      exact go_iret h.1 h.2.2.2.2 (by decide +kernel)
  · refine go_blk h.1 (is := [.iconst (-1)]) (pc' := 13) (ls' := [some (.inr (.inr (30, 0))), some (.inl x1), some (.inl x2), some (.inl x3), some (.inl x4), none]) (st' := [.inl (-1 : Int32)]) (m' := m6) (by decide +kernel) rfl ?_
    exact go_iret h.1 h.2.2.2.2 (by decide +kernel)
theorem ctr_X7_payments (l : Launch) (A : AR → Nat) (dC : Nat → ClassId) (dI : Nat → Nat → Nat) (cs : Nat → ClassId) (x1 : Int32) (x2 : Int32) (x3 : Int32) (x4 : Int32) (m : Mem) : Ctr l A dC dI cs yX7_payments prog_9_method_44_code 6 (some .int) 6 puI [.inr (.inr (30, 0)), .inl x1, .inl x2, .inl x3, .inl x4] m (f_X7_payments x1 x2 x3 x4 m) :=
  ctr_of (P := P_X7) (by decide +kernel) rfl pt_X7 rfl rfl (fun X hC _ _ _ _ _ hR h0 h1 hr => g_X7_payments ⟨hC, hR, h0, h1, hr⟩ x1 x2 x3 x4 m)

def f_X7_wants_j110 (next : Int32 × Int32 × Mem → Option (Int32 × Mem)) (exit : Int32 × Mem → Option (Int32 × Mem)) (s0 : Int32) (x1 : Int32) (x7 : Int32) (x9 : Int32) (m : Mem) : Option (Int32 × Mem) :=
  next (s0, (x9 + (1 : Int32)), m)
theorem g_X7_wants_j110 {X : XT} (h : MX X prog_9_method_45_code P_X7 5 (some .int)) (next : Int32 × Int32 × Mem → Option (Int32 × Mem)) (exit : Int32 × Mem → Option (Int32 × Mem)) (s0 : Int32) (x1 : Int32) (x7 : Int32) (x9 : Int32) (m : Mem) (o2 : Option AV) (o3 : Option AV) (o4 : Option AV) (o5 : Option AV) (o6 : Option AV) (o8 : Option AV) (hn : ∀ (y8 : Int32) (y9 : Int32) (n : Mem) (o2 : Option AV) (o3 : Option AV) (o4 : Option AV) (o5 : Option AV) (o6 : Option AV), Go X (Em X puI) 69 [some (.inr (.inr (30, 0))), some (.inl x1), o2, o3, o4, o5, o6, some (.inl x7), some (.inl y8), some (.inl y9)] [] n (next (y8, y9, n))) (hx : ∀ (y8 : Int32) (n : Mem) (o2 : Option AV) (o3 : Option AV) (o4 : Option AV) (o5 : Option AV) (o6 : Option AV) (o9 : Option AV), Go X (Em X puI) 118 [some (.inr (.inr (30, 0))), some (.inl x1), o2, o3, o4, o5, o6, some (.inl x7), some (.inl y8), o9] [] n (exit (y8, n))) : Go X (Em X puI) 110 [some (.inr (.inr (30, 0))), some (.inl x1), o2, o3, o4, o5, o6, some (.inl x7), o8, some (.inl x9)] [.inl s0] m (f_X7_wants_j110 next exit s0 x1 x7 x9 m) := by
  unfold f_X7_wants_j110
  refine go_blk h.1 (is := [.istore 8, .iinc 9 1]) (pc' := 115) (ls' := [some (.inr (.inr (30, 0))), some (.inl x1), o2, o3, o4, o5, o6, some (.inl x7), some (.inl s0), some (.inl (x9 + (1 : Int32)))]) (st' := []) (m' := m) (by decide +kernel) rfl ?_
  refine go_goto h.1 (off := -46) 69 (by decide +kernel) (by decide) ?_
  exact hn s0 (x9 + (1 : Int32)) m (o2) (o3) (o4) (o5) (o6)

def f_X7_wants_b69 (x1 : Int32) (x7 : Int32) (next : Int32 × Int32 × Mem → Option (Int32 × Mem)) (exit : Int32 × Mem → Option (Int32 × Mem)) (s : Int32 × Int32 × Mem) : Option (Int32 × Mem) :=
  if (99 : Int32) < s.2.1 then
    exit (s.1, s.2.2)
  else
    if s.1 = (-9 : Int32) then
      if inB x1 5 = true then
        bnd (f_X7_go (mset s.2.2 36 0 (ix x1) (x7 + s.2.1))) (fun r95 m95 =>
          if r95 = (-9 : Int32) then
            f_X7_wants_j110 next exit s.2.1 x1 x7 s.2.1 m95
          else
            f_X7_wants_j110 next exit (-9 : Int32) x1 x7 s.2.1 m95)
      else none
    else
      exit (s.1, s.2.2)
theorem g_X7_wants_b69 {X : XT} (h : MX X prog_9_method_45_code P_X7 5 (some .int)) (x1 : Int32) (x7 : Int32) (next : Int32 × Int32 × Mem → Option (Int32 × Mem)) (exit : Int32 × Mem → Option (Int32 × Mem)) (hn : ∀ (y8 : Int32) (y9 : Int32) (n : Mem) (o2 : Option AV) (o3 : Option AV) (o4 : Option AV) (o5 : Option AV) (o6 : Option AV), Go X (Em X puI) 69 [some (.inr (.inr (30, 0))), some (.inl x1), o2, o3, o4, o5, o6, some (.inl x7), some (.inl y8), some (.inl y9)] [] n (next (y8, y9, n))) (hx : ∀ (y8 : Int32) (n : Mem) (o2 : Option AV) (o3 : Option AV) (o4 : Option AV) (o5 : Option AV) (o6 : Option AV) (o9 : Option AV), Go X (Em X puI) 118 [some (.inr (.inr (30, 0))), some (.inl x1), o2, o3, o4, o5, o6, some (.inl x7), some (.inl y8), o9] [] n (exit (y8, n))) (s : Int32 × Int32 × Mem) (o2 : Option AV) (o3 : Option AV) (o4 : Option AV) (o5 : Option AV) (o6 : Option AV) : Go X (Em X puI) 69 [some (.inr (.inr (30, 0))), some (.inl x1), o2, o3, o4, o5, o6, some (.inl x7), some (.inl s.1), some (.inl s.2.1)] [] s.2.2 (f_X7_wants_b69 x1 x7 next exit s) := by
  unfold f_X7_wants_b69
  refine go_blk h.1 (is := [.iload 9, .bipush 99]) (pc' := 73) (ls' := [some (.inr (.inr (30, 0))), some (.inl x1), o2, o3, o4, o5, o6, some (.inl x7), some (.inl s.1), some (.inl s.2.1)]) (st' := [.inl (99 : Int32), .inl s.2.1]) (m' := s.2.2) (by decide +kernel) rfl ?_
  refine go_icmpgt h.1 (off := 45) 118 (by decide +kernel) (by decide) (fun c73 => ?_) (fun c73 => ?_)
  · exact hx s.1 s.2.2 (o2) (o3) (o4) (o5) (o6) (some (.inl s.2.1))
  · refine go_blk h.1 (is := [.iload 8, .bipush (-9)]) (pc' := 80) (ls' := [some (.inr (.inr (30, 0))), some (.inl x1), o2, o3, o4, o5, o6, some (.inl x7), some (.inl s.1), some (.inl s.2.1)]) (st' := [.inl (-9 : Int32), .inl s.1]) (m' := s.2.2) (by decide +kernel) rfl ?_
    refine go_icmpne h.1 (off := 38) 118 (by decide +kernel) (by decide) (fun c80 => ?_) (fun c80 => ?_)
    · exact hx s.1 s.2.2 (o2) (o3) (o4) (o5) (o6) (some (.inl s.2.1))
    · refine go_blk h.1 (is := [.aload_n 0, .getfield 25, .iload_n 1, .iload 7, .iload 9, .iadd]) (pc' := 93) (ls' := [some (.inr (.inr (30, 0))), some (.inl x1), o2, o3, o4, o5, o6, some (.inl x7), some (.inl s.1), some (.inl s.2.1)]) (st' := [.inl (x7 + s.2.1), .inl x1, .inr (.inr (36, 0))]) (m' := s.2.2) (by decide +kernel) rfl ?_
      refine go_iast h.1 (by decide +kernel) rfl rfl (fun b93 => ?_)
      refine go_blk h.1 (is := [.aload_n 0]) (pc' := 95) (ls' := [some (.inr (.inr (30, 0))), some (.inl x1), o2, o3, o4, o5, o6, some (.inl x7), some (.inl s.1), some (.inl s.2.1)]) (st' := [.inr (.inr (30, 0))]) (m' := (mset s.2.2 36 0 (ix x1) (x7 + s.2.1))) (by decide +kernel) rfl ?_
      refine go_callV h.1 (index := 180) (n := 0) (t := 30) (i := 0) (ci := 7) (nf := 35) (cz := (RX7, TX7, 35)) (as := []) (rest := []) (ctr_X7_go (xl X) (xA X) (xC X) (xI X) (xk X) (mset s.2.2 36 0 (ix x1) (x7 + s.2.1))) (by decide +kernel) rfl rfl wd_v_X7_180 rfl (h.room (by first | decide | omega) (by decide)) h.cl (Nat.le_of_ble_eq_true rfl) puI_ok rfl (fun r95 m95 _ => ?_)
      show Go X (Em X puI) 98 [some (.inr (.inr (30, 0))), some (.inl x1), o2, o3, o4, o5, o6, some (.inl x7), some (.inl s.1), some (.inl s.2.1)] [.inl r95] m95 _
      refine go_blk h.1 (is := [.bipush (-9)]) (pc' := 100) (ls' := [some (.inr (.inr (30, 0))), some (.inl x1), o2, o3, o4, o5, o6, some (.inl x7), some (.inl s.1), some (.inl s.2.1)]) (st' := [.inl (-9 : Int32), .inl r95]) (m' := m95) (by decide +kernel) rfl ?_
      refine go_icmpne h.1 (off := 8) 108 (by decide +kernel) (by decide) (fun c100 => ?_) (fun c100 => ?_)
      · refine go_blk h.1 (is := [.bipush (-9)]) (pc' := 110) (ls' := [some (.inr (.inr (30, 0))), some (.inl x1), o2, o3, o4, o5, o6, some (.inl x7), some (.inl s.1), some (.inl s.2.1)]) (st' := [.inl (-9 : Int32)]) (m' := m95) (by decide +kernel) rfl ?_
        exact g_X7_wants_j110 h next exit (-9 : Int32) x1 x7 s.2.1 m95 (o2) (o3) (o4) (o5) (o6) (some (.inl s.1)) hn hx
      · refine go_blk h.1 (is := [.iload 9]) (pc' := 105) (ls' := [some (.inr (.inr (30, 0))), some (.inl x1), o2, o3, o4, o5, o6, some (.inl x7), some (.inl s.1), some (.inl s.2.1)]) (st' := [.inl s.2.1]) (m' := m95) (by decide +kernel) rfl ?_
        refine go_goto h.1 (off := 5) 110 (by decide +kernel) (by decide) ?_
        exact g_X7_wants_j110 h next exit s.2.1 x1 x7 s.2.1 m95 (o2) (o3) (o4) (o5) (o6) (some (.inl s.1)) hn hx

def f_X7_wants (x1 : Int32) (x2 : Int32) (x3 : Int32) (x4 : Int32) (x5 : Int32) (m : Mem) : Option (Int32 × Mem) :=
  bnd (f_X7_isFish x1 (mset m 30 0 0 (0 : Int32))) (fun r7 m7 =>
    if r7 = 0 then
      some ((-1 : Int32), m7)
    else
      bnd (f_X7_isSheet x2 m7) (fun r14 m14 =>
        if r14 = 0 then
          some ((-1 : Int32), m14)
        else
          bnd (f_X7_arePairs x3 x5 m14) (fun r25 m25 =>
            if r25 = 0 then
              some ((-2 : Int32), m25)
            else
              bnd (f_X7_layPasses x2 x3 x4 x5 m25) (fun r41 m41 =>
                if r41 = 0 then
                  if inB x1 5 = true then
                    lpk (f_X7_wants_b69 x1 (m41 36 0 (ix x1))) fuelN ((-9 : Int32), (0 : Int32), m41) (fun t69 =>
                      if inB x1 5 = true then
                        some (t69.1, (mset t69.2 36 0 (ix x1) (m41 36 0 (ix x1))))
                      else none)
                  else none
                else
                  some (r41, m41)))))
theorem g_X7_wants {X : XT} (h : MX X prog_9_method_45_code P_X7 5 (some .int)) (x1 : Int32) (x2 : Int32) (x3 : Int32) (x4 : Int32) (x5 : Int32) (m : Mem) : Go X (Em X puI) 0 [some (.inr (.inr (30, 0))), some (.inl x1), some (.inl x2), some (.inl x3), some (.inl x4), some (.inl x5), none, none, none, none] [] m (f_X7_wants x1 x2 x3 x4 x5 m) := by
  unfold f_X7_wants
  refine go_blk h.1 (is := [.aload_n 0, .iconst 0, .putfield 64, .aload_n 0, .iload_n 1]) (pc' := 7) (ls' := [some (.inr (.inr (30, 0))), some (.inl x1), some (.inl x2), some (.inl x3), some (.inl x4), some (.inl x5), none, none, none, none]) (st' := [.inl x1, .inr (.inr (30, 0))]) (m' := (mset m 30 0 0 (0 : Int32))) (by decide +kernel) rfl ?_
  refine go_callV h.1 (index := 128) (n := 1) (t := 30) (i := 0) (ci := 7) (nf := 35) (cz := (RX7, TX7, 35)) (as := [.inl x1]) (rest := []) (ctr_X7_isFish (xl X) (xA X) (xC X) (xI X) (xk X) x1 (mset m 30 0 0 (0 : Int32))) (by decide +kernel) rfl rfl wd_v_X7_128 rfl (h.room (by first | decide | omega) (by decide)) h.cl (Nat.le_of_ble_eq_true rfl) puI_ok rfl (fun r7 m7 _ => ?_)
  show Go X (Em X puI) 10 [some (.inr (.inr (30, 0))), some (.inl x1), some (.inl x2), some (.inl x3), some (.inl x4), some (.inl x5), none, none, none, none] [.inl r7] m7 _
  refine go_ifeq h.1 (off := 10) 20 (by decide +kernel) (by decide) (fun c10 => ?_) (fun c10 => ?_)
  · refine go_blk h.1 (is := [.iconst (-1)]) (pc' := 21) (ls' := [some (.inr (.inr (30, 0))), some (.inl x1), some (.inl x2), some (.inl x3), some (.inl x4), some (.inl x5), none, none, none, none]) (st' := [.inl (-1 : Int32)]) (m' := m7) (by decide +kernel) rfl ?_
    exact go_iret h.1 h.2.2.2.2 (by decide +kernel)
  · refine go_blk h.1 (is := [.iload_n 2]) (pc' := 14) (ls' := [some (.inr (.inr (30, 0))), some (.inl x1), some (.inl x2), some (.inl x3), some (.inl x4), some (.inl x5), none, none, none, none]) (st' := [.inl x2]) (m' := m7) (by decide +kernel) rfl ?_
    refine go_callS h.1 (index := 80) (n := 1) (as := [.inl x2]) (rest := []) (ctr_X7_isSheet (xl X) (xA X) (xC X) (xI X) (xk X) x2 m7) (by decide +kernel) wd_s_X7_80 rfl (h.room (by first | decide | omega) (by decide)) h.cl (Nat.le_of_ble_eq_true rfl) puI_ok rfl (fun r14 m14 _ => ?_)
    show Go X (Em X puI) 17 [some (.inr (.inr (30, 0))), some (.inl x1), some (.inl x2), some (.inl x3), some (.inl x4), some (.inl x5), none, none, none, none] [.inl r14] m14 _
    refine go_ifne h.1 (off := 5) 22 (by decide +kernel) (by decide) (fun c17 => ?_) (fun c17 => ?_)
    · refine go_blk h.1 (is := [.iload_n 3, .iload 5]) (pc' := 25) (ls' := [some (.inr (.inr (30, 0))), some (.inl x1), some (.inl x2), some (.inl x3), some (.inl x4), some (.inl x5), none, none, none, none]) (st' := [.inl x5, .inl x3]) (m' := m14) (by decide +kernel) rfl ?_
      refine go_callS h.1 (index := 174) (n := 2) (as := [.inl x3, .inl x5]) (rest := []) (ctr_X7_arePairs (xl X) (xA X) (xC X) (xI X) (xk X) x3 x5 m14) (by decide +kernel) wd_s_X7_174 rfl (h.room (by first | decide | omega) (by decide)) h.cl (Nat.le_of_ble_eq_true rfl) puI_ok rfl (fun r25 m25 _ => ?_)
      show Go X (Em X puI) 28 [some (.inr (.inr (30, 0))), some (.inl x1), some (.inl x2), some (.inl x3), some (.inl x4), some (.inl x5), none, none, none, none] [.inl r25] m25 _
      refine go_ifne h.1 (off := 6) 34 (by decide +kernel) (by decide) (fun c28 => ?_) (fun c28 => ?_)
      · refine go_blk h.1 (is := [.aload_n 0, .iload_n 2, .iload_n 3, .iload 4, .iload 5]) (pc' := 41) (ls' := [some (.inr (.inr (30, 0))), some (.inl x1), some (.inl x2), some (.inl x3), some (.inl x4), some (.inl x5), none, none, none, none]) (st' := [.inl x5, .inl x4, .inl x3, .inl x2, .inr (.inr (30, 0))]) (m' := m25) (by decide +kernel) rfl ?_
        refine go_callV h.1 (index := 177) (n := 4) (t := 30) (i := 0) (ci := 7) (nf := 35) (cz := (RX7, TX7, 35)) (as := [.inl x2, .inl x3, .inl x4, .inl x5]) (rest := []) (ctr_X7_layPasses (xl X) (xA X) (xC X) (xI X) (xk X) x2 x3 x4 x5 m25) (by decide +kernel) rfl rfl wd_v_X7_177 rfl (h.room (by first | decide | omega) (by decide)) h.cl (Nat.le_of_ble_eq_true rfl) puI_ok rfl (fun r41 m41 _ => ?_)
        show Go X (Em X puI) 44 [some (.inr (.inr (30, 0))), some (.inl x1), some (.inl x2), some (.inl x3), some (.inl x4), some (.inl x5), none, none, none, none] [.inl r41] m41 _
        refine go_blk h.1 (is := [.istore 6, .iload 6]) (pc' := 48) (ls' := [some (.inr (.inr (30, 0))), some (.inl x1), some (.inl x2), some (.inl x3), some (.inl x4), some (.inl x5), some (.inl r41), none, none, none]) (st' := [.inl r41]) (m' := m41) (by decide +kernel) rfl ?_
        refine go_ifeq h.1 (off := 6) 54 (by decide +kernel) (by decide) (fun c48 => ?_) (fun c48 => ?_)
        · refine go_blk h.1 (is := [.aload_n 0, .getfield 25, .iload_n 1]) (pc' := 59) (ls' := [some (.inr (.inr (30, 0))), some (.inl x1), some (.inl x2), some (.inl x3), some (.inl x4), some (.inl x5), some (.inl r41), none, none, none]) (st' := [.inl x1, .inr (.inr (36, 0))]) (m' := m41) (by decide +kernel) rfl ?_
          refine go_iald h.1 (by decide +kernel) rfl rfl (fun b59 => ?_)
          show Go X (Em X puI) 60 [some (.inr (.inr (30, 0))), some (.inl x1), some (.inl x2), some (.inl x3), some (.inl x4), some (.inl x5), some (.inl r41), none, none, none] [.inl (m41 36 0 (ix x1))] m41 _
          refine go_blk h.1 (is := [.istore 7, .bipush (-9), .istore 8, .iconst 0, .istore 9]) (pc' := 69) (ls' := [some (.inr (.inr (30, 0))), some (.inl x1), some (.inl x2), some (.inl x3), some (.inl x4), some (.inl x5), some (.inl r41), some (.inl (m41 36 0 (ix x1))), some (.inl (-9 : Int32)), some (.inl (0 : Int32))]) (st' := []) (m' := m41) (by decide +kernel) rfl ?_
          refine go_lp2 (hd := fun (y8 : Int32) (y9 : Int32) (n : Mem) o => ∀ (o2 : Option AV) (o3 : Option AV) (o4 : Option AV) (o5 : Option AV) (o6 : Option AV), Go X (Em X puI) 69 [some (.inr (.inr (30, 0))), some (.inl x1), o2, o3, o4, o5, o6, some (.inl (m41 36 0 (ix x1))), some (.inl y8), some (.inl y9)] [] n o) (fun _ _ _ _ _ _ _ _ => go_none) (fun y8 y9 n nx_ hn_ => g_X7_wants_b69 h x1 (m41 36 0 (ix x1)) nx_ _ hn_ (fun z8_69 z_69 o2_69 o3_69 o4_69 o5_69 o6_69 o9_69 => ?_) (y8, y9, n)) fuelN (-9 : Int32) (0 : Int32) m41 (some (.inl x2)) (some (.inl x3)) (some (.inl x4)) (some (.inl x5)) (some (.inl r41))
          refine go_blk h.1 (is := [.aload_n 0, .getfield 25, .iload_n 1, .iload 7]) (pc' := 125) (ls' := [some (.inr (.inr (30, 0))), some (.inl x1), o2_69, o3_69, o4_69, o5_69, o6_69, some (.inl (m41 36 0 (ix x1))), some (.inl z8_69), o9_69]) (st' := [.inl (m41 36 0 (ix x1)), .inl x1, .inr (.inr (36, 0))]) (m' := z_69) (by decide +kernel) rfl ?_
          refine go_iast h.1 (by decide +kernel) rfl rfl (fun b125 => ?_)
          refine go_blk h.1 (is := [.iload 8]) (pc' := 128) (ls' := [some (.inr (.inr (30, 0))), some (.inl x1), o2_69, o3_69, o4_69, o5_69, o6_69, some (.inl (m41 36 0 (ix x1))), some (.inl z8_69), o9_69]) (st' := [.inl z8_69]) (m' := (mset z_69 36 0 (ix x1) (m41 36 0 (ix x1)))) (by decide +kernel) rfl ?_
          exact go_iret h.1 h.2.2.2.2 (by decide +kernel)
        · refine go_blk h.1 (is := [.iload 6]) (pc' := 53) (ls' := [some (.inr (.inr (30, 0))), some (.inl x1), some (.inl x2), some (.inl x3), some (.inl x4), some (.inl x5), some (.inl r41), none, none, none]) (st' := [.inl r41]) (m' := m41) (by decide +kernel) rfl ?_
          exact go_iret h.1 h.2.2.2.2 (by decide +kernel)
      · refine go_blk h.1 (is := [.bipush (-2)]) (pc' := 33) (ls' := [some (.inr (.inr (30, 0))), some (.inl x1), some (.inl x2), some (.inl x3), some (.inl x4), some (.inl x5), none, none, none, none]) (st' := [.inl (-2 : Int32)]) (m' := m25) (by decide +kernel) rfl ?_
        exact go_iret h.1 h.2.2.2.2 (by decide +kernel)
    · refine go_blk h.1 (is := [.iconst (-1)]) (pc' := 21) (ls' := [some (.inr (.inr (30, 0))), some (.inl x1), some (.inl x2), some (.inl x3), some (.inl x4), some (.inl x5), none, none, none, none]) (st' := [.inl (-1 : Int32)]) (m' := m14) (by decide +kernel) rfl ?_
      exact go_iret h.1 h.2.2.2.2 (by decide +kernel)
theorem ctr_X7_wants (l : Launch) (A : AR → Nat) (dC : Nat → ClassId) (dI : Nat → Nat → Nat) (cs : Nat → ClassId) (x1 : Int32) (x2 : Int32) (x3 : Int32) (x4 : Int32) (x5 : Int32) (m : Mem) : Ctr l A dC dI cs yX7_wants prog_9_method_45_code 10 (some .int) 5 puI [.inr (.inr (30, 0)), .inl x1, .inl x2, .inl x3, .inl x4, .inl x5] m (f_X7_wants x1 x2 x3 x4 x5 m) :=
  ctr_of (P := P_X7) (by decide +kernel) rfl pt_X7 rfl rfl (fun X hC _ _ _ _ _ hR h0 h1 hr => g_X7_wants ⟨hC, hR, h0, h1, hr⟩ x1 x2 x3 x4 x5 m)

def f_X7_reading (x1 : Int32) (x2 : Int32) (m : Mem) : Option (Int32 × Mem) :=
  bnd (f_X7_isFish x1 m) (fun r2 m2 =>
    if r2 = 0 then
      some ((-1 : Int32), m2)
    else
      bnd (f_X7_within x2 (0 : Int32) (99 : Int32) m2) (fun r14 m14 =>
        if r14 = 0 then
          some ((-2 : Int32), m14)
        else
          if (m14 30 0 32) = (8 : Int32) then
            some ((-4 : Int32), m14)
          else
            if inB (m14 30 0 32) 8 = true then
              if inB (m14 30 0 32) 8 = true then
                some ((((mset (mset (mset m14 47 0 (ix (m14 30 0 32)) x1) 48 0 (ix (m14 30 0 32)) x2) 30 0 32 ((m14 30 0 32) + (1 : Int32))) 30 0 32) - (1 : Int32)), (mset (mset (mset m14 47 0 (ix (m14 30 0 32)) x1) 48 0 (ix (m14 30 0 32)) x2) 30 0 32 ((m14 30 0 32) + (1 : Int32))))
              else none
            else none))
theorem g_X7_reading {X : XT} (h : MX X prog_9_method_46_code P_X7 1 (some .int)) (x1 : Int32) (x2 : Int32) (m : Mem) : Go X (Em X puI) 0 [some (.inr (.inr (30, 0))), some (.inl x1), some (.inl x2)] [] m (f_X7_reading x1 x2 m) := by
  unfold f_X7_reading
  refine go_blk h.1 (is := [.aload_n 0, .iload_n 1]) (pc' := 2) (ls' := [some (.inr (.inr (30, 0))), some (.inl x1), some (.inl x2)]) (st' := [.inl x1, .inr (.inr (30, 0))]) (m' := m) (by decide +kernel) rfl ?_
  refine go_callV h.1 (index := 128) (n := 1) (t := 30) (i := 0) (ci := 7) (nf := 35) (cz := (RX7, TX7, 35)) (as := [.inl x1]) (rest := []) (ctr_X7_isFish (xl X) (xA X) (xC X) (xI X) (xk X) x1 m) (by decide +kernel) rfl rfl wd_v_X7_128 rfl (h.room (by first | decide | omega) (by decide)) h.cl (Nat.le_of_ble_eq_true rfl) puI_ok rfl (fun r2 m2 _ => ?_)
  show Go X (Em X puI) 5 [some (.inr (.inr (30, 0))), some (.inl x1), some (.inl x2)] [.inl r2] m2 _
  refine go_ifne h.1 (off := 5) 10 (by decide +kernel) (by decide) (fun c5 => ?_) (fun c5 => ?_)
  · refine go_blk h.1 (is := [.iload_n 2, .iconst 0, .bipush 99]) (pc' := 14) (ls' := [some (.inr (.inr (30, 0))), some (.inl x1), some (.inl x2)]) (st' := [.inl (99 : Int32), .inl (0 : Int32), .inl x2]) (m' := m2) (by decide +kernel) rfl ?_
    refine go_callS h.1 (index := 70) (n := 3) (as := [.inl x2, .inl (0 : Int32), .inl (99 : Int32)]) (rest := []) (ctr_X7_within (xl X) (xA X) (xC X) (xI X) (xk X) x2 (0 : Int32) (99 : Int32) m2) (by decide +kernel) wd_s_X7_70 rfl (h.room (by first | decide | omega) (by decide)) h.cl (Nat.le_of_ble_eq_true rfl) puI_ok rfl (fun r14 m14 _ => ?_)
    show Go X (Em X puI) 17 [some (.inr (.inr (30, 0))), some (.inl x1), some (.inl x2)] [.inl r14] m14 _
    refine go_ifne h.1 (off := 6) 23 (by decide +kernel) (by decide) (fun c17 => ?_) (fun c17 => ?_)
    · refine go_blk h.1 (is := [.aload_n 0, .getfield 114, .bipush 8]) (pc' := 29) (ls' := [some (.inr (.inr (30, 0))), some (.inl x1), some (.inl x2)]) (st' := [.inl (8 : Int32), .inl (m14 30 0 32)]) (m' := m14) (by decide +kernel) rfl ?_
      refine go_icmpne h.1 (off := 6) 35 (by decide +kernel) (by decide) (fun c29 => ?_) (fun c29 => ?_)
      · refine go_blk h.1 (is := [.aload_n 0, .getfield 58, .aload_n 0, .getfield 114, .iload_n 1]) (pc' := 44) (ls' := [some (.inr (.inr (30, 0))), some (.inl x1), some (.inl x2)]) (st' := [.inl x1, .inl (m14 30 0 32), .inr (.inr (47, 0))]) (m' := m14) (by decide +kernel) rfl ?_
        refine go_iast h.1 (by decide +kernel) rfl rfl (fun b44 => ?_)
        refine go_blk h.1 (is := [.aload_n 0, .getfield 61, .aload_n 0, .getfield 114, .iload_n 2]) (pc' := 54) (ls' := [some (.inr (.inr (30, 0))), some (.inl x1), some (.inl x2)]) (st' := [.inl x2, .inl (m14 30 0 32), .inr (.inr (48, 0))]) (m' := (mset m14 47 0 (ix (m14 30 0 32)) x1)) (by decide +kernel) rfl ?_
        refine go_iast h.1 (by decide +kernel) rfl rfl (fun b54 => ?_)
        refine go_blk h.1 (is := [.aload_n 0, .dup, .getfield 114, .iconst 1, .iadd, .putfield 114, .aload_n 0, .getfield 114, .iconst 1, .isub]) (pc' := 71) (ls' := [some (.inr (.inr (30, 0))), some (.inl x1), some (.inl x2)]) (st' := [.inl (((mset (mset (mset m14 47 0 (ix (m14 30 0 32)) x1) 48 0 (ix (m14 30 0 32)) x2) 30 0 32 ((m14 30 0 32) + (1 : Int32))) 30 0 32) - (1 : Int32))]) (m' := (mset (mset (mset m14 47 0 (ix (m14 30 0 32)) x1) 48 0 (ix (m14 30 0 32)) x2) 30 0 32 ((m14 30 0 32) + (1 : Int32)))) (by decide +kernel) rfl ?_
        exact go_iret h.1 h.2.2.2.2 (by decide +kernel)
      · refine go_blk h.1 (is := [.bipush (-4)]) (pc' := 34) (ls' := [some (.inr (.inr (30, 0))), some (.inl x1), some (.inl x2)]) (st' := [.inl (-4 : Int32)]) (m' := m14) (by decide +kernel) rfl ?_
        exact go_iret h.1 h.2.2.2.2 (by decide +kernel)
    · refine go_blk h.1 (is := [.bipush (-2)]) (pc' := 22) (ls' := [some (.inr (.inr (30, 0))), some (.inl x1), some (.inl x2)]) (st' := [.inl (-2 : Int32)]) (m' := m14) (by decide +kernel) rfl ?_
      exact go_iret h.1 h.2.2.2.2 (by decide +kernel)
  · refine go_blk h.1 (is := [.iconst (-1)]) (pc' := 9) (ls' := [some (.inr (.inr (30, 0))), some (.inl x1), some (.inl x2)]) (st' := [.inl (-1 : Int32)]) (m' := m2) (by decide +kernel) rfl ?_
    exact go_iret h.1 h.2.2.2.2 (by decide +kernel)
theorem ctr_X7_reading (l : Launch) (A : AR → Nat) (dC : Nat → ClassId) (dI : Nat → Nat → Nat) (cs : Nat → ClassId) (x1 : Int32) (x2 : Int32) (m : Mem) : Ctr l A dC dI cs yX7_reading prog_9_method_46_code 3 (some .int) 1 puI [.inr (.inr (30, 0)), .inl x1, .inl x2] m (f_X7_reading x1 x2 m) :=
  ctr_of (P := P_X7) (by decide +kernel) rfl pt_X7 rfl rfl (fun X hC _ _ _ _ _ hR h0 h1 hr => g_X7_reading ⟨hC, hR, h0, h1, hr⟩ x1 x2 m)

def f_X7_back (x1 : Int32) (m : Mem) : Option (Int32 × Mem) :=
  bnd (f_X7_within x1 (0 : Int32) (m 30 0 32) m) (fun r6 m6 =>
    if r6 = 0 then
      some ((-2 : Int32), m6)
    else
      some (((mset m6 30 0 32 ((m6 30 0 32) - x1)) 30 0 32), (mset m6 30 0 32 ((m6 30 0 32) - x1))))
theorem g_X7_back {X : XT} (h : MX X prog_9_method_47_code P_X7 1 (some .int)) (x1 : Int32) (m : Mem) : Go X (Em X puI) 0 [some (.inr (.inr (30, 0))), some (.inl x1)] [] m (f_X7_back x1 m) := by
  unfold f_X7_back
  refine go_blk h.1 (is := [.iload_n 1, .iconst 0, .aload_n 0, .getfield 114]) (pc' := 6) (ls' := [some (.inr (.inr (30, 0))), some (.inl x1)]) (st' := [.inl (m 30 0 32), .inl (0 : Int32), .inl x1]) (m' := m) (by decide +kernel) rfl ?_
  refine go_callS h.1 (index := 70) (n := 3) (as := [.inl x1, .inl (0 : Int32), .inl (m 30 0 32)]) (rest := []) (ctr_X7_within (xl X) (xA X) (xC X) (xI X) (xk X) x1 (0 : Int32) (m 30 0 32) m) (by decide +kernel) wd_s_X7_70 rfl (h.room (by first | decide | omega) (by decide)) h.cl (Nat.le_of_ble_eq_true rfl) puI_ok rfl (fun r6 m6 _ => ?_)
  show Go X (Em X puI) 9 [some (.inr (.inr (30, 0))), some (.inl x1)] [.inl r6] m6 _
  refine go_ifne h.1 (off := 6) 15 (by decide +kernel) (by decide) (fun c9 => ?_) (fun c9 => ?_)
  · refine go_blk h.1 (is := [.aload_n 0, .dup, .getfield 114, .iload_n 1, .isub, .putfield 114, .aload_n 0, .getfield 114]) (pc' := 29) (ls' := [some (.inr (.inr (30, 0))), some (.inl x1)]) (st' := [.inl ((mset m6 30 0 32 ((m6 30 0 32) - x1)) 30 0 32)]) (m' := (mset m6 30 0 32 ((m6 30 0 32) - x1))) (by decide +kernel) rfl ?_
    exact go_iret h.1 h.2.2.2.2 (by decide +kernel)
  · refine go_blk h.1 (is := [.bipush (-2)]) (pc' := 14) (ls' := [some (.inr (.inr (30, 0))), some (.inl x1)]) (st' := [.inl (-2 : Int32)]) (m' := m6) (by decide +kernel) rfl ?_
    exact go_iret h.1 h.2.2.2.2 (by decide +kernel)
theorem ctr_X7_back (l : Launch) (A : AR → Nat) (dC : Nat → ClassId) (dI : Nat → Nat → Nat) (cs : Nat → ClassId) (x1 : Int32) (m : Mem) : Ctr l A dC dI cs yX7_back prog_9_method_47_code 2 (some .int) 1 puI [.inr (.inr (30, 0)), .inl x1] m (f_X7_back x1 m) :=
  ctr_of (P := P_X7) (by decide +kernel) rfl pt_X7 rfl rfl (fun X hC _ _ _ _ _ hR h0 h1 hr => g_X7_back ⟨hC, hR, h0, h1, hr⟩ x1 m)

def f_X7_lay (x1 : Int32) (x2 : Int32) (x3 : Int32) (x4 : Int32) (m : Mem) : Option (Int32 × Mem) :=
  bnd (f_X7_isSheet x1 m) (fun r1 m1 =>
    if r1 = 0 then
      some ((-1 : Int32), m1)
    else
      bnd (f_X7_arePairs x2 x4 m1) (fun r12 m12 =>
        if r12 = 0 then
          some ((-2 : Int32), m12)
        else
          bnd (f_X7_layPasses x1 x2 x3 x4 m12) (fun r24 m24 =>
            some (r24, m24))))
theorem g_X7_lay {X : XT} (h : MX X prog_9_method_49_code P_X7 3 (some .int)) (x1 : Int32) (x2 : Int32) (x3 : Int32) (x4 : Int32) (m : Mem) : Go X (Em X puI) 0 [some (.inr (.inr (30, 0))), some (.inl x1), some (.inl x2), some (.inl x3), some (.inl x4)] [] m (f_X7_lay x1 x2 x3 x4 m) := by
  unfold f_X7_lay
  refine go_blk h.1 (is := [.iload_n 1]) (pc' := 1) (ls' := [some (.inr (.inr (30, 0))), some (.inl x1), some (.inl x2), some (.inl x3), some (.inl x4)]) (st' := [.inl x1]) (m' := m) (by decide +kernel) rfl ?_
  refine go_callS h.1 (index := 80) (n := 1) (as := [.inl x1]) (rest := []) (ctr_X7_isSheet (xl X) (xA X) (xC X) (xI X) (xk X) x1 m) (by decide +kernel) wd_s_X7_80 rfl (h.room (by first | decide | omega) (by decide)) h.cl (Nat.le_of_ble_eq_true rfl) puI_ok rfl (fun r1 m1 _ => ?_)
  show Go X (Em X puI) 4 [some (.inr (.inr (30, 0))), some (.inl x1), some (.inl x2), some (.inl x3), some (.inl x4)] [.inl r1] m1 _
  refine go_ifne h.1 (off := 5) 9 (by decide +kernel) (by decide) (fun c4 => ?_) (fun c4 => ?_)
  · refine go_blk h.1 (is := [.iload_n 2, .iload 4]) (pc' := 12) (ls' := [some (.inr (.inr (30, 0))), some (.inl x1), some (.inl x2), some (.inl x3), some (.inl x4)]) (st' := [.inl x4, .inl x2]) (m' := m1) (by decide +kernel) rfl ?_
    refine go_callS h.1 (index := 174) (n := 2) (as := [.inl x2, .inl x4]) (rest := []) (ctr_X7_arePairs (xl X) (xA X) (xC X) (xI X) (xk X) x2 x4 m1) (by decide +kernel) wd_s_X7_174 rfl (h.room (by first | decide | omega) (by decide)) h.cl (Nat.le_of_ble_eq_true rfl) puI_ok rfl (fun r12 m12 _ => ?_)
    show Go X (Em X puI) 15 [some (.inr (.inr (30, 0))), some (.inl x1), some (.inl x2), some (.inl x3), some (.inl x4)] [.inl r12] m12 _
    refine go_ifeq h.1 (off := 15) 30 (by decide +kernel) (by decide) (fun c15 => ?_) (fun c15 => ?_)
    · refine go_blk h.1 (is := [.bipush (-2)]) (pc' := 32) (ls' := [some (.inr (.inr (30, 0))), some (.inl x1), some (.inl x2), some (.inl x3), some (.inl x4)]) (st' := [.inl (-2 : Int32)]) (m' := m12) (by decide +kernel) rfl ?_
      exact go_iret h.1 h.2.2.2.2 (by decide +kernel)
    · refine go_blk h.1 (is := [.aload_n 0, .iload_n 1, .iload_n 2, .iload_n 3, .iload 4]) (pc' := 24) (ls' := [some (.inr (.inr (30, 0))), some (.inl x1), some (.inl x2), some (.inl x3), some (.inl x4)]) (st' := [.inl x4, .inl x3, .inl x2, .inl x1, .inr (.inr (30, 0))]) (m' := m12) (by decide +kernel) rfl ?_
      refine go_callV h.1 (index := 177) (n := 4) (t := 30) (i := 0) (ci := 7) (nf := 35) (cz := (RX7, TX7, 35)) (as := [.inl x1, .inl x2, .inl x3, .inl x4]) (rest := []) (ctr_X7_layPasses (xl X) (xA X) (xC X) (xI X) (xk X) x1 x2 x3 x4 m12) (by decide +kernel) rfl rfl wd_v_X7_177 rfl (h.room (by first | decide | omega) (by decide)) h.cl (Nat.le_of_ble_eq_true rfl) puI_ok rfl (fun r24 m24 _ => ?_)
      show Go X (Em X puI) 27 [some (.inr (.inr (30, 0))), some (.inl x1), some (.inl x2), some (.inl x3), some (.inl x4)] [.inl r24] m24 _
      refine go_goto h.1 (off := 5) 32 (by decide +kernel) (by decide) ?_
      exact go_iret h.1 h.2.2.2.2 (by decide +kernel)
  · refine go_blk h.1 (is := [.iconst (-1)]) (pc' := 8) (ls' := [some (.inr (.inr (30, 0))), some (.inl x1), some (.inl x2), some (.inl x3), some (.inl x4)]) (st' := [.inl (-1 : Int32)]) (m' := m1) (by decide +kernel) rfl ?_
    exact go_iret h.1 h.2.2.2.2 (by decide +kernel)
theorem ctr_X7_lay (l : Launch) (A : AR → Nat) (dC : Nat → ClassId) (dI : Nat → Nat → Nat) (cs : Nat → ClassId) (x1 : Int32) (x2 : Int32) (x3 : Int32) (x4 : Int32) (m : Mem) : Ctr l A dC dI cs yX7_lay prog_9_method_49_code 5 (some .int) 3 puI [.inr (.inr (30, 0)), .inl x1, .inl x2, .inl x3, .inl x4] m (f_X7_lay x1 x2 x3 x4 m) :=
  ctr_of (P := P_X7) (by decide +kernel) rfl pt_X7 rfl rfl (fun X hC _ _ _ _ _ hR h0 h1 hr => g_X7_lay ⟨hC, hR, h0, h1, hr⟩ x1 x2 x3 x4 m)

def f_X7_areSo_b13 (next : Int32 × Mem → Option (Int32 × Mem)) (exit : Mem → Option (Int32 × Mem)) (s : Int32 × Mem) : Option (Int32 × Mem) :=
  if (s.2 30 0 32) ≤ s.1 then
    exit (s.2)
  else
    if inB s.1 8 = true then
      if inB (s.2 47 0 (ix s.1)) 5 = true then
        if inB s.1 8 = true then
          if (s.2 40 0 (ix (s.2 47 0 (ix s.1)))) = (s.2 48 0 (ix s.1)) then
            next ((s.1 + (1 : Int32)), s.2)
          else
            some ((0 : Int32), s.2)
        else none
      else none
    else none
theorem g_X7_areSo_b13 {X : XT} (h : MX X prog_9_method_48_code P_X7 5 (some .boolean)) (next : Int32 × Mem → Option (Int32 × Mem)) (exit : Mem → Option (Int32 × Mem)) (hn : ∀ (y1 : Int32) (n : Mem), Go X (Em X puI) 13 [some (.inr (.inr (30, 0))), some (.inl y1)] [] n (next (y1, n))) (hx : ∀ (n : Mem) (o0 : Option AV) (o1 : Option AV), Go X (Em X puI) 49 [o0, o1] [] n (exit (n))) (s : Int32 × Mem) : Go X (Em X puI) 13 [some (.inr (.inr (30, 0))), some (.inl s.1)] [] s.2 (f_X7_areSo_b13 next exit s) := by
  unfold f_X7_areSo_b13
  refine go_blk h.1 (is := [.iload_n 1, .aload_n 0, .getfield 114]) (pc' := 18) (ls' := [some (.inr (.inr (30, 0))), some (.inl s.1)]) (st' := [.inl (s.2 30 0 32), .inl s.1]) (m' := s.2) (by decide +kernel) rfl ?_
  refine go_icmpge h.1 (off := 31) 49 (by decide +kernel) (by decide) (fun c18 => ?_) (fun c18 => ?_)
  · exact hx s.2 (some (.inr (.inr (30, 0)))) (some (.inl s.1))
  · refine go_blk h.1 (is := [.aload_n 0, .getfield 37, .aload_n 0, .getfield 58, .iload_n 1]) (pc' := 30) (ls' := [some (.inr (.inr (30, 0))), some (.inl s.1)]) (st' := [.inl s.1, .inr (.inr (47, 0)), .inr (.inr (40, 0))]) (m' := s.2) (by decide +kernel) rfl ?_
    refine go_iald h.1 (by decide +kernel) rfl rfl (fun b30 => ?_)
    show Go X (Em X puI) 31 [some (.inr (.inr (30, 0))), some (.inl s.1)] [.inl (s.2 47 0 (ix s.1)), .inr (.inr (40, 0))] s.2 _
    refine go_iald h.1 (by decide +kernel) rfl rfl (fun b31 => ?_)
    show Go X (Em X puI) 32 [some (.inr (.inr (30, 0))), some (.inl s.1)] [.inl (s.2 40 0 (ix (s.2 47 0 (ix s.1))))] s.2 _
    refine go_blk h.1 (is := [.aload_n 0, .getfield 61, .iload_n 1]) (pc' := 37) (ls' := [some (.inr (.inr (30, 0))), some (.inl s.1)]) (st' := [.inl s.1, .inr (.inr (48, 0)), .inl (s.2 40 0 (ix (s.2 47 0 (ix s.1))))]) (m' := s.2) (by decide +kernel) rfl ?_
    refine go_iald h.1 (by decide +kernel) rfl rfl (fun b37 => ?_)
    show Go X (Em X puI) 38 [some (.inr (.inr (30, 0))), some (.inl s.1)] [.inl (s.2 48 0 (ix s.1)), .inl (s.2 40 0 (ix (s.2 47 0 (ix s.1))))] s.2 _
    refine go_icmpeq h.1 (off := 5) 43 (by decide +kernel) (by decide) (fun c38 => ?_) (fun c38 => ?_)
    · refine go_blk h.1 (is := [.iinc 1 1]) (pc' := 46) (ls' := [some (.inr (.inr (30, 0))), some (.inl (s.1 + (1 : Int32)))]) (st' := []) (m' := s.2) (by decide +kernel) rfl ?_
      refine go_goto h.1 (off := -33) 13 (by decide +kernel) (by decide) ?_
      exact hn (s.1 + (1 : Int32)) s.2
    · refine go_blk h.1 (is := [.iconst 0]) (pc' := 42) (ls' := [some (.inr (.inr (30, 0))), some (.inl s.1)]) (st' := [.inl (0 : Int32)]) (m' := s.2) (by decide +kernel) rfl ?_
      exact go_zret h.1 h.2.2.2.2 (Or.inl rfl) (by decide +kernel)

def f_X7_areSo (m : Mem) : Option (Int32 × Mem) :=
  bnd (f_X7_go m) (fun r1 m1 =>
    if r1 = (-9 : Int32) then
      lpk (f_X7_areSo_b13) fuelN ((0 : Int32), m1) (fun t13 =>
        some ((1 : Int32), t13))
    else
      some ((0 : Int32), m1))
theorem g_X7_areSo {X : XT} (h : MX X prog_9_method_48_code P_X7 5 (some .boolean)) (m : Mem) : Go X (Em X puI) 0 [some (.inr (.inr (30, 0))), none] [] m (f_X7_areSo m) := by
  unfold f_X7_areSo
  refine go_blk h.1 (is := [.aload_n 0]) (pc' := 1) (ls' := [some (.inr (.inr (30, 0))), none]) (st' := [.inr (.inr (30, 0))]) (m' := m) (by decide +kernel) rfl ?_
  refine go_callV h.1 (index := 180) (n := 0) (t := 30) (i := 0) (ci := 7) (nf := 35) (cz := (RX7, TX7, 35)) (as := []) (rest := []) (ctr_X7_go (xl X) (xA X) (xC X) (xI X) (xk X) m) (by decide +kernel) rfl rfl wd_v_X7_180 rfl (h.room (by first | decide | omega) (by decide)) h.cl (Nat.le_of_ble_eq_true rfl) puI_ok rfl (fun r1 m1 _ => ?_)
  show Go X (Em X puI) 4 [some (.inr (.inr (30, 0))), none] [.inl r1] m1 _
  refine go_blk h.1 (is := [.bipush (-9)]) (pc' := 6) (ls' := [some (.inr (.inr (30, 0))), none]) (st' := [.inl (-9 : Int32), .inl r1]) (m' := m1) (by decide +kernel) rfl ?_
  refine go_icmpeq h.1 (off := 5) 11 (by decide +kernel) (by decide) (fun c6 => ?_) (fun c6 => ?_)
  · refine go_blk h.1 (is := [.iconst 0, .istore_n 1]) (pc' := 13) (ls' := [some (.inr (.inr (30, 0))), some (.inl (0 : Int32))]) (st' := []) (m' := m1) (by decide +kernel) rfl ?_
    refine go_lp1 (hd := fun (y1 : Int32) (n : Mem) o => Go X (Em X puI) 13 [some (.inr (.inr (30, 0))), some (.inl y1)] [] n o) (fun _ _ => go_none) (fun y1 n nx_ hn_ => g_X7_areSo_b13 h nx_ _ hn_ (fun z_13 o0_13 o1_13 => ?_) (y1, n)) fuelN (0 : Int32) m1
    refine go_blk h.1 (is := [.iconst 1]) (pc' := 50) (ls' := [o0_13, o1_13]) (st' := [.inl (1 : Int32)]) (m' := z_13) (by decide +kernel) rfl ?_
    exact go_zret h.1 h.2.2.2.2 (Or.inr rfl) (by decide +kernel)
  · refine go_blk h.1 (is := [.iconst 0]) (pc' := 10) (ls' := [some (.inr (.inr (30, 0))), none]) (st' := [.inl (0 : Int32)]) (m' := m1) (by decide +kernel) rfl ?_
    exact go_zret h.1 h.2.2.2.2 (Or.inl rfl) (by decide +kernel)
theorem ctr_X7_areSo (l : Launch) (A : AR → Nat) (dC : Nat → ClassId) (dI : Nat → Nat → Nat) (cs : Nat → ClassId) (m : Mem) : Ctr l A dC dI cs yX7_areSo prog_9_method_48_code 2 (some .boolean) 5 puI [.inr (.inr (30, 0))] m (f_X7_areSo m) :=
  ctr_of (P := P_X7) (by decide +kernel) rfl pt_X7 rfl rfl (fun X hC _ _ _ _ _ hR h0 h1 hr => g_X7_areSo ⟨hC, hR, h0, h1, hr⟩ m)

def f_X7_had_j81 (next : Int32 × Int32 × Mem → Option (Int32 × Mem)) (exit : Int32 × Mem → Option (Int32 × Mem)) (s0 : Int32) (s1 : Int32) (x1 : Int32) (x7 : Int32) (x9 : Int32) (m : Mem) : Option (Int32 × Mem) :=
  next ((s1 ||| s0), (x9 + (1 : Int32)), m)
theorem g_X7_had_j81 {X : XT} (h : MX X prog_9_method_50_code P_X7 6 (some .int)) (next : Int32 × Int32 × Mem → Option (Int32 × Mem)) (exit : Int32 × Mem → Option (Int32 × Mem)) (s0 : Int32) (s1 : Int32) (x1 : Int32) (x7 : Int32) (x9 : Int32) (m : Mem) (o2 : Option AV) (o3 : Option AV) (o4 : Option AV) (o5 : Option AV) (o6 : Option AV) (o8 : Option AV) (hn : ∀ (y8 : Int32) (y9 : Int32) (n : Mem) (o2 : Option AV) (o3 : Option AV) (o4 : Option AV) (o5 : Option AV) (o6 : Option AV), Go X (Em X puI) 49 [some (.inr (.inr (30, 0))), some (.inl x1), o2, o3, o4, o5, o6, some (.inl x7), some (.inl y8), some (.inl y9)] [] n (next (y8, y9, n))) (hx : ∀ (y8 : Int32) (n : Mem) (o2 : Option AV) (o3 : Option AV) (o4 : Option AV) (o5 : Option AV) (o6 : Option AV) (o9 : Option AV), Go X (Em X puI) 90 [some (.inr (.inr (30, 0))), some (.inl x1), o2, o3, o4, o5, o6, some (.inl x7), some (.inl y8), o9] [] n (exit (y8, n))) : Go X (Em X puI) 81 [some (.inr (.inr (30, 0))), some (.inl x1), o2, o3, o4, o5, o6, some (.inl x7), o8, some (.inl x9)] [.inl s0, .inl s1] m (f_X7_had_j81 next exit s0 s1 x1 x7 x9 m) := by
  unfold f_X7_had_j81
  refine go_blk h.1 (is := [.ior, .istore 8, .iinc 9 1]) (pc' := 87) (ls' := [some (.inr (.inr (30, 0))), some (.inl x1), o2, o3, o4, o5, o6, some (.inl x7), some (.inl (s1 ||| s0)), some (.inl (x9 + (1 : Int32)))]) (st' := []) (m' := m) (by decide +kernel) rfl ?_
  refine go_goto h.1 (off := -38) 49 (by decide +kernel) (by decide) ?_
  exact hn (s1 ||| s0) (x9 + (1 : Int32)) m (o2) (o3) (o4) (o5) (o6)

def f_X7_had_b49 (x1 : Int32) (x7 : Int32) (next : Int32 × Int32 × Mem → Option (Int32 × Mem)) (exit : Int32 × Mem → Option (Int32 × Mem)) (s : Int32 × Int32 × Mem) : Option (Int32 × Mem) :=
  if (9 : Int32) < s.2.1 then
    exit (s.1, s.2.2)
  else
    if inB x1 5 = true then
      bnd (f_X7_areSo (mset s.2.2 36 0 (ix x1) s.2.1)) (fun r67 m67 =>
        if r67 = 0 then
          f_X7_had_j81 next exit (0 : Int32) s.1 x1 x7 s.2.1 m67
        else
          f_X7_had_j81 next exit ((1 : Int32) <<< (s.2.1 &&& 31)) s.1 x1 x7 s.2.1 m67)
    else none
theorem g_X7_had_b49 {X : XT} (h : MX X prog_9_method_50_code P_X7 6 (some .int)) (x1 : Int32) (x7 : Int32) (next : Int32 × Int32 × Mem → Option (Int32 × Mem)) (exit : Int32 × Mem → Option (Int32 × Mem)) (hn : ∀ (y8 : Int32) (y9 : Int32) (n : Mem) (o2 : Option AV) (o3 : Option AV) (o4 : Option AV) (o5 : Option AV) (o6 : Option AV), Go X (Em X puI) 49 [some (.inr (.inr (30, 0))), some (.inl x1), o2, o3, o4, o5, o6, some (.inl x7), some (.inl y8), some (.inl y9)] [] n (next (y8, y9, n))) (hx : ∀ (y8 : Int32) (n : Mem) (o2 : Option AV) (o3 : Option AV) (o4 : Option AV) (o5 : Option AV) (o6 : Option AV) (o9 : Option AV), Go X (Em X puI) 90 [some (.inr (.inr (30, 0))), some (.inl x1), o2, o3, o4, o5, o6, some (.inl x7), some (.inl y8), o9] [] n (exit (y8, n))) (s : Int32 × Int32 × Mem) (o2 : Option AV) (o3 : Option AV) (o4 : Option AV) (o5 : Option AV) (o6 : Option AV) : Go X (Em X puI) 49 [some (.inr (.inr (30, 0))), some (.inl x1), o2, o3, o4, o5, o6, some (.inl x7), some (.inl s.1), some (.inl s.2.1)] [] s.2.2 (f_X7_had_b49 x1 x7 next exit s) := by
  unfold f_X7_had_b49
  refine go_blk h.1 (is := [.iload 9, .bipush 9]) (pc' := 53) (ls' := [some (.inr (.inr (30, 0))), some (.inl x1), o2, o3, o4, o5, o6, some (.inl x7), some (.inl s.1), some (.inl s.2.1)]) (st' := [.inl (9 : Int32), .inl s.2.1]) (m' := s.2.2) (by decide +kernel) rfl ?_
  refine go_icmpgt h.1 (off := 37) 90 (by decide +kernel) (by decide) (fun c53 => ?_) (fun c53 => ?_)
  · exact hx s.1 s.2.2 (o2) (o3) (o4) (o5) (o6) (some (.inl s.2.1))
  · refine go_blk h.1 (is := [.aload_n 0, .getfield 25, .iload_n 1, .iload 9]) (pc' := 63) (ls' := [some (.inr (.inr (30, 0))), some (.inl x1), o2, o3, o4, o5, o6, some (.inl x7), some (.inl s.1), some (.inl s.2.1)]) (st' := [.inl s.2.1, .inl x1, .inr (.inr (36, 0))]) (m' := s.2.2) (by decide +kernel) rfl ?_
    refine go_iast h.1 (by decide +kernel) rfl rfl (fun b63 => ?_)
    refine go_blk h.1 (is := [.iload 8, .aload_n 0]) (pc' := 67) (ls' := [some (.inr (.inr (30, 0))), some (.inl x1), o2, o3, o4, o5, o6, some (.inl x7), some (.inl s.1), some (.inl s.2.1)]) (st' := [.inr (.inr (30, 0)), .inl s.1]) (m' := (mset s.2.2 36 0 (ix x1) s.2.1)) (by decide +kernel) rfl ?_
    refine go_callV h.1 (index := 223) (n := 0) (t := 30) (i := 0) (ci := 7) (nf := 35) (cz := (RX7, TX7, 35)) (as := []) (rest := [.inl s.1]) (ctr_X7_areSo (xl X) (xA X) (xC X) (xI X) (xk X) (mset s.2.2 36 0 (ix x1) s.2.1)) (by decide +kernel) rfl rfl wd_v_X7_223 rfl (h.room (by first | decide | omega) (by decide)) h.cl (Nat.le_of_ble_eq_true rfl) puI_ok rfl (fun r67 m67 _ => ?_)
    show Go X (Em X puI) 70 [some (.inr (.inr (30, 0))), some (.inl x1), o2, o3, o4, o5, o6, some (.inl x7), some (.inl s.1), some (.inl s.2.1)] [.inl r67, .inl s.1] m67 _
    refine go_ifeq h.1 (off := 10) 80 (by decide +kernel) (by decide) (fun c70 => ?_) (fun c70 => ?_)
    · refine go_blk h.1 (is := [.iconst 0]) (pc' := 81) (ls' := [some (.inr (.inr (30, 0))), some (.inl x1), o2, o3, o4, o5, o6, some (.inl x7), some (.inl s.1), some (.inl s.2.1)]) (st' := [.inl (0 : Int32), .inl s.1]) (m' := m67) (by decide +kernel) rfl ?_
      exact g_X7_had_j81 h next exit (0 : Int32) s.1 x1 x7 s.2.1 m67 (o2) (o3) (o4) (o5) (o6) (some (.inl s.1)) hn hx
    · refine go_blk h.1 (is := [.iconst 1, .iload 9, .ishl]) (pc' := 77) (ls' := [some (.inr (.inr (30, 0))), some (.inl x1), o2, o3, o4, o5, o6, some (.inl x7), some (.inl s.1), some (.inl s.2.1)]) (st' := [.inl ((1 : Int32) <<< (s.2.1 &&& 31)), .inl s.1]) (m' := m67) (by decide +kernel) rfl ?_
      refine go_goto h.1 (off := 4) 81 (by decide +kernel) (by decide) ?_
      exact g_X7_had_j81 h next exit ((1 : Int32) <<< (s.2.1 &&& 31)) s.1 x1 x7 s.2.1 m67 (o2) (o3) (o4) (o5) (o6) (some (.inl s.1)) hn hx

def f_X7_had (x1 : Int32) (x2 : Int32) (x3 : Int32) (x4 : Int32) (x5 : Int32) (m : Mem) : Option (Int32 × Mem) :=
  bnd (f_X7_isFish x1 (mset m 30 0 0 (0 : Int32))) (fun r7 m7 =>
    if r7 = 0 then
      some ((-1 : Int32), m7)
    else
      bnd (f_X7_lay x2 x3 x4 x5 m7) (fun r22 m22 =>
        if r22 = 0 then
          if inB x1 5 = true then
            lpk (f_X7_had_b49 x1 (m22 36 0 (ix x1))) fuelN ((0 : Int32), (0 : Int32), m22) (fun t49 =>
              if inB x1 5 = true then
                some (t49.1, (mset t49.2 36 0 (ix x1) (m22 36 0 (ix x1))))
              else none)
          else none
        else
          some (r22, m22)))
theorem g_X7_had {X : XT} (h : MX X prog_9_method_50_code P_X7 6 (some .int)) (x1 : Int32) (x2 : Int32) (x3 : Int32) (x4 : Int32) (x5 : Int32) (m : Mem) : Go X (Em X puI) 0 [some (.inr (.inr (30, 0))), some (.inl x1), some (.inl x2), some (.inl x3), some (.inl x4), some (.inl x5), none, none, none, none] [] m (f_X7_had x1 x2 x3 x4 x5 m) := by
  unfold f_X7_had
  refine go_blk h.1 (is := [.aload_n 0, .iconst 0, .putfield 64, .aload_n 0, .iload_n 1]) (pc' := 7) (ls' := [some (.inr (.inr (30, 0))), some (.inl x1), some (.inl x2), some (.inl x3), some (.inl x4), some (.inl x5), none, none, none, none]) (st' := [.inl x1, .inr (.inr (30, 0))]) (m' := (mset m 30 0 0 (0 : Int32))) (by decide +kernel) rfl ?_
  refine go_callV h.1 (index := 128) (n := 1) (t := 30) (i := 0) (ci := 7) (nf := 35) (cz := (RX7, TX7, 35)) (as := [.inl x1]) (rest := []) (ctr_X7_isFish (xl X) (xA X) (xC X) (xI X) (xk X) x1 (mset m 30 0 0 (0 : Int32))) (by decide +kernel) rfl rfl wd_v_X7_128 rfl (h.room (by first | decide | omega) (by decide)) h.cl (Nat.le_of_ble_eq_true rfl) puI_ok rfl (fun r7 m7 _ => ?_)
  show Go X (Em X puI) 10 [some (.inr (.inr (30, 0))), some (.inl x1), some (.inl x2), some (.inl x3), some (.inl x4), some (.inl x5), none, none, none, none] [.inl r7] m7 _
  refine go_ifne h.1 (off := 5) 15 (by decide +kernel) (by decide) (fun c10 => ?_) (fun c10 => ?_)
  · refine go_blk h.1 (is := [.aload_n 0, .iload_n 2, .iload_n 3, .iload 4, .iload 5]) (pc' := 22) (ls' := [some (.inr (.inr (30, 0))), some (.inl x1), some (.inl x2), some (.inl x3), some (.inl x4), some (.inl x5), none, none, none, none]) (st' := [.inl x5, .inl x4, .inl x3, .inl x2, .inr (.inr (30, 0))]) (m' := m7) (by decide +kernel) rfl ?_
    refine go_callV h.1 (index := 220) (n := 4) (t := 30) (i := 0) (ci := 7) (nf := 35) (cz := (RX7, TX7, 35)) (as := [.inl x2, .inl x3, .inl x4, .inl x5]) (rest := []) (ctr_X7_lay (xl X) (xA X) (xC X) (xI X) (xk X) x2 x3 x4 x5 m7) (by decide +kernel) rfl rfl wd_v_X7_220 rfl (h.room (by first | decide | omega) (by decide)) h.cl (Nat.le_of_ble_eq_true rfl) puI_ok rfl (fun r22 m22 _ => ?_)
    show Go X (Em X puI) 25 [some (.inr (.inr (30, 0))), some (.inl x1), some (.inl x2), some (.inl x3), some (.inl x4), some (.inl x5), none, none, none, none] [.inl r22] m22 _
    refine go_blk h.1 (is := [.istore 6, .iload 6]) (pc' := 29) (ls' := [some (.inr (.inr (30, 0))), some (.inl x1), some (.inl x2), some (.inl x3), some (.inl x4), some (.inl x5), some (.inl r22), none, none, none]) (st' := [.inl r22]) (m' := m22) (by decide +kernel) rfl ?_
    refine go_ifeq h.1 (off := 6) 35 (by decide +kernel) (by decide) (fun c29 => ?_) (fun c29 => ?_)
    · refine go_blk h.1 (is := [.aload_n 0, .getfield 25, .iload_n 1]) (pc' := 40) (ls' := [some (.inr (.inr (30, 0))), some (.inl x1), some (.inl x2), some (.inl x3), some (.inl x4), some (.inl x5), some (.inl r22), none, none, none]) (st' := [.inl x1, .inr (.inr (36, 0))]) (m' := m22) (by decide +kernel) rfl ?_
      refine go_iald h.1 (by decide +kernel) rfl rfl (fun b40 => ?_)
      show Go X (Em X puI) 41 [some (.inr (.inr (30, 0))), some (.inl x1), some (.inl x2), some (.inl x3), some (.inl x4), some (.inl x5), some (.inl r22), none, none, none] [.inl (m22 36 0 (ix x1))] m22 _
      refine go_blk h.1 (is := [.istore 7, .iconst 0, .istore 8, .iconst 0, .istore 9]) (pc' := 49) (ls' := [some (.inr (.inr (30, 0))), some (.inl x1), some (.inl x2), some (.inl x3), some (.inl x4), some (.inl x5), some (.inl r22), some (.inl (m22 36 0 (ix x1))), some (.inl (0 : Int32)), some (.inl (0 : Int32))]) (st' := []) (m' := m22) (by decide +kernel) rfl ?_
      refine go_lp2 (hd := fun (y8 : Int32) (y9 : Int32) (n : Mem) o => ∀ (o2 : Option AV) (o3 : Option AV) (o4 : Option AV) (o5 : Option AV) (o6 : Option AV), Go X (Em X puI) 49 [some (.inr (.inr (30, 0))), some (.inl x1), o2, o3, o4, o5, o6, some (.inl (m22 36 0 (ix x1))), some (.inl y8), some (.inl y9)] [] n o) (fun _ _ _ _ _ _ _ _ => go_none) (fun y8 y9 n nx_ hn_ => g_X7_had_b49 h x1 (m22 36 0 (ix x1)) nx_ _ hn_ (fun z8_49 z_49 o2_49 o3_49 o4_49 o5_49 o6_49 o9_49 => ?_) (y8, y9, n)) fuelN (0 : Int32) (0 : Int32) m22 (some (.inl x2)) (some (.inl x3)) (some (.inl x4)) (some (.inl x5)) (some (.inl r22))
      refine go_blk h.1 (is := [.aload_n 0, .getfield 25, .iload_n 1, .iload 7]) (pc' := 97) (ls' := [some (.inr (.inr (30, 0))), some (.inl x1), o2_49, o3_49, o4_49, o5_49, o6_49, some (.inl (m22 36 0 (ix x1))), some (.inl z8_49), o9_49]) (st' := [.inl (m22 36 0 (ix x1)), .inl x1, .inr (.inr (36, 0))]) (m' := z_49) (by decide +kernel) rfl ?_
      refine go_iast h.1 (by decide +kernel) rfl rfl (fun b97 => ?_)
      refine go_blk h.1 (is := [.iload 8]) (pc' := 100) (ls' := [some (.inr (.inr (30, 0))), some (.inl x1), o2_49, o3_49, o4_49, o5_49, o6_49, some (.inl (m22 36 0 (ix x1))), some (.inl z8_49), o9_49]) (st' := [.inl z8_49]) (m' := (mset z_49 36 0 (ix x1) (m22 36 0 (ix x1)))) (by decide +kernel) rfl ?_
      exact go_iret h.1 h.2.2.2.2 (by decide +kernel)
    · refine go_blk h.1 (is := [.iload 6]) (pc' := 34) (ls' := [some (.inr (.inr (30, 0))), some (.inl x1), some (.inl x2), some (.inl x3), some (.inl x4), some (.inl x5), some (.inl r22), none, none, none]) (st' := [.inl r22]) (m' := m22) (by decide +kernel) rfl ?_
      exact go_iret h.1 h.2.2.2.2 (by decide +kernel)
  · refine go_blk h.1 (is := [.iconst (-1)]) (pc' := 14) (ls' := [some (.inr (.inr (30, 0))), some (.inl x1), some (.inl x2), some (.inl x3), some (.inl x4), some (.inl x5), none, none, none, none]) (st' := [.inl (-1 : Int32)]) (m' := m7) (by decide +kernel) rfl ?_
    exact go_iret h.1 h.2.2.2.2 (by decide +kernel)
theorem ctr_X7_had (l : Launch) (A : AR → Nat) (dC : Nat → ClassId) (dI : Nat → Nat → Nat) (cs : Nat → ClassId) (x1 : Int32) (x2 : Int32) (x3 : Int32) (x4 : Int32) (x5 : Int32) (m : Mem) : Ctr l A dC dI cs yX7_had prog_9_method_50_code 10 (some .int) 6 puI [.inr (.inr (30, 0)), .inl x1, .inl x2, .inl x3, .inl x4, .inl x5] m (f_X7_had x1 x2 x3 x4 x5 m) :=
  ctr_of (P := P_X7) (by decide +kernel) rfl pt_X7 rfl rfl (fun X hC _ _ _ _ _ hR h0 h1 hr => g_X7_had ⟨hC, hR, h0, h1, hr⟩ x1 x2 x3 x4 x5 m)

