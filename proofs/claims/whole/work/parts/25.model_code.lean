/-! ===== printed by wip/whole/tr.py out of the listing ===== -/
def f_X7_dears_j66 (next : Int32 × Int32 × Mem → Option (Int32 × Mem)) (exit : Int32 × Mem → Option (Int32 × Mem)) (s0 : Int32) (s1 : Int32) (x6 : Int32) (x8 : Int32) (m : Mem) : Option (Int32 × Mem) :=
  next ((s1 ||| s0), (x8 + (1 : Int32)), m)
theorem g_X7_dears_j66 {X : XT} (h : MX X prog_9_method_51_code P_X7 6 (some .int)) (next : Int32 × Int32 × Mem → Option (Int32 × Mem)) (exit : Int32 × Mem → Option (Int32 × Mem)) (s0 : Int32) (s1 : Int32) (x6 : Int32) (x8 : Int32) (m : Mem) (o1 : Option AV) (o2 : Option AV) (o3 : Option AV) (o4 : Option AV) (o5 : Option AV) (o7 : Option AV) (hn : ∀ (y7 : Int32) (y8 : Int32) (n : Mem) (o1 : Option AV) (o2 : Option AV) (o3 : Option AV) (o4 : Option AV) (o5 : Option AV), Go X (Em X puI) 36 [some (.inr (.inr (30, 0))), o1, o2, o3, o4, o5, some (.inl x6), some (.inl y7), some (.inl y8)] [] n (next (y7, y8, n))) (hx : ∀ (y7 : Int32) (n : Mem) (o1 : Option AV) (o2 : Option AV) (o3 : Option AV) (o4 : Option AV) (o5 : Option AV) (o8 : Option AV), Go X (Em X puI) 75 [some (.inr (.inr (30, 0))), o1, o2, o3, o4, o5, some (.inl x6), some (.inl y7), o8] [] n (exit (y7, n))) : Go X (Em X puI) 66 [some (.inr (.inr (30, 0))), o1, o2, o3, o4, o5, some (.inl x6), o7, some (.inl x8)] [.inl s0, .inl s1] m (f_X7_dears_j66 next exit s0 s1 x6 x8 m) := by
  unfold f_X7_dears_j66
  refine go_blk h.1 (is := [.ior, .istore 7, .iinc 8 1]) (pc' := 72) (ls' := [some (.inr (.inr (30, 0))), o1, o2, o3, o4, o5, some (.inl x6), some (.inl (s1 ||| s0)), some (.inl (x8 + (1 : Int32)))]) (st' := []) (m' := m) (by decide +kernel) rfl ?_
  refine go_goto h.1 (off := -36) 36 (by decide +kernel) (by decide) ?_
  exact hn (s1 ||| s0) (x8 + (1 : Int32)) m (o1) (o2) (o3) (o4) (o5)

def f_X7_dears_b36 (x6 : Int32) (next : Int32 × Int32 × Mem → Option (Int32 × Mem)) (exit : Int32 × Mem → Option (Int32 × Mem)) (s : Int32 × Int32 × Mem) : Option (Int32 × Mem) :=
  if (9 : Int32) < s.2.1 then
    exit (s.1, s.2.2)
  else
    bnd (f_X7_areSo (mset s.2.2 30 0 6 s.2.1)) (fun r52 m52 =>
      if r52 = 0 then
        f_X7_dears_j66 next exit (0 : Int32) s.1 x6 s.2.1 m52
      else
        f_X7_dears_j66 next exit ((1 : Int32) <<< (s.2.1 &&& 31)) s.1 x6 s.2.1 m52)
theorem g_X7_dears_b36 {X : XT} (h : MX X prog_9_method_51_code P_X7 6 (some .int)) (x6 : Int32) (next : Int32 × Int32 × Mem → Option (Int32 × Mem)) (exit : Int32 × Mem → Option (Int32 × Mem)) (hn : ∀ (y7 : Int32) (y8 : Int32) (n : Mem) (o1 : Option AV) (o2 : Option AV) (o3 : Option AV) (o4 : Option AV) (o5 : Option AV), Go X (Em X puI) 36 [some (.inr (.inr (30, 0))), o1, o2, o3, o4, o5, some (.inl x6), some (.inl y7), some (.inl y8)] [] n (next (y7, y8, n))) (hx : ∀ (y7 : Int32) (n : Mem) (o1 : Option AV) (o2 : Option AV) (o3 : Option AV) (o4 : Option AV) (o5 : Option AV) (o8 : Option AV), Go X (Em X puI) 75 [some (.inr (.inr (30, 0))), o1, o2, o3, o4, o5, some (.inl x6), some (.inl y7), o8] [] n (exit (y7, n))) (s : Int32 × Int32 × Mem) (o1 : Option AV) (o2 : Option AV) (o3 : Option AV) (o4 : Option AV) (o5 : Option AV) : Go X (Em X puI) 36 [some (.inr (.inr (30, 0))), o1, o2, o3, o4, o5, some (.inl x6), some (.inl s.1), some (.inl s.2.1)] [] s.2.2 (f_X7_dears_b36 x6 next exit s) := by
  unfold f_X7_dears_b36
  refine go_blk h.1 (is := [.iload 8, .bipush 9]) (pc' := 40) (ls' := [some (.inr (.inr (30, 0))), o1, o2, o3, o4, o5, some (.inl x6), some (.inl s.1), some (.inl s.2.1)]) (st' := [.inl (9 : Int32), .inl s.2.1]) (m' := s.2.2) (by decide +kernel) rfl ?_
  refine go_icmpgt h.1 (off := 35) 75 (by decide +kernel) (by decide) (fun c40 => ?_) (fun c40 => ?_)
  · exact hx s.1 s.2.2 (o1) (o2) (o3) (o4) (o5) (some (.inl s.2.1))
  · refine go_blk h.1 (is := [.aload_n 0, .iload 8, .putfield 105, .iload 7, .aload_n 0]) (pc' := 52) (ls' := [some (.inr (.inr (30, 0))), o1, o2, o3, o4, o5, some (.inl x6), some (.inl s.1), some (.inl s.2.1)]) (st' := [.inr (.inr (30, 0)), .inl s.1]) (m' := (mset s.2.2 30 0 6 s.2.1)) (by decide +kernel) rfl ?_
    refine go_callV h.1 (index := 223) (n := 0) (t := 30) (i := 0) (ci := 7) (nf := 35) (cz := (RX7, TX7, 35)) (as := []) (rest := [.inl s.1]) (ctr_X7_areSo (xl X) (xA X) (xC X) (xI X) (xk X) (mset s.2.2 30 0 6 s.2.1)) (by decide +kernel) rfl rfl wd_v_X7_223 rfl (h.room (by first | decide | omega) (by decide)) h.cl (Nat.le_of_ble_eq_true rfl) puI_ok rfl (fun r52 m52 _ => ?_)
    show Go X (Em X puI) 55 [some (.inr (.inr (30, 0))), o1, o2, o3, o4, o5, some (.inl x6), some (.inl s.1), some (.inl s.2.1)] [.inl r52, .inl s.1] m52 _
    refine go_ifeq h.1 (off := 10) 65 (by decide +kernel) (by decide) (fun c55 => ?_) (fun c55 => ?_)
    · refine go_blk h.1 (is := [.iconst 0]) (pc' := 66) (ls' := [some (.inr (.inr (30, 0))), o1, o2, o3, o4, o5, some (.inl x6), some (.inl s.1), some (.inl s.2.1)]) (st' := [.inl (0 : Int32), .inl s.1]) (m' := m52) (by decide +kernel) rfl ?_
      exact g_X7_dears_j66 h next exit (0 : Int32) s.1 x6 s.2.1 m52 (o1) (o2) (o3) (o4) (o5) (some (.inl s.1)) hn hx
    · refine go_blk h.1 (is := [.iconst 1, .iload 8, .ishl]) (pc' := 62) (ls' := [some (.inr (.inr (30, 0))), o1, o2, o3, o4, o5, some (.inl x6), some (.inl s.1), some (.inl s.2.1)]) (st' := [.inl ((1 : Int32) <<< (s.2.1 &&& 31)), .inl s.1]) (m' := m52) (by decide +kernel) rfl ?_
      refine go_goto h.1 (off := 4) 66 (by decide +kernel) (by decide) ?_
      exact g_X7_dears_j66 h next exit ((1 : Int32) <<< (s.2.1 &&& 31)) s.1 x6 s.2.1 m52 (o1) (o2) (o3) (o4) (o5) (some (.inl s.1)) hn hx

def f_X7_dears (x1 : Int32) (x2 : Int32) (x3 : Int32) (x4 : Int32) (m : Mem) : Option (Int32 × Mem) :=
  bnd (f_X7_lay x1 x2 x3 x4 (mset m 30 0 0 (0 : Int32))) (fun r11 m11 =>
    if r11 = 0 then
      lpk (f_X7_dears_b36 (m11 30 0 6)) fuelN ((0 : Int32), (0 : Int32), m11) (fun t36 =>
        some (t36.1, (mset t36.2 30 0 6 (m11 30 0 6))))
    else
      some (r11, m11))
theorem g_X7_dears {X : XT} (h : MX X prog_9_method_51_code P_X7 6 (some .int)) (x1 : Int32) (x2 : Int32) (x3 : Int32) (x4 : Int32) (m : Mem) : Go X (Em X puI) 0 [some (.inr (.inr (30, 0))), some (.inl x1), some (.inl x2), some (.inl x3), some (.inl x4), none, none, none, none] [] m (f_X7_dears x1 x2 x3 x4 m) := by
  unfold f_X7_dears
  refine go_blk h.1 (is := [.aload_n 0, .iconst 0, .putfield 64, .aload_n 0, .iload_n 1, .iload_n 2, .iload_n 3, .iload 4]) (pc' := 11) (ls' := [some (.inr (.inr (30, 0))), some (.inl x1), some (.inl x2), some (.inl x3), some (.inl x4), none, none, none, none]) (st' := [.inl x4, .inl x3, .inl x2, .inl x1, .inr (.inr (30, 0))]) (m' := (mset m 30 0 0 (0 : Int32))) (by decide +kernel) rfl ?_
  refine go_callV h.1 (index := 220) (n := 4) (t := 30) (i := 0) (ci := 7) (nf := 35) (cz := (RX7, TX7, 35)) (as := [.inl x1, .inl x2, .inl x3, .inl x4]) (rest := []) (ctr_X7_lay (xl X) (xA X) (xC X) (xI X) (xk X) x1 x2 x3 x4 (mset m 30 0 0 (0 : Int32))) (by decide +kernel) rfl rfl wd_v_X7_220 rfl (h.room (by first | decide | omega) (by decide)) h.cl (Nat.le_of_ble_eq_true rfl) puI_ok rfl (fun r11 m11 _ => ?_)
  show Go X (Em X puI) 14 [some (.inr (.inr (30, 0))), some (.inl x1), some (.inl x2), some (.inl x3), some (.inl x4), none, none, none, none] [.inl r11] m11 _
  refine go_blk h.1 (is := [.istore 5, .iload 5]) (pc' := 18) (ls' := [some (.inr (.inr (30, 0))), some (.inl x1), some (.inl x2), some (.inl x3), some (.inl x4), some (.inl r11), none, none, none]) (st' := [.inl r11]) (m' := m11) (by decide +kernel) rfl ?_
  refine go_ifeq h.1 (off := 6) 24 (by decide +kernel) (by decide) (fun c18 => ?_) (fun c18 => ?_)
  · refine go_blk h.1 (is := [.aload_n 0, .getfield 105, .istore 6, .iconst 0, .istore 7, .iconst 0, .istore 8]) (pc' := 36) (ls' := [some (.inr (.inr (30, 0))), some (.inl x1), some (.inl x2), some (.inl x3), some (.inl x4), some (.inl r11), some (.inl (m11 30 0 6)), some (.inl (0 : Int32)), some (.inl (0 : Int32))]) (st' := []) (m' := m11) (by decide +kernel) rfl ?_
    refine go_lp2 (hd := fun (y7 : Int32) (y8 : Int32) (n : Mem) o => ∀ (o1 : Option AV) (o2 : Option AV) (o3 : Option AV) (o4 : Option AV) (o5 : Option AV), Go X (Em X puI) 36 [some (.inr (.inr (30, 0))), o1, o2, o3, o4, o5, some (.inl (m11 30 0 6)), some (.inl y7), some (.inl y8)] [] n o) (fun _ _ _ _ _ _ _ _ => go_none) (fun y7 y8 n nx_ hn_ => g_X7_dears_b36 h (m11 30 0 6) nx_ _ hn_ (fun z7_36 z_36 o1_36 o2_36 o3_36 o4_36 o5_36 o8_36 => ?_) (y7, y8, n)) fuelN (0 : Int32) (0 : Int32) m11 (some (.inl x1)) (some (.inl x2)) (some (.inl x3)) (some (.inl x4)) (some (.inl r11))
    refine go_blk h.1 (is := [.aload_n 0, .iload 6, .putfield 105, .iload 7]) (pc' := 83) (ls' := [some (.inr (.inr (30, 0))), o1_36, o2_36, o3_36, o4_36, o5_36, some (.inl (m11 30 0 6)), some (.inl z7_36), o8_36]) (st' := [.inl z7_36]) (m' := (mset z_36 30 0 6 (m11 30 0 6))) (by decide +kernel) rfl ?_
    exact go_iret h.1 h.2.2.2.2 (by decide +kernel)
  · refine go_blk h.1 (is := [.iload 5]) (pc' := 23) (ls' := [some (.inr (.inr (30, 0))), some (.inl x1), some (.inl x2), some (.inl x3), some (.inl x4), some (.inl r11), none, none, none]) (st' := [.inl r11]) (m' := m11) (by decide +kernel) rfl ?_
    exact go_iret h.1 h.2.2.2.2 (by decide +kernel)
theorem ctr_X7_dears (l : Launch) (A : AR → Nat) (dC : Nat → ClassId) (dI : Nat → Nat → Nat) (cs : Nat → ClassId) (x1 : Int32) (x2 : Int32) (x3 : Int32) (x4 : Int32) (m : Mem) : Ctr l A dC dI cs yX7_dears prog_9_method_51_code 9 (some .int) 6 puI [.inr (.inr (30, 0)), .inl x1, .inl x2, .inl x3, .inl x4] m (f_X7_dears x1 x2 x3 x4 m) :=
  ctr_of (P := P_X7) (by decide +kernel) rfl pt_X7 rfl rfl (fun X hC _ _ _ _ _ hR h0 h1 hr => g_X7_dears ⟨hC, hR, h0, h1, hr⟩ x1 x2 x3 x4 m)

def f_X7_kinds_j80 (next : Int32 × Int32 × Mem → Option (Int32 × Mem)) (exit : Int32 × Mem → Option (Int32 × Mem)) (s0 : Int32) (s1 : Int32) (x1 : Int32) (x7 : Int32) (x9 : Int32) (m : Mem) : Option (Int32 × Mem) :=
  next ((s1 ||| s0), (x9 + (1 : Int32)), m)
theorem g_X7_kinds_j80 {X : XT} (h : MX X prog_9_method_52_code P_X7 6 (some .int)) (next : Int32 × Int32 × Mem → Option (Int32 × Mem)) (exit : Int32 × Mem → Option (Int32 × Mem)) (s0 : Int32) (s1 : Int32) (x1 : Int32) (x7 : Int32) (x9 : Int32) (m : Mem) (o2 : Option AV) (o3 : Option AV) (o4 : Option AV) (o5 : Option AV) (o6 : Option AV) (o8 : Option AV) (hn : ∀ (y8 : Int32) (y9 : Int32) (n : Mem) (o2 : Option AV) (o3 : Option AV) (o4 : Option AV) (o5 : Option AV) (o6 : Option AV), Go X (Em X puI) 49 [some (.inr (.inr (30, 0))), some (.inl x1), o2, o3, o4, o5, o6, some (.inl x7), some (.inl y8), some (.inl y9)] [] n (next (y8, y9, n))) (hx : ∀ (y8 : Int32) (n : Mem) (o2 : Option AV) (o3 : Option AV) (o4 : Option AV) (o5 : Option AV) (o6 : Option AV) (o9 : Option AV), Go X (Em X puI) 89 [some (.inr (.inr (30, 0))), some (.inl x1), o2, o3, o4, o5, o6, some (.inl x7), some (.inl y8), o9] [] n (exit (y8, n))) : Go X (Em X puI) 80 [some (.inr (.inr (30, 0))), some (.inl x1), o2, o3, o4, o5, o6, some (.inl x7), o8, some (.inl x9)] [.inl s0, .inl s1] m (f_X7_kinds_j80 next exit s0 s1 x1 x7 x9 m) := by
  unfold f_X7_kinds_j80
  refine go_blk h.1 (is := [.ior, .istore 8, .iinc 9 1]) (pc' := 86) (ls' := [some (.inr (.inr (30, 0))), some (.inl x1), o2, o3, o4, o5, o6, some (.inl x7), some (.inl (s1 ||| s0)), some (.inl (x9 + (1 : Int32)))]) (st' := []) (m' := m) (by decide +kernel) rfl ?_
  refine go_goto h.1 (off := -37) 49 (by decide +kernel) (by decide) ?_
  exact hn (s1 ||| s0) (x9 + (1 : Int32)) m (o2) (o3) (o4) (o5) (o6)

def f_X7_kinds_b49 (x1 : Int32) (x7 : Int32) (next : Int32 × Int32 × Mem → Option (Int32 × Mem)) (exit : Int32 × Mem → Option (Int32 × Mem)) (s : Int32 × Int32 × Mem) : Option (Int32 × Mem) :=
  if (3 : Int32) ≤ s.2.1 then
    exit (s.1, s.2.2)
  else
    if inB x1 5 = true then
      bnd (f_X7_areSo (mset s.2.2 34 0 (ix x1) s.2.1)) (fun r66 m66 =>
        if r66 = 0 then
          f_X7_kinds_j80 next exit (0 : Int32) s.1 x1 x7 s.2.1 m66
        else
          f_X7_kinds_j80 next exit ((1 : Int32) <<< (s.2.1 &&& 31)) s.1 x1 x7 s.2.1 m66)
    else none
theorem g_X7_kinds_b49 {X : XT} (h : MX X prog_9_method_52_code P_X7 6 (some .int)) (x1 : Int32) (x7 : Int32) (next : Int32 × Int32 × Mem → Option (Int32 × Mem)) (exit : Int32 × Mem → Option (Int32 × Mem)) (hn : ∀ (y8 : Int32) (y9 : Int32) (n : Mem) (o2 : Option AV) (o3 : Option AV) (o4 : Option AV) (o5 : Option AV) (o6 : Option AV), Go X (Em X puI) 49 [some (.inr (.inr (30, 0))), some (.inl x1), o2, o3, o4, o5, o6, some (.inl x7), some (.inl y8), some (.inl y9)] [] n (next (y8, y9, n))) (hx : ∀ (y8 : Int32) (n : Mem) (o2 : Option AV) (o3 : Option AV) (o4 : Option AV) (o5 : Option AV) (o6 : Option AV) (o9 : Option AV), Go X (Em X puI) 89 [some (.inr (.inr (30, 0))), some (.inl x1), o2, o3, o4, o5, o6, some (.inl x7), some (.inl y8), o9] [] n (exit (y8, n))) (s : Int32 × Int32 × Mem) (o2 : Option AV) (o3 : Option AV) (o4 : Option AV) (o5 : Option AV) (o6 : Option AV) : Go X (Em X puI) 49 [some (.inr (.inr (30, 0))), some (.inl x1), o2, o3, o4, o5, o6, some (.inl x7), some (.inl s.1), some (.inl s.2.1)] [] s.2.2 (f_X7_kinds_b49 x1 x7 next exit s) := by
  unfold f_X7_kinds_b49
  refine go_blk h.1 (is := [.iload 9, .iconst 3]) (pc' := 52) (ls' := [some (.inr (.inr (30, 0))), some (.inl x1), o2, o3, o4, o5, o6, some (.inl x7), some (.inl s.1), some (.inl s.2.1)]) (st' := [.inl (3 : Int32), .inl s.2.1]) (m' := s.2.2) (by decide +kernel) rfl ?_
  refine go_icmpge h.1 (off := 37) 89 (by decide +kernel) (by decide) (fun c52 => ?_) (fun c52 => ?_)
  · exact hx s.1 s.2.2 (o2) (o3) (o4) (o5) (o6) (some (.inl s.2.1))
  · refine go_blk h.1 (is := [.aload_n 0, .getfield 19, .iload_n 1, .iload 9]) (pc' := 62) (ls' := [some (.inr (.inr (30, 0))), some (.inl x1), o2, o3, o4, o5, o6, some (.inl x7), some (.inl s.1), some (.inl s.2.1)]) (st' := [.inl s.2.1, .inl x1, .inr (.inr (34, 0))]) (m' := s.2.2) (by decide +kernel) rfl ?_
    refine go_iast h.1 (by decide +kernel) rfl rfl (fun b62 => ?_)
    refine go_blk h.1 (is := [.iload 8, .aload_n 0]) (pc' := 66) (ls' := [some (.inr (.inr (30, 0))), some (.inl x1), o2, o3, o4, o5, o6, some (.inl x7), some (.inl s.1), some (.inl s.2.1)]) (st' := [.inr (.inr (30, 0)), .inl s.1]) (m' := (mset s.2.2 34 0 (ix x1) s.2.1)) (by decide +kernel) rfl ?_
    refine go_callV h.1 (index := 223) (n := 0) (t := 30) (i := 0) (ci := 7) (nf := 35) (cz := (RX7, TX7, 35)) (as := []) (rest := [.inl s.1]) (ctr_X7_areSo (xl X) (xA X) (xC X) (xI X) (xk X) (mset s.2.2 34 0 (ix x1) s.2.1)) (by decide +kernel) rfl rfl wd_v_X7_223 rfl (h.room (by first | decide | omega) (by decide)) h.cl (Nat.le_of_ble_eq_true rfl) puI_ok rfl (fun r66 m66 _ => ?_)
    show Go X (Em X puI) 69 [some (.inr (.inr (30, 0))), some (.inl x1), o2, o3, o4, o5, o6, some (.inl x7), some (.inl s.1), some (.inl s.2.1)] [.inl r66, .inl s.1] m66 _
    refine go_ifeq h.1 (off := 10) 79 (by decide +kernel) (by decide) (fun c69 => ?_) (fun c69 => ?_)
    · refine go_blk h.1 (is := [.iconst 0]) (pc' := 80) (ls' := [some (.inr (.inr (30, 0))), some (.inl x1), o2, o3, o4, o5, o6, some (.inl x7), some (.inl s.1), some (.inl s.2.1)]) (st' := [.inl (0 : Int32), .inl s.1]) (m' := m66) (by decide +kernel) rfl ?_
      exact g_X7_kinds_j80 h next exit (0 : Int32) s.1 x1 x7 s.2.1 m66 (o2) (o3) (o4) (o5) (o6) (some (.inl s.1)) hn hx
    · refine go_blk h.1 (is := [.iconst 1, .iload 9, .ishl]) (pc' := 76) (ls' := [some (.inr (.inr (30, 0))), some (.inl x1), o2, o3, o4, o5, o6, some (.inl x7), some (.inl s.1), some (.inl s.2.1)]) (st' := [.inl ((1 : Int32) <<< (s.2.1 &&& 31)), .inl s.1]) (m' := m66) (by decide +kernel) rfl ?_
      refine go_goto h.1 (off := 4) 80 (by decide +kernel) (by decide) ?_
      exact g_X7_kinds_j80 h next exit ((1 : Int32) <<< (s.2.1 &&& 31)) s.1 x1 x7 s.2.1 m66 (o2) (o3) (o4) (o5) (o6) (some (.inl s.1)) hn hx

def f_X7_kinds (x1 : Int32) (x2 : Int32) (x3 : Int32) (x4 : Int32) (x5 : Int32) (m : Mem) : Option (Int32 × Mem) :=
  bnd (f_X7_isFish x1 (mset m 30 0 0 (0 : Int32))) (fun r7 m7 =>
    if r7 = 0 then
      some ((-1 : Int32), m7)
    else
      bnd (f_X7_lay x2 x3 x4 x5 m7) (fun r22 m22 =>
        if r22 = 0 then
          if inB x1 5 = true then
            lpk (f_X7_kinds_b49 x1 (m22 34 0 (ix x1))) fuelN ((0 : Int32), (0 : Int32), m22) (fun t49 =>
              if inB x1 5 = true then
                some (t49.1, (mset t49.2 34 0 (ix x1) (m22 34 0 (ix x1))))
              else none)
          else none
        else
          some (r22, m22)))
theorem g_X7_kinds {X : XT} (h : MX X prog_9_method_52_code P_X7 6 (some .int)) (x1 : Int32) (x2 : Int32) (x3 : Int32) (x4 : Int32) (x5 : Int32) (m : Mem) : Go X (Em X puI) 0 [some (.inr (.inr (30, 0))), some (.inl x1), some (.inl x2), some (.inl x3), some (.inl x4), some (.inl x5), none, none, none, none] [] m (f_X7_kinds x1 x2 x3 x4 x5 m) := by
  unfold f_X7_kinds
  refine go_blk h.1 (is := [.aload_n 0, .iconst 0, .putfield 64, .aload_n 0, .iload_n 1]) (pc' := 7) (ls' := [some (.inr (.inr (30, 0))), some (.inl x1), some (.inl x2), some (.inl x3), some (.inl x4), some (.inl x5), none, none, none, none]) (st' := [.inl x1, .inr (.inr (30, 0))]) (m' := (mset m 30 0 0 (0 : Int32))) (by decide +kernel) rfl ?_
  refine go_callV h.1 (index := 128) (n := 1) (t := 30) (i := 0) (ci := 7) (nf := 35) (cz := (RX7, TX7, 35)) (as := [.inl x1]) (rest := []) (ctr_X7_isFish (xl X) (xA X) (xC X) (xI X) (xk X) x1 (mset m 30 0 0 (0 : Int32))) (by decide +kernel) rfl rfl wd_v_X7_128 rfl (h.room (by first | decide | omega) (by decide)) h.cl (Nat.le_of_ble_eq_true rfl) puI_ok rfl (fun r7 m7 _ => ?_)
  show Go X (Em X puI) 10 [some (.inr (.inr (30, 0))), some (.inl x1), some (.inl x2), some (.inl x3), some (.inl x4), some (.inl x5), none, none, none, none] [.inl r7] m7 _
  refine go_ifne h.1 (off := 5) 15 (by decide +kernel) (by decide) (fun c10 => ?_) (fun c10 => ?_)
  · refine go_blk h.1 (is := [.aload_n 0, .iload_n 2, .iload_n 3, .iload 4, .iload 5]) (pc' := 22) (ls' := [some (.inr (.inr (30, 0))), some (.inl x1), some (.inl x2), some (.inl x3), some (.inl x4), some (.inl x5), none, none, none, none]) (st' := [.inl x5, .inl x4, .inl x3, .inl x2, .inr (.inr (30, 0))]) (m' := m7) (by decide +kernel) rfl ?_
    refine go_callV h.1 (index := 220) (n := 4) (t := 30) (i := 0) (ci := 7) (nf := 35) (cz := (RX7, TX7, 35)) (as := [.inl x2, .inl x3, .inl x4, .inl x5]) (rest := []) (ctr_X7_lay (xl X) (xA X) (xC X) (xI X) (xk X) x2 x3 x4 x5 m7) (by decide +kernel) rfl rfl wd_v_X7_220 rfl (h.room (by first | decide | omega) (by decide)) h.cl (Nat.le_of_ble_eq_true rfl) puI_ok rfl (fun r22 m22 _ => ?_)
    show Go X (Em X puI) 25 [some (.inr (.inr (30, 0))), some (.inl x1), some (.inl x2), some (.inl x3), some (.inl x4), some (.inl x5), none, none, none, none] [.inl r22] m22 _
    refine go_blk h.1 (is := [.istore 6, .iload 6]) (pc' := 29) (ls' := [some (.inr (.inr (30, 0))), some (.inl x1), some (.inl x2), some (.inl x3), some (.inl x4), some (.inl x5), some (.inl r22), none, none, none]) (st' := [.inl r22]) (m' := m22) (by decide +kernel) rfl ?_
    refine go_ifeq h.1 (off := 6) 35 (by decide +kernel) (by decide) (fun c29 => ?_) (fun c29 => ?_)
    · refine go_blk h.1 (is := [.aload_n 0, .getfield 19, .iload_n 1]) (pc' := 40) (ls' := [some (.inr (.inr (30, 0))), some (.inl x1), some (.inl x2), some (.inl x3), some (.inl x4), some (.inl x5), some (.inl r22), none, none, none]) (st' := [.inl x1, .inr (.inr (34, 0))]) (m' := m22) (by decide +kernel) rfl ?_
      refine go_iald h.1 (by decide +kernel) rfl rfl (fun b40 => ?_)
      show Go X (Em X puI) 41 [some (.inr (.inr (30, 0))), some (.inl x1), some (.inl x2), some (.inl x3), some (.inl x4), some (.inl x5), some (.inl r22), none, none, none] [.inl (m22 34 0 (ix x1))] m22 _
      refine go_blk h.1 (is := [.istore 7, .iconst 0, .istore 8, .iconst 0, .istore 9]) (pc' := 49) (ls' := [some (.inr (.inr (30, 0))), some (.inl x1), some (.inl x2), some (.inl x3), some (.inl x4), some (.inl x5), some (.inl r22), some (.inl (m22 34 0 (ix x1))), some (.inl (0 : Int32)), some (.inl (0 : Int32))]) (st' := []) (m' := m22) (by decide +kernel) rfl ?_
      refine go_lp2 (hd := fun (y8 : Int32) (y9 : Int32) (n : Mem) o => ∀ (o2 : Option AV) (o3 : Option AV) (o4 : Option AV) (o5 : Option AV) (o6 : Option AV), Go X (Em X puI) 49 [some (.inr (.inr (30, 0))), some (.inl x1), o2, o3, o4, o5, o6, some (.inl (m22 34 0 (ix x1))), some (.inl y8), some (.inl y9)] [] n o) (fun _ _ _ _ _ _ _ _ => go_none) (fun y8 y9 n nx_ hn_ => g_X7_kinds_b49 h x1 (m22 34 0 (ix x1)) nx_ _ hn_ (fun z8_49 z_49 o2_49 o3_49 o4_49 o5_49 o6_49 o9_49 => ?_) (y8, y9, n)) fuelN (0 : Int32) (0 : Int32) m22 (some (.inl x2)) (some (.inl x3)) (some (.inl x4)) (some (.inl x5)) (some (.inl r22))
      refine go_blk h.1 (is := [.aload_n 0, .getfield 19, .iload_n 1, .iload 7]) (pc' := 96) (ls' := [some (.inr (.inr (30, 0))), some (.inl x1), o2_49, o3_49, o4_49, o5_49, o6_49, some (.inl (m22 34 0 (ix x1))), some (.inl z8_49), o9_49]) (st' := [.inl (m22 34 0 (ix x1)), .inl x1, .inr (.inr (34, 0))]) (m' := z_49) (by decide +kernel) rfl ?_
      refine go_iast h.1 (by decide +kernel) rfl rfl (fun b96 => ?_)
      refine go_blk h.1 (is := [.iload 8]) (pc' := 99) (ls' := [some (.inr (.inr (30, 0))), some (.inl x1), o2_49, o3_49, o4_49, o5_49, o6_49, some (.inl (m22 34 0 (ix x1))), some (.inl z8_49), o9_49]) (st' := [.inl z8_49]) (m' := (mset z_49 34 0 (ix x1) (m22 34 0 (ix x1)))) (by decide +kernel) rfl ?_
      exact go_iret h.1 h.2.2.2.2 (by decide +kernel)
    · refine go_blk h.1 (is := [.iload 6]) (pc' := 34) (ls' := [some (.inr (.inr (30, 0))), some (.inl x1), some (.inl x2), some (.inl x3), some (.inl x4), some (.inl x5), some (.inl r22), none, none, none]) (st' := [.inl r22]) (m' := m22) (by decide +kernel) rfl ?_
      exact go_iret h.1 h.2.2.2.2 (by decide +kernel)
  · refine go_blk h.1 (is := [.iconst (-1)]) (pc' := 14) (ls' := [some (.inr (.inr (30, 0))), some (.inl x1), some (.inl x2), some (.inl x3), some (.inl x4), some (.inl x5), none, none, none, none]) (st' := [.inl (-1 : Int32)]) (m' := m7) (by decide +kernel) rfl ?_
    exact go_iret h.1 h.2.2.2.2 (by decide +kernel)
theorem ctr_X7_kinds (l : Launch) (A : AR → Nat) (dC : Nat → ClassId) (dI : Nat → Nat → Nat) (cs : Nat → ClassId) (x1 : Int32) (x2 : Int32) (x3 : Int32) (x4 : Int32) (x5 : Int32) (m : Mem) : Ctr l A dC dI cs yX7_kinds prog_9_method_52_code 10 (some .int) 6 puI [.inr (.inr (30, 0)), .inl x1, .inl x2, .inl x3, .inl x4, .inl x5] m (f_X7_kinds x1 x2 x3 x4 x5 m) :=
  ctr_of (P := P_X7) (by decide +kernel) rfl pt_X7 rfl rfl (fun X hC _ _ _ _ _ hR h0 h1 hr => g_X7_kinds ⟨hC, hR, h0, h1, hr⟩ x1 x2 x3 x4 x5 m)

def f_X7_inLeastTerms_b6 (x0 : Int64) (x2 : Int64) (x4 : Int32) (next : Int64 × Int64 × Mem → Option (Int64 × Mem)) (exit : Int64 × Mem → Option (Int64 × Mem)) (s : Int64 × Int64 × Mem) : Option (Int64 × Mem) :=
  if (lg_cmp s.2.1 (0 : Int64)) = 0 then
    exit (s.1, s.2.2)
  else
    if ¬ s.2.1 = 0 then dv (s.1 - s.1 / s.2.1 * s.2.1) (fun q17 =>
      next (s.2.1, q17, s.2.2))
    else none
theorem g_X7_inLeastTerms_b6 {X : XT} (h : MX X prog_9_method_53_code P_X7 0 (some .long)) (x0 : Int64) (x2 : Int64) (x4 : Int32) (next : Int64 × Int64 × Mem → Option (Int64 × Mem)) (exit : Int64 × Mem → Option (Int64 × Mem)) (hn : ∀ (y5 : Int64) (y7 : Int64) (n : Mem) (o9 : Option AV) (o10 : Option AV), Go X (Em X puL) 6 [some (.inr (.inl x0)), none, some (.inr (.inl x2)), none, some (.inl x4), some (.inr (.inl y5)), none, some (.inr (.inl y7)), none, o9, o10] [] n (next (y5, y7, n))) (hx : ∀ (y5 : Int64) (n : Mem) (o7 : Option AV) (o8 : Option AV) (o9 : Option AV) (o10 : Option AV), Go X (Em X puL) 31 [some (.inr (.inl x0)), none, some (.inr (.inl x2)), none, some (.inl x4), some (.inr (.inl y5)), none, o7, o8, o9, o10] [] n (exit (y5, n))) (s : Int64 × Int64 × Mem) (o9 : Option AV) (o10 : Option AV) : Go X (Em X puL) 6 [some (.inr (.inl x0)), none, some (.inr (.inl x2)), none, some (.inl x4), some (.inr (.inl s.1)), none, some (.inr (.inl s.2.1)), none, o9, o10] [] s.2.2 (f_X7_inLeastTerms_b6 x0 x2 x4 next exit s) := by
  unfold f_X7_inLeastTerms_b6
  refine go_blk h.1 (is := [.lload 7, .lconst 0, .lcmp]) (pc' := 10) (ls' := [some (.inr (.inl x0)), none, some (.inr (.inl x2)), none, some (.inl x4), some (.inr (.inl s.1)), none, some (.inr (.inl s.2.1)), none, o9, o10]) (st' := [.inl (lg_cmp s.2.1 (0 : Int64))]) (m' := s.2.2) (by decide +kernel) rfl ?_
  refine go_ifeq h.1 (off := 21) 31 (by decide +kernel) (by decide) (fun c10 => ?_) (fun c10 => ?_)
  · exact hx s.1 s.2.2 (some (.inr (.inl s.2.1))) (none) (o9) (o10)
  · refine go_blk h.1 (is := [.lload 5, .lload 7]) (pc' := 17) (ls' := [some (.inr (.inl x0)), none, some (.inr (.inl x2)), none, some (.inl x4), some (.inr (.inl s.1)), none, some (.inr (.inl s.2.1)), none, o9, o10]) (st' := [.inr (.inl s.2.1), .inr (.inl s.1)]) (m' := s.2.2) (by decide +kernel) rfl ?_
    refine go_lrem h.1 (by decide +kernel) (fun z17 q17 _ => ?_)
    refine go_blk h.1 (is := [.lstore 9, .lload 7, .lstore 5, .lload 9, .lstore 7]) (pc' := 28) (ls' := [some (.inr (.inl x0)), none, some (.inr (.inl x2)), none, some (.inl x4), some (.inr (.inl s.2.1)), none, some (.inr (.inl q17)), none, some (.inr (.inl q17)), none]) (st' := []) (m' := s.2.2) (by decide +kernel) rfl ?_
    refine go_goto h.1 (off := -22) 6 (by decide +kernel) (by decide) ?_
    exact hn s.2.1 q17 s.2.2 (some (.inr (.inl q17))) (none)

def f_X7_inLeastTerms (x0 : Int64) (x2 : Int64) (x4 : Int32) (m : Mem) : Option (Int64 × Mem) :=
  lpk (f_X7_inLeastTerms_b6 x0 x2 x4) fuelN (x0, x2, m) (fun t6 =>
    if x4 = 0 then
      if ¬ t6.1 = 0 then dv (x0 / t6.1) (fun q39 =>
        some (q39, t6.2))
      else none
    else
      if ¬ t6.1 = 0 then dv (x2 / t6.1) (fun q46 =>
        some (q46, t6.2))
      else none)
theorem g_X7_inLeastTerms {X : XT} (h : MX X prog_9_method_53_code P_X7 0 (some .long)) (x0 : Int64) (x2 : Int64) (x4 : Int32) (m : Mem) : Go X (Em X puL) 0 [some (.inr (.inl x0)), none, some (.inr (.inl x2)), none, some (.inl x4), none, none, none, none, none, none] [] m (f_X7_inLeastTerms x0 x2 x4 m) := by
  unfold f_X7_inLeastTerms
  refine go_blk h.1 (is := [.lload_n 0, .lstore 5, .lload_n 2, .lstore 7]) (pc' := 6) (ls' := [some (.inr (.inl x0)), none, some (.inr (.inl x2)), none, some (.inl x4), some (.inr (.inl x0)), none, some (.inr (.inl x2)), none, none, none]) (st' := []) (m' := m) (by decide +kernel) rfl ?_
  refine go_lp2 (hd := fun (y5 : Int64) (y7 : Int64) (n : Mem) o => ∀ (o9 : Option AV) (o10 : Option AV), Go X (Em X puL) 6 [some (.inr (.inl x0)), none, some (.inr (.inl x2)), none, some (.inl x4), some (.inr (.inl y5)), none, some (.inr (.inl y7)), none, o9, o10] [] n o) (fun _ _ _ _ _ => go_none) (fun y5 y7 n nx_ hn_ => g_X7_inLeastTerms_b6 h x0 x2 x4 nx_ _ hn_ (fun z5_6 z_6 o7_6 o8_6 o9_6 o10_6 => ?_) (y5, y7, n)) fuelN x0 x2 m (none) (none)
  refine go_blk h.1 (is := [.iload 4]) (pc' := 33) (ls' := [some (.inr (.inl x0)), none, some (.inr (.inl x2)), none, some (.inl x4), some (.inr (.inl z5_6)), none, o7_6, o8_6, o9_6, o10_6]) (st' := [.inl x4]) (m' := z_6) (by decide +kernel) rfl ?_
  refine go_ifne h.1 (off := 10) 43 (by decide +kernel) (by decide) (fun c33 => ?_) (fun c33 => ?_)
  · refine go_blk h.1 (is := [.lload_n 2, .lload 5]) (pc' := 46) (ls' := [some (.inr (.inl x0)), none, some (.inr (.inl x2)), none, some (.inl x4), some (.inr (.inl z5_6)), none, o7_6, o8_6, o9_6, o10_6]) (st' := [.inr (.inl z5_6), .inr (.inl x2)]) (m' := z_6) (by decide +kernel) rfl ?_
    refine go_ldiv h.1 (by decide +kernel) (fun z46 q46 _ => ?_)
    exact go_lret h.1 h.2.2.2.2 (by decide +kernel)
  · refine go_blk h.1 (is := [.lload_n 0, .lload 5]) (pc' := 39) (ls' := [some (.inr (.inl x0)), none, some (.inr (.inl x2)), none, some (.inl x4), some (.inr (.inl z5_6)), none, o7_6, o8_6, o9_6, o10_6]) (st' := [.inr (.inl z5_6), .inr (.inl x0)]) (m' := z_6) (by decide +kernel) rfl ?_
    refine go_ldiv h.1 (by decide +kernel) (fun z39 q39 _ => ?_)
    refine go_goto h.1 (off := 7) 47 (by decide +kernel) (by decide) ?_
    exact go_lret h.1 h.2.2.2.2 (by decide +kernel)
theorem ctr_X7_inLeastTerms (l : Launch) (A : AR → Nat) (dC : Nat → ClassId) (dI : Nat → Nat → Nat) (cs : Nat → ClassId) (x0 : Int64) (x2 : Int64) (x4 : Int32) (m : Mem) : Ctr l A dC dI cs yX7_inLeastTerms prog_9_method_53_code 11 (some .long) 0 puL [.inr (.inl x0), .inr (.inl x2), .inl x4] m (f_X7_inLeastTerms x0 x2 x4 m) :=
  ctr_of (P := P_X7) (by decide +kernel) rfl pt_X7 rfl rfl (fun X hC _ _ _ _ _ hR h0 h1 hr => g_X7_inLeastTerms ⟨hC, hR, h0, h1, hr⟩ x0 x2 x4 m)

def f_X7_odds_j92 (next : Int32 × Int32 × Mem → Option (Int64 × Mem)) (exit : Int32 × Mem → Option (Int64 × Mem)) (s0 : Int32) (s1 : Int32) (x5 : Int32) (x6 : Int32) (x8 : Int32) (m : Mem) : Option (Int64 × Mem) :=
  next ((s1 + s0), (x8 + (1 : Int32)), m)
theorem g_X7_odds_j92 {X : XT} (h : MX X prog_9_method_54_code P_X7 5 (some .long)) (next : Int32 × Int32 × Mem → Option (Int64 × Mem)) (exit : Int32 × Mem → Option (Int64 × Mem)) (s0 : Int32) (s1 : Int32) (x5 : Int32) (x6 : Int32) (x8 : Int32) (m : Mem) (o1 : Option AV) (o2 : Option AV) (o3 : Option AV) (o4 : Option AV) (o7 : Option AV) (hn : ∀ (y7 : Int32) (y8 : Int32) (n : Mem) (o1 : Option AV) (o2 : Option AV) (o3 : Option AV) (o4 : Option AV), Go X (Em X puL) 63 [some (.inr (.inr (30, 0))), o1, o2, o3, o4, some (.inl x5), some (.inl x6), some (.inl y7), some (.inl y8)] [] n (next (y7, y8, n))) (hx : ∀ (y7 : Int32) (n : Mem) (o1 : Option AV) (o2 : Option AV) (o3 : Option AV) (o4 : Option AV) (o8 : Option AV), Go X (Em X puL) 101 [some (.inr (.inr (30, 0))), o1, o2, o3, o4, some (.inl x5), some (.inl x6), some (.inl y7), o8] [] n (exit (y7, n))) : Go X (Em X puL) 92 [some (.inr (.inr (30, 0))), o1, o2, o3, o4, some (.inl x5), some (.inl x6), o7, some (.inl x8)] [.inl s0, .inl s1] m (f_X7_odds_j92 next exit s0 s1 x5 x6 x8 m) := by
  unfold f_X7_odds_j92
  refine go_blk h.1 (is := [.iadd, .istore 7, .iinc 8 1]) (pc' := 98) (ls' := [some (.inr (.inr (30, 0))), o1, o2, o3, o4, some (.inl x5), some (.inl x6), some (.inl (s1 + s0)), some (.inl (x8 + (1 : Int32)))]) (st' := []) (m' := m) (by decide +kernel) rfl ?_
  refine go_goto h.1 (off := -35) 63 (by decide +kernel) (by decide) ?_
  exact hn (s1 + s0) (x8 + (1 : Int32)) m (o1) (o2) (o3) (o4)

def f_X7_odds_b63 (x5 : Int32) (x6 : Int32) (next : Int32 × Int32 × Mem → Option (Int64 × Mem)) (exit : Int32 × Mem → Option (Int64 × Mem)) (s : Int32 × Int32 × Mem) : Option (Int64 × Mem) :=
  if (64 : Int32) ≤ s.2.1 then
    exit (s.1, s.2.2)
  else
    bnd (f_X7_go (mset s.2.2 30 0 8 s.2.1)) (fun r79 m79 =>
      if r79 = (-9 : Int32) then
        f_X7_odds_j92 next exit (1 : Int32) s.1 x5 x6 s.2.1 m79
      else
        f_X7_odds_j92 next exit (0 : Int32) s.1 x5 x6 s.2.1 m79)
theorem g_X7_odds_b63 {X : XT} (h : MX X prog_9_method_54_code P_X7 5 (some .long)) (x5 : Int32) (x6 : Int32) (next : Int32 × Int32 × Mem → Option (Int64 × Mem)) (exit : Int32 × Mem → Option (Int64 × Mem)) (hn : ∀ (y7 : Int32) (y8 : Int32) (n : Mem) (o1 : Option AV) (o2 : Option AV) (o3 : Option AV) (o4 : Option AV), Go X (Em X puL) 63 [some (.inr (.inr (30, 0))), o1, o2, o3, o4, some (.inl x5), some (.inl x6), some (.inl y7), some (.inl y8)] [] n (next (y7, y8, n))) (hx : ∀ (y7 : Int32) (n : Mem) (o1 : Option AV) (o2 : Option AV) (o3 : Option AV) (o4 : Option AV) (o8 : Option AV), Go X (Em X puL) 101 [some (.inr (.inr (30, 0))), o1, o2, o3, o4, some (.inl x5), some (.inl x6), some (.inl y7), o8] [] n (exit (y7, n))) (s : Int32 × Int32 × Mem) (o1 : Option AV) (o2 : Option AV) (o3 : Option AV) (o4 : Option AV) : Go X (Em X puL) 63 [some (.inr (.inr (30, 0))), o1, o2, o3, o4, some (.inl x5), some (.inl x6), some (.inl s.1), some (.inl s.2.1)] [] s.2.2 (f_X7_odds_b63 x5 x6 next exit s) := by
  unfold f_X7_odds_b63
  refine go_blk h.1 (is := [.iload 8, .bipush 64]) (pc' := 67) (ls' := [some (.inr (.inr (30, 0))), o1, o2, o3, o4, some (.inl x5), some (.inl x6), some (.inl s.1), some (.inl s.2.1)]) (st' := [.inl (64 : Int32), .inl s.2.1]) (m' := s.2.2) (by decide +kernel) rfl ?_
  refine go_icmpge h.1 (off := 34) 101 (by decide +kernel) (by decide) (fun c67 => ?_) (fun c67 => ?_)
  · exact hx s.1 s.2.2 (o1) (o2) (o3) (o4) (some (.inl s.2.1))
  · refine go_blk h.1 (is := [.aload_n 0, .iload 8, .putfield 111, .iload 7, .aload_n 0]) (pc' := 79) (ls' := [some (.inr (.inr (30, 0))), o1, o2, o3, o4, some (.inl x5), some (.inl x6), some (.inl s.1), some (.inl s.2.1)]) (st' := [.inr (.inr (30, 0)), .inl s.1]) (m' := (mset s.2.2 30 0 8 s.2.1)) (by decide +kernel) rfl ?_
    refine go_callV h.1 (index := 180) (n := 0) (t := 30) (i := 0) (ci := 7) (nf := 35) (cz := (RX7, TX7, 35)) (as := []) (rest := [.inl s.1]) (ctr_X7_go (xl X) (xA X) (xC X) (xI X) (xk X) (mset s.2.2 30 0 8 s.2.1)) (by decide +kernel) rfl rfl wd_v_X7_180 rfl (h.room (by first | decide | omega) (by decide)) h.cl (Nat.le_of_ble_eq_true rfl) puI_ok rfl (fun r79 m79 _ => ?_)
    show Go X (Em X puL) 82 [some (.inr (.inr (30, 0))), o1, o2, o3, o4, some (.inl x5), some (.inl x6), some (.inl s.1), some (.inl s.2.1)] [.inl r79, .inl s.1] m79 _
    refine go_blk h.1 (is := [.bipush (-9)]) (pc' := 84) (ls' := [some (.inr (.inr (30, 0))), o1, o2, o3, o4, some (.inl x5), some (.inl x6), some (.inl s.1), some (.inl s.2.1)]) (st' := [.inl (-9 : Int32), .inl r79, .inl s.1]) (m' := m79) (by decide +kernel) rfl ?_
    refine go_icmpne h.1 (off := 7) 91 (by decide +kernel) (by decide) (fun c84 => ?_) (fun c84 => ?_)
    · refine go_blk h.1 (is := [.iconst 0]) (pc' := 92) (ls' := [some (.inr (.inr (30, 0))), o1, o2, o3, o4, some (.inl x5), some (.inl x6), some (.inl s.1), some (.inl s.2.1)]) (st' := [.inl (0 : Int32), .inl s.1]) (m' := m79) (by decide +kernel) rfl ?_
      exact g_X7_odds_j92 h next exit (0 : Int32) s.1 x5 x6 s.2.1 m79 (o1) (o2) (o3) (o4) (some (.inl s.1)) hn hx
    · refine go_blk h.1 (is := [.iconst 1]) (pc' := 88) (ls' := [some (.inr (.inr (30, 0))), o1, o2, o3, o4, some (.inl x5), some (.inl x6), some (.inl s.1), some (.inl s.2.1)]) (st' := [.inl (1 : Int32), .inl s.1]) (m' := m79) (by decide +kernel) rfl ?_
      refine go_goto h.1 (off := 4) 92 (by decide +kernel) (by decide) ?_
      exact g_X7_odds_j92 h next exit (1 : Int32) s.1 x5 x6 s.2.1 m79 (o1) (o2) (o3) (o4) (some (.inl s.1)) hn hx

def f_X7_odds (x1 : Int32) (x2 : Int32) (x3 : Int32) (x4 : Int32) (x5 : Int32) (m : Mem) : Option (Int64 × Mem) :=
  bnd (f_X7_isSheet x1 (mset m 30 0 0 (0 : Int32))) (fun r6 m6 =>
    if r6 = 0 then
      some ((-9223372036854775808 : Int64), m6)
    else
      bnd (f_X7_arePairs x2 x4 m6) (fun r15 m15 =>
        if r15 = 0 then
          some ((-9223372036854775808 : Int64), m15)
        else
          bnd (f_X7_within x5 (0 : Int32) (1 : Int32) m15) (fun r25 m25 =>
            if r25 = 0 then
              some ((-9223372036854775808 : Int64), m25)
            else
              bnd (f_X7_layPasses x1 x2 x3 x4 m25) (fun r41 m41 =>
                if r41 = 0 then
                  lpk (f_X7_odds_b63 x5 (m41 30 0 8)) fuelN ((0 : Int32), (0 : Int32), m41) (fun t63 =>
                    bnd (f_X7_inLeastTerms t63.1.toInt64 (64 : Int64) x5 (mset t63.2 30 0 8 (m41 30 0 8))) (fun r115 m115 =>
                      some (r115, m115)))
                else
                  some ((-9223372036854775808 : Int64), m41)))))
theorem g_X7_odds {X : XT} (h : MX X prog_9_method_54_code P_X7 5 (some .long)) (x1 : Int32) (x2 : Int32) (x3 : Int32) (x4 : Int32) (x5 : Int32) (m : Mem) : Go X (Em X puL) 0 [some (.inr (.inr (30, 0))), some (.inl x1), some (.inl x2), some (.inl x3), some (.inl x4), some (.inl x5), none, none, none] [] m (f_X7_odds x1 x2 x3 x4 x5 m) := by
  unfold f_X7_odds
  refine go_blk h.1 (is := [.aload_n 0, .iconst 0, .putfield 64, .iload_n 1]) (pc' := 6) (ls' := [some (.inr (.inr (30, 0))), some (.inl x1), some (.inl x2), some (.inl x3), some (.inl x4), some (.inl x5), none, none, none]) (st' := [.inl x1]) (m' := (mset m 30 0 0 (0 : Int32))) (by decide +kernel) rfl ?_
  refine go_callS h.1 (index := 80) (n := 1) (as := [.inl x1]) (rest := []) (ctr_X7_isSheet (xl X) (xA X) (xC X) (xI X) (xk X) x1 (mset m 30 0 0 (0 : Int32))) (by decide +kernel) wd_s_X7_80 rfl (h.room (by first | decide | omega) (by decide)) h.cl (Nat.le_of_ble_eq_true rfl) puI_ok rfl (fun r6 m6 _ => ?_)
  show Go X (Em X puL) 9 [some (.inr (.inr (30, 0))), some (.inl x1), some (.inl x2), some (.inl x3), some (.inl x4), some (.inl x5), none, none, none] [.inl r6] m6 _
  refine go_ifeq h.1 (off := 22) 31 (by decide +kernel) (by decide) (fun c9 => ?_) (fun c9 => ?_)
  · refine go_blk h.1 (is := [.ldc2_w 68]) (pc' := 34) (ls' := [some (.inr (.inr (30, 0))), some (.inl x1), some (.inl x2), some (.inl x3), some (.inl x4), some (.inl x5), none, none, none]) (st' := [.inr (.inl (-9223372036854775808 : Int64))]) (m' := m6) (by decide +kernel) rfl ?_
    exact go_lret h.1 h.2.2.2.2 (by decide +kernel)
  · refine go_blk h.1 (is := [.iload_n 2, .iload 4]) (pc' := 15) (ls' := [some (.inr (.inr (30, 0))), some (.inl x1), some (.inl x2), some (.inl x3), some (.inl x4), some (.inl x5), none, none, none]) (st' := [.inl x4, .inl x2]) (m' := m6) (by decide +kernel) rfl ?_
    refine go_callS h.1 (index := 174) (n := 2) (as := [.inl x2, .inl x4]) (rest := []) (ctr_X7_arePairs (xl X) (xA X) (xC X) (xI X) (xk X) x2 x4 m6) (by decide +kernel) wd_s_X7_174 rfl (h.room (by first | decide | omega) (by decide)) h.cl (Nat.le_of_ble_eq_true rfl) puI_ok rfl (fun r15 m15 _ => ?_)
    show Go X (Em X puL) 18 [some (.inr (.inr (30, 0))), some (.inl x1), some (.inl x2), some (.inl x3), some (.inl x4), some (.inl x5), none, none, none] [.inl r15] m15 _
    refine go_ifeq h.1 (off := 13) 31 (by decide +kernel) (by decide) (fun c18 => ?_) (fun c18 => ?_)
    · refine go_blk h.1 (is := [.ldc2_w 68]) (pc' := 34) (ls' := [some (.inr (.inr (30, 0))), some (.inl x1), some (.inl x2), some (.inl x3), some (.inl x4), some (.inl x5), none, none, none]) (st' := [.inr (.inl (-9223372036854775808 : Int64))]) (m' := m15) (by decide +kernel) rfl ?_
      exact go_lret h.1 h.2.2.2.2 (by decide +kernel)
    · refine go_blk h.1 (is := [.iload 5, .iconst 0, .iconst 1]) (pc' := 25) (ls' := [some (.inr (.inr (30, 0))), some (.inl x1), some (.inl x2), some (.inl x3), some (.inl x4), some (.inl x5), none, none, none]) (st' := [.inl (1 : Int32), .inl (0 : Int32), .inl x5]) (m' := m15) (by decide +kernel) rfl ?_
      refine go_callS h.1 (index := 70) (n := 3) (as := [.inl x5, .inl (0 : Int32), .inl (1 : Int32)]) (rest := []) (ctr_X7_within (xl X) (xA X) (xC X) (xI X) (xk X) x5 (0 : Int32) (1 : Int32) m15) (by decide +kernel) wd_s_X7_70 rfl (h.room (by first | decide | omega) (by decide)) h.cl (Nat.le_of_ble_eq_true rfl) puI_ok rfl (fun r25 m25 _ => ?_)
      show Go X (Em X puL) 28 [some (.inr (.inr (30, 0))), some (.inl x1), some (.inl x2), some (.inl x3), some (.inl x4), some (.inl x5), none, none, none] [.inl r25] m25 _
      refine go_ifne h.1 (off := 7) 35 (by decide +kernel) (by decide) (fun c28 => ?_) (fun c28 => ?_)
      · refine go_blk h.1 (is := [.aload_n 0, .iload_n 1, .iload_n 2, .iload_n 3, .iload 4]) (pc' := 41) (ls' := [some (.inr (.inr (30, 0))), some (.inl x1), some (.inl x2), some (.inl x3), some (.inl x4), some (.inl x5), none, none, none]) (st' := [.inl x4, .inl x3, .inl x2, .inl x1, .inr (.inr (30, 0))]) (m' := m25) (by decide +kernel) rfl ?_
        refine go_callV h.1 (index := 177) (n := 4) (t := 30) (i := 0) (ci := 7) (nf := 35) (cz := (RX7, TX7, 35)) (as := [.inl x1, .inl x2, .inl x3, .inl x4]) (rest := []) (ctr_X7_layPasses (xl X) (xA X) (xC X) (xI X) (xk X) x1 x2 x3 x4 m25) (by decide +kernel) rfl rfl wd_v_X7_177 rfl (h.room (by first | decide | omega) (by decide)) h.cl (Nat.le_of_ble_eq_true rfl) puI_ok rfl (fun r41 m41 _ => ?_)
        show Go X (Em X puL) 44 [some (.inr (.inr (30, 0))), some (.inl x1), some (.inl x2), some (.inl x3), some (.inl x4), some (.inl x5), none, none, none] [.inl r41] m41 _
        refine go_ifeq h.1 (off := 7) 51 (by decide +kernel) (by decide) (fun c44 => ?_) (fun c44 => ?_)
        · refine go_blk h.1 (is := [.aload_n 0, .getfield 111, .istore 6, .iconst 0, .istore 7, .iconst 0, .istore 8]) (pc' := 63) (ls' := [some (.inr (.inr (30, 0))), some (.inl x1), some (.inl x2), some (.inl x3), some (.inl x4), some (.inl x5), some (.inl (m41 30 0 8)), some (.inl (0 : Int32)), some (.inl (0 : Int32))]) (st' := []) (m' := m41) (by decide +kernel) rfl ?_
          refine go_lp2 (hd := fun (y7 : Int32) (y8 : Int32) (n : Mem) o => ∀ (o1 : Option AV) (o2 : Option AV) (o3 : Option AV) (o4 : Option AV), Go X (Em X puL) 63 [some (.inr (.inr (30, 0))), o1, o2, o3, o4, some (.inl x5), some (.inl (m41 30 0 8)), some (.inl y7), some (.inl y8)] [] n o) (fun _ _ _ _ _ _ _ => go_none) (fun y7 y8 n nx_ hn_ => g_X7_odds_b63 h x5 (m41 30 0 8) nx_ _ hn_ (fun z7_63 z_63 o1_63 o2_63 o3_63 o4_63 o8_63 => ?_) (y7, y8, n)) fuelN (0 : Int32) (0 : Int32) m41 (some (.inl x1)) (some (.inl x2)) (some (.inl x3)) (some (.inl x4))
          refine go_blk h.1 (is := [.aload_n 0, .iload 6, .putfield 111, .iload 7, .i2l, .ldc2_w 226, .iload 5]) (pc' := 115) (ls' := [some (.inr (.inr (30, 0))), o1_63, o2_63, o3_63, o4_63, some (.inl x5), some (.inl (m41 30 0 8)), some (.inl z7_63), o8_63]) (st' := [.inl x5, .inr (.inl (64 : Int64)), .inr (.inl z7_63.toInt64)]) (m' := (mset z_63 30 0 8 (m41 30 0 8))) (by decide +kernel) rfl ?_
          refine go_callS h.1 (index := 228) (n := 3) (as := [.inr (.inl z7_63.toInt64), .inr (.inl (64 : Int64)), .inl x5]) (rest := []) (ctr_X7_inLeastTerms (xl X) (xA X) (xC X) (xI X) (xk X) z7_63.toInt64 (64 : Int64) x5 (mset z_63 30 0 8 (m41 30 0 8))) (by decide +kernel) wd_s_X7_228 rfl (h.room (by first | decide | omega) (by decide)) h.cl (Nat.le_of_ble_eq_true rfl) puL_ok rfl (fun r115 m115 _ => ?_)
          show Go X (Em X puL) 118 [some (.inr (.inr (30, 0))), o1_63, o2_63, o3_63, o4_63, some (.inl x5), some (.inl (m41 30 0 8)), some (.inl z7_63), o8_63] [.inr (.inl r115)] m115 _
          exact go_lret h.1 h.2.2.2.2 (by decide +kernel)
        · refine go_blk h.1 (is := [.ldc2_w 68]) (pc' := 50) (ls' := [some (.inr (.inr (30, 0))), some (.inl x1), some (.inl x2), some (.inl x3), some (.inl x4), some (.inl x5), none, none, none]) (st' := [.inr (.inl (-9223372036854775808 : Int64))]) (m' := m41) (by decide +kernel) rfl ?_
          exact go_lret h.1 h.2.2.2.2 (by decide +kernel)
      · refine go_blk h.1 (is := [.ldc2_w 68]) (pc' := 34) (ls' := [some (.inr (.inr (30, 0))), some (.inl x1), some (.inl x2), some (.inl x3), some (.inl x4), some (.inl x5), none, none, none]) (st' := [.inr (.inl (-9223372036854775808 : Int64))]) (m' := m25) (by decide +kernel) rfl ?_
        exact go_lret h.1 h.2.2.2.2 (by decide +kernel)
theorem ctr_X7_odds (l : Launch) (A : AR → Nat) (dC : Nat → ClassId) (dI : Nat → Nat → Nat) (cs : Nat → ClassId) (x1 : Int32) (x2 : Int32) (x3 : Int32) (x4 : Int32) (x5 : Int32) (m : Mem) : Ctr l A dC dI cs yX7_odds prog_9_method_54_code 9 (some .long) 5 puL [.inr (.inr (30, 0)), .inl x1, .inl x2, .inl x3, .inl x4, .inl x5] m (f_X7_odds x1 x2 x3 x4 x5 m) :=
  ctr_of (P := P_X7) (by decide +kernel) rfl pt_X7 rfl rfl (fun X hC _ _ _ _ _ hR h0 h1 hr => g_X7_odds ⟨hC, hR, h0, h1, hr⟩ x1 x2 x3 x4 x5 m)

def f_X7_sheet_b57 (x1 : Int32) (next : Int32 × Mem → Option (Int32 × Mem)) (exit : Mem → Option (Int32 × Mem)) (s : Int32 × Mem) : Option (Int32 × Mem) :=
  if (60 : Int32) ≤ s.1 then
    exit (s.2)
  else
    if inB (((60 : Int32) * x1) + s.1) 240 = true then
      next ((s.1 + (1 : Int32)), (mset s.2 33 0 (ix (((60 : Int32) * x1) + s.1)) (0 : Int32)))
    else none
theorem g_X7_sheet_b57 {X : XT} (h : MX X prog_9_method_55_code P_X7 2 (some .int)) (x1 : Int32) (next : Int32 × Mem → Option (Int32 × Mem)) (exit : Mem → Option (Int32 × Mem)) (hn : ∀ (y4 : Int32) (n : Mem) (o2 : Option AV) (o3 : Option AV), Go X (Em X puI) 57 [some (.inr (.inr (30, 0))), some (.inl x1), o2, o3, some (.inl y4)] [] n (next (y4, n))) (hx : ∀ (n : Mem) (o0 : Option AV) (o1 : Option AV) (o2 : Option AV) (o3 : Option AV) (o4 : Option AV), Go X (Em X puI) 83 [o0, o1, o2, o3, o4] [] n (exit (n))) (s : Int32 × Mem) (o2 : Option AV) (o3 : Option AV) : Go X (Em X puI) 57 [some (.inr (.inr (30, 0))), some (.inl x1), o2, o3, some (.inl s.1)] [] s.2 (f_X7_sheet_b57 x1 next exit s) := by
  unfold f_X7_sheet_b57
  refine go_blk h.1 (is := [.iload 4, .bipush 60]) (pc' := 61) (ls' := [some (.inr (.inr (30, 0))), some (.inl x1), o2, o3, some (.inl s.1)]) (st' := [.inl (60 : Int32), .inl s.1]) (m' := s.2) (by decide +kernel) rfl ?_
  refine go_icmpge h.1 (off := 22) 83 (by decide +kernel) (by decide) (fun c61 => ?_) (fun c61 => ?_)
  · exact hx s.2 (some (.inr (.inr (30, 0)))) (some (.inl x1)) (o2) (o3) (some (.inl s.1))
  · refine go_blk h.1 (is := [.aload_n 0, .getfield 16, .bipush 60, .iload_n 1, .imul, .iload 4, .iadd, .iconst 0]) (pc' := 76) (ls' := [some (.inr (.inr (30, 0))), some (.inl x1), o2, o3, some (.inl s.1)]) (st' := [.inl (0 : Int32), .inl (((60 : Int32) * x1) + s.1), .inr (.inr (33, 0))]) (m' := s.2) (by decide +kernel) rfl ?_
    refine go_iast h.1 (by decide +kernel) rfl rfl (fun b76 => ?_)
    refine go_blk h.1 (is := [.iinc 4 1]) (pc' := 80) (ls' := [some (.inr (.inr (30, 0))), some (.inl x1), o2, (clrL o3), some (.inl (s.1 + (1 : Int32)))]) (st' := []) (m' := (mset s.2 33 0 (ix (((60 : Int32) * x1) + s.1)) (0 : Int32))) (by decide +kernel) rfl ?_
    refine go_goto h.1 (off := -23) 57 (by decide +kernel) (by decide) ?_
    exact hn (s.1 + (1 : Int32)) (mset s.2 33 0 (ix (((60 : Int32) * x1) + s.1)) (0 : Int32)) (o2) ((clrL o3))

def f_X7_sheet (x1 : Int32) (x2 : Int32) (x3 : Int32) (m : Mem) : Option (Int32 × Mem) :=
  bnd (f_X7_isSheet x1 (mset m 30 0 0 (0 : Int32))) (fun r6 m6 =>
    if r6 = 0 then
      some ((-1 : Int32), m6)
    else
      bnd (f_X7_isSort x2 m6) (fun r15 m15 =>
        if r15 = 0 then
          some ((-2 : Int32), m15)
        else
          if x3 ≤ (60 : Int32) then
            if 0 ≤ x3 then
              if inB x1 4 = true then
                if inB x1 4 = true then
                  lpk (f_X7_sheet_b57 x1) fuelN ((0 : Int32), (mset (mset m15 31 0 (ix x1) x2) 32 0 (ix x1) x3)) (fun t57 =>
                    some ((1 : Int32), t57))
                else none
              else none
            else
              bnd (f_X7_fails (4 : Int32) m15) (fun r36 m36 =>
                some (r36, m36))
          else
            some ((-2 : Int32), m15)))
theorem g_X7_sheet {X : XT} (h : MX X prog_9_method_55_code P_X7 2 (some .int)) (x1 : Int32) (x2 : Int32) (x3 : Int32) (m : Mem) : Go X (Em X puI) 0 [some (.inr (.inr (30, 0))), some (.inl x1), some (.inl x2), some (.inl x3), none] [] m (f_X7_sheet x1 x2 x3 m) := by
  unfold f_X7_sheet
  refine go_blk h.1 (is := [.aload_n 0, .iconst 0, .putfield 64, .iload_n 1]) (pc' := 6) (ls' := [some (.inr (.inr (30, 0))), some (.inl x1), some (.inl x2), some (.inl x3), none]) (st' := [.inl x1]) (m' := (mset m 30 0 0 (0 : Int32))) (by decide +kernel) rfl ?_
  refine go_callS h.1 (index := 80) (n := 1) (as := [.inl x1]) (rest := []) (ctr_X7_isSheet (xl X) (xA X) (xC X) (xI X) (xk X) x1 (mset m 30 0 0 (0 : Int32))) (by decide +kernel) wd_s_X7_80 rfl (h.room (by first | decide | omega) (by decide)) h.cl (Nat.le_of_ble_eq_true rfl) puI_ok rfl (fun r6 m6 _ => ?_)
  show Go X (Em X puI) 9 [some (.inr (.inr (30, 0))), some (.inl x1), some (.inl x2), some (.inl x3), none] [.inl r6] m6 _
  refine go_ifne h.1 (off := 5) 14 (by decide +kernel) (by decide) (fun c9 => ?_) (fun c9 => ?_)
  · refine go_blk h.1 (is := [.iload_n 2]) (pc' := 15) (ls' := [some (.inr (.inr (30, 0))), some (.inl x1), some (.inl x2), some (.inl x3), none]) (st' := [.inl x2]) (m' := m6) (by decide +kernel) rfl ?_
    refine go_callS h.1 (index := 84) (n := 1) (as := [.inl x2]) (rest := []) (ctr_X7_isSort (xl X) (xA X) (xC X) (xI X) (xk X) x2 m6) (by decide +kernel) wd_s_X7_84 rfl (h.room (by first | decide | omega) (by decide)) h.cl (Nat.le_of_ble_eq_true rfl) puI_ok rfl (fun r15 m15 _ => ?_)
    show Go X (Em X puI) 18 [some (.inr (.inr (30, 0))), some (.inl x1), some (.inl x2), some (.inl x3), none] [.inl r15] m15 _
    refine go_ifeq h.1 (off := 9) 27 (by decide +kernel) (by decide) (fun c18 => ?_) (fun c18 => ?_)
    · refine go_blk h.1 (is := [.bipush (-2)]) (pc' := 29) (ls' := [some (.inr (.inr (30, 0))), some (.inl x1), some (.inl x2), some (.inl x3), none]) (st' := [.inl (-2 : Int32)]) (m' := m15) (by decide +kernel) rfl ?_
      exact go_iret h.1 h.2.2.2.2 (by decide +kernel)
    · refine go_blk h.1 (is := [.iload_n 3, .bipush 60]) (pc' := 24) (ls' := [some (.inr (.inr (30, 0))), some (.inl x1), some (.inl x2), some (.inl x3), none]) (st' := [.inl (60 : Int32), .inl x3]) (m' := m15) (by decide +kernel) rfl ?_
      refine go_icmple h.1 (off := 6) 30 (by decide +kernel) (by decide) (fun c24 => ?_) (fun c24 => ?_)
      · refine go_blk h.1 (is := [.iload_n 3]) (pc' := 31) (ls' := [some (.inr (.inr (30, 0))), some (.inl x1), some (.inl x2), some (.inl x3), none]) (st' := [.inl x3]) (m' := m15) (by decide +kernel) rfl ?_
        refine go_ifge h.1 (off := 9) 40 (by decide +kernel) (by decide) (fun c31 => ?_) (fun c31 => ?_)
        · refine go_blk h.1 (is := [.aload_n 0, .getfield 9, .iload_n 1, .iload_n 2]) (pc' := 46) (ls' := [some (.inr (.inr (30, 0))), some (.inl x1), some (.inl x2), some (.inl x3), none]) (st' := [.inl x2, .inl x1, .inr (.inr (31, 0))]) (m' := m15) (by decide +kernel) rfl ?_
          refine go_iast h.1 (by decide +kernel) rfl rfl (fun b46 => ?_)
          refine go_blk h.1 (is := [.aload_n 0, .getfield 13, .iload_n 1, .iload_n 3]) (pc' := 53) (ls' := [some (.inr (.inr (30, 0))), some (.inl x1), some (.inl x2), some (.inl x3), none]) (st' := [.inl x3, .inl x1, .inr (.inr (32, 0))]) (m' := (mset m15 31 0 (ix x1) x2)) (by decide +kernel) rfl ?_
          refine go_iast h.1 (by decide +kernel) rfl rfl (fun b53 => ?_)
          refine go_blk h.1 (is := [.iconst 0, .istore 4]) (pc' := 57) (ls' := [some (.inr (.inr (30, 0))), some (.inl x1), some (.inl x2), some (.inl x3), some (.inl (0 : Int32))]) (st' := []) (m' := (mset (mset m15 31 0 (ix x1) x2) 32 0 (ix x1) x3)) (by decide +kernel) rfl ?_
          refine go_lp1 (hd := fun (y4 : Int32) (n : Mem) o => ∀ (o2 : Option AV) (o3 : Option AV), Go X (Em X puI) 57 [some (.inr (.inr (30, 0))), some (.inl x1), o2, o3, some (.inl y4)] [] n o) (fun _ _ _ _ => go_none) (fun y4 n nx_ hn_ => g_X7_sheet_b57 h x1 nx_ _ hn_ (fun z_57 o0_57 o1_57 o2_57 o3_57 o4_57 => ?_) (y4, n)) fuelN (0 : Int32) (mset (mset m15 31 0 (ix x1) x2) 32 0 (ix x1) x3) (some (.inl x2)) (some (.inl x3))
          refine go_blk h.1 (is := [.iconst 1]) (pc' := 84) (ls' := [o0_57, o1_57, o2_57, o3_57, o4_57]) (st' := [.inl (1 : Int32)]) (m' := z_57) (by decide +kernel) rfl ?_
          exact go_iret h.1 h.2.2.2.2 (by decide +kernel)
        · refine go_blk h.1 (is := [.aload_n 0, .iconst 4]) (pc' := 36) (ls' := [some (.inr (.inr (30, 0))), some (.inl x1), some (.inl x2), some (.inl x3), none]) (st' := [.inl (4 : Int32), .inr (.inr (30, 0))]) (m' := m15) (by decide +kernel) rfl ?_
          refine go_callV h.1 (index := 91) (n := 1) (t := 30) (i := 0) (ci := 7) (nf := 35) (cz := (RX7, TX7, 35)) (as := [.inl (4 : Int32)]) (rest := []) (ctr_X7_fails (xl X) (xA X) (xC X) (xI X) (xk X) (4 : Int32) m15) (by decide +kernel) rfl rfl wd_v_X7_91 rfl (h.room (by first | decide | omega) (by decide)) h.cl (Nat.le_of_ble_eq_true rfl) puI_ok rfl (fun r36 m36 _ => ?_)
          show Go X (Em X puI) 39 [some (.inr (.inr (30, 0))), some (.inl x1), some (.inl x2), some (.inl x3), none] [.inl r36] m36 _
          exact go_iret h.1 h.2.2.2.2 (by decide +kernel)
      · refine go_blk h.1 (is := [.bipush (-2)]) (pc' := 29) (ls' := [some (.inr (.inr (30, 0))), some (.inl x1), some (.inl x2), some (.inl x3), none]) (st' := [.inl (-2 : Int32)]) (m' := m15) (by decide +kernel) rfl ?_
        exact go_iret h.1 h.2.2.2.2 (by decide +kernel)
  · refine go_blk h.1 (is := [.iconst (-1)]) (pc' := 13) (ls' := [some (.inr (.inr (30, 0))), some (.inl x1), some (.inl x2), some (.inl x3), none]) (st' := [.inl (-1 : Int32)]) (m' := m6) (by decide +kernel) rfl ?_
    exact go_iret h.1 h.2.2.2.2 (by decide +kernel)
theorem ctr_X7_sheet (l : Launch) (A : AR → Nat) (dC : Nat → ClassId) (dI : Nat → Nat → Nat) (cs : Nat → ClassId) (x1 : Int32) (x2 : Int32) (x3 : Int32) (m : Mem) : Ctr l A dC dI cs yX7_sheet prog_9_method_55_code 5 (some .int) 2 puI [.inr (.inr (30, 0)), .inl x1, .inl x2, .inl x3] m (f_X7_sheet x1 x2 x3 m) :=
  ctr_of (P := P_X7) (by decide +kernel) rfl pt_X7 rfl rfl (fun X hC _ _ _ _ _ hR h0 h1 hr => g_X7_sheet ⟨hC, hR, h0, h1, hr⟩ x1 x2 x3 m)

def f_X7_lose_j25 (s0 : Int32) (x1 : Int32) (m : Mem) : Option (Int32 × Mem) :=
  if inB x1 4 = true then
    some (s0, (mset m 31 0 (ix x1) (-9 : Int32)))
  else none
theorem g_X7_lose_j25 {X : XT} (h : MX X prog_9_method_56_code P_X7 2 (some .int)) (s0 : Int32) (x1 : Int32) (m : Mem) (o2 : Option AV) : Go X (Em X puI) 25 [some (.inr (.inr (30, 0))), some (.inl x1), o2] [.inl s0] m (f_X7_lose_j25 s0 x1 m) := by
  unfold f_X7_lose_j25
  refine go_blk h.1 (is := [.istore_n 2, .aload_n 0, .getfield 9, .iload_n 1, .bipush (-9)]) (pc' := 33) (ls' := [some (.inr (.inr (30, 0))), some (.inl x1), some (.inl s0)]) (st' := [.inl (-9 : Int32), .inl x1, .inr (.inr (31, 0))]) (m' := m) (by decide +kernel) rfl ?_
  refine go_iast h.1 (by decide +kernel) rfl rfl (fun b33 => ?_)
  refine go_blk h.1 (is := [.iload_n 2]) (pc' := 35) (ls' := [some (.inr (.inr (30, 0))), some (.inl x1), some (.inl s0)]) (st' := [.inl s0]) (m' := (mset m 31 0 (ix x1) (-9 : Int32))) (by decide +kernel) rfl ?_
  exact go_iret h.1 h.2.2.2.2 (by decide +kernel)

def f_X7_lose (x1 : Int32) (m : Mem) : Option (Int32 × Mem) :=
  bnd (f_X7_isSheet x1 m) (fun r1 m1 =>
    if r1 = 0 then
      some ((-1 : Int32), m1)
    else
      if inB x1 4 = true then
        if (m1 31 0 (ix x1)) = (-9 : Int32) then
          f_X7_lose_j25 (0 : Int32) x1 m1
        else
          f_X7_lose_j25 (1 : Int32) x1 m1
      else none)
theorem g_X7_lose {X : XT} (h : MX X prog_9_method_56_code P_X7 2 (some .int)) (x1 : Int32) (m : Mem) : Go X (Em X puI) 0 [some (.inr (.inr (30, 0))), some (.inl x1), none] [] m (f_X7_lose x1 m) := by
  unfold f_X7_lose
  refine go_blk h.1 (is := [.iload_n 1]) (pc' := 1) (ls' := [some (.inr (.inr (30, 0))), some (.inl x1), none]) (st' := [.inl x1]) (m' := m) (by decide +kernel) rfl ?_
  refine go_callS h.1 (index := 80) (n := 1) (as := [.inl x1]) (rest := []) (ctr_X7_isSheet (xl X) (xA X) (xC X) (xI X) (xk X) x1 m) (by decide +kernel) wd_s_X7_80 rfl (h.room (by first | decide | omega) (by decide)) h.cl (Nat.le_of_ble_eq_true rfl) puI_ok rfl (fun r1 m1 _ => ?_)
  show Go X (Em X puI) 4 [some (.inr (.inr (30, 0))), some (.inl x1), none] [.inl r1] m1 _
  refine go_ifne h.1 (off := 5) 9 (by decide +kernel) (by decide) (fun c4 => ?_) (fun c4 => ?_)
  · refine go_blk h.1 (is := [.aload_n 0, .getfield 9, .iload_n 1]) (pc' := 14) (ls' := [some (.inr (.inr (30, 0))), some (.inl x1), none]) (st' := [.inl x1, .inr (.inr (31, 0))]) (m' := m1) (by decide +kernel) rfl ?_
    refine go_iald h.1 (by decide +kernel) rfl rfl (fun b14 => ?_)
    show Go X (Em X puI) 15 [some (.inr (.inr (30, 0))), some (.inl x1), none] [.inl (m1 31 0 (ix x1))] m1 _
    refine go_blk h.1 (is := [.bipush (-9)]) (pc' := 17) (ls' := [some (.inr (.inr (30, 0))), some (.inl x1), none]) (st' := [.inl (-9 : Int32), .inl (m1 31 0 (ix x1))]) (m' := m1) (by decide +kernel) rfl ?_
    refine go_icmpne h.1 (off := 7) 24 (by decide +kernel) (by decide) (fun c17 => ?_) (fun c17 => ?_)
    · refine go_blk h.1 (is := [.iconst 1]) (pc' := 25) (ls' := [some (.inr (.inr (30, 0))), some (.inl x1), none]) (st' := [.inl (1 : Int32)]) (m' := m1) (by decide +kernel) rfl ?_
      exact g_X7_lose_j25 h (1 : Int32) x1 m1 (none)
    · refine go_blk h.1 (is := [.iconst 0]) (pc' := 21) (ls' := [some (.inr (.inr (30, 0))), some (.inl x1), none]) (st' := [.inl (0 : Int32)]) (m' := m1) (by decide +kernel) rfl ?_
      refine go_goto h.1 (off := 4) 25 (by decide +kernel) (by decide) ?_
      exact g_X7_lose_j25 h (0 : Int32) x1 m1 (none)
  · refine go_blk h.1 (is := [.iconst (-1)]) (pc' := 8) (ls' := [some (.inr (.inr (30, 0))), some (.inl x1), none]) (st' := [.inl (-1 : Int32)]) (m' := m1) (by decide +kernel) rfl ?_
    exact go_iret h.1 h.2.2.2.2 (by decide +kernel)
theorem ctr_X7_lose (l : Launch) (A : AR → Nat) (dC : Nat → ClassId) (dI : Nat → Nat → Nat) (cs : Nat → ClassId) (x1 : Int32) (m : Mem) : Ctr l A dC dI cs yX7_lose prog_9_method_56_code 3 (some .int) 2 puI [.inr (.inr (30, 0)), .inl x1] m (f_X7_lose x1 m) :=
  ctr_of (P := P_X7) (by decide +kernel) rfl pt_X7 rfl rfl (fun X hC _ _ _ _ _ hR h0 h1 hr => g_X7_lose ⟨hC, hR, h0, h1, hr⟩ x1 m)

def f_X7_put_j93 (s0 : Int32) (s1 : Int32) (m : Mem) : Option (Int32 × Mem) :=
  if inB s1 240 = true then
    some ((1 : Int32), (mset m 33 0 (ix s1) s0))
  else none
theorem g_X7_put_j93 {X : XT} (h : MX X prog_9_method_57_code P_X7 2 (some .int)) (s0 : Int32) (s1 : Int32) (m : Mem) (o0 : Option AV) (o1 : Option AV) (o2 : Option AV) (o3 : Option AV) : Go X (Em X puI) 93 [o0, o1, o2, o3] [.inl s0, .inl s1, .inr (.inr (33, 0))] m (f_X7_put_j93 s0 s1 m) := by
  unfold f_X7_put_j93
  refine go_iast h.1 (by decide +kernel) rfl rfl (fun b93 => ?_)
  refine go_blk h.1 (is := [.iconst 1]) (pc' := 95) (ls' := [o0, o1, o2, o3]) (st' := [.inl (1 : Int32)]) (m' := (mset m 33 0 (ix s1) s0)) (by decide +kernel) rfl ?_
  exact go_iret h.1 h.2.2.2.2 (by decide +kernel)

def f_X7_put (x1 : Int32) (x2 : Int32) (x3 : Int32) (m : Mem) : Option (Int32 × Mem) :=
  bnd (f_X7_isSheet x1 (mset m 30 0 0 (0 : Int32))) (fun r6 m6 =>
    if r6 = 0 then
      some ((-1 : Int32), m6)
    else
      if inB x1 4 = true then
        if (m6 31 0 (ix x1)) = (-9 : Int32) then
          bnd (f_X7_fails (1 : Int32) m6) (fun r27 m27 =>
            some (r27, m27))
        else
          if inB x1 4 = true then
            bnd (f_X7_within x2 (0 : Int32) ((m6 32 0 (ix x1)) - (1 : Int32)) m6) (fun r41 m41 =>
              if r41 = 0 then
                bnd (f_X7_fails (3 : Int32) m41) (fun r49 m49 =>
                  some (r49, m49))
              else
                if inB x1 4 = true then
                  if (m41 31 0 (ix x1)) = 0 then
                    f_X7_put_j93 x3.toInt8.toInt32 (((60 : Int32) * x1) + x2) m41
                  else
                    if inB x1 4 = true then
                      if (m41 31 0 (ix x1)) = (1 : Int32) then
                        f_X7_put_j93 x3.toInt16.toInt32 (((60 : Int32) * x1) + x2) m41
                      else
                        f_X7_put_j93 x3 (((60 : Int32) * x1) + x2) m41
                    else none
                else none)
          else none
      else none)
theorem g_X7_put {X : XT} (h : MX X prog_9_method_57_code P_X7 2 (some .int)) (x1 : Int32) (x2 : Int32) (x3 : Int32) (m : Mem) : Go X (Em X puI) 0 [some (.inr (.inr (30, 0))), some (.inl x1), some (.inl x2), some (.inl x3)] [] m (f_X7_put x1 x2 x3 m) := by
  unfold f_X7_put
  refine go_blk h.1 (is := [.aload_n 0, .iconst 0, .putfield 64, .iload_n 1]) (pc' := 6) (ls' := [some (.inr (.inr (30, 0))), some (.inl x1), some (.inl x2), some (.inl x3)]) (st' := [.inl x1]) (m' := (mset m 30 0 0 (0 : Int32))) (by decide +kernel) rfl ?_
  refine go_callS h.1 (index := 80) (n := 1) (as := [.inl x1]) (rest := []) (ctr_X7_isSheet (xl X) (xA X) (xC X) (xI X) (xk X) x1 (mset m 30 0 0 (0 : Int32))) (by decide +kernel) wd_s_X7_80 rfl (h.room (by first | decide | omega) (by decide)) h.cl (Nat.le_of_ble_eq_true rfl) puI_ok rfl (fun r6 m6 _ => ?_)
  show Go X (Em X puI) 9 [some (.inr (.inr (30, 0))), some (.inl x1), some (.inl x2), some (.inl x3)] [.inl r6] m6 _
  refine go_ifne h.1 (off := 5) 14 (by decide +kernel) (by decide) (fun c9 => ?_) (fun c9 => ?_)
  · refine go_blk h.1 (is := [.aload_n 0, .getfield 9, .iload_n 1]) (pc' := 19) (ls' := [some (.inr (.inr (30, 0))), some (.inl x1), some (.inl x2), some (.inl x3)]) (st' := [.inl x1, .inr (.inr (31, 0))]) (m' := m6) (by decide +kernel) rfl ?_
    refine go_iald h.1 (by decide +kernel) rfl rfl (fun b19 => ?_)
    show Go X (Em X puI) 20 [some (.inr (.inr (30, 0))), some (.inl x1), some (.inl x2), some (.inl x3)] [.inl (m6 31 0 (ix x1))] m6 _
    refine go_blk h.1 (is := [.bipush (-9)]) (pc' := 22) (ls' := [some (.inr (.inr (30, 0))), some (.inl x1), some (.inl x2), some (.inl x3)]) (st' := [.inl (-9 : Int32), .inl (m6 31 0 (ix x1))]) (m' := m6) (by decide +kernel) rfl ?_
    refine go_icmpne h.1 (off := 9) 31 (by decide +kernel) (by decide) (fun c22 => ?_) (fun c22 => ?_)
    · refine go_blk h.1 (is := [.iload_n 2, .iconst 0, .aload_n 0, .getfield 13, .iload_n 1]) (pc' := 38) (ls' := [some (.inr (.inr (30, 0))), some (.inl x1), some (.inl x2), some (.inl x3)]) (st' := [.inl x1, .inr (.inr (32, 0)), .inl (0 : Int32), .inl x2]) (m' := m6) (by decide +kernel) rfl ?_
      refine go_iald h.1 (by decide +kernel) rfl rfl (fun b38 => ?_)
      show Go X (Em X puI) 39 [some (.inr (.inr (30, 0))), some (.inl x1), some (.inl x2), some (.inl x3)] [.inl (m6 32 0 (ix x1)), .inl (0 : Int32), .inl x2] m6 _
      refine go_blk h.1 (is := [.iconst 1, .isub]) (pc' := 41) (ls' := [some (.inr (.inr (30, 0))), some (.inl x1), some (.inl x2), some (.inl x3)]) (st' := [.inl ((m6 32 0 (ix x1)) - (1 : Int32)), .inl (0 : Int32), .inl x2]) (m' := m6) (by decide +kernel) rfl ?_
      refine go_callS h.1 (index := 70) (n := 3) (as := [.inl x2, .inl (0 : Int32), .inl ((m6 32 0 (ix x1)) - (1 : Int32))]) (rest := []) (ctr_X7_within (xl X) (xA X) (xC X) (xI X) (xk X) x2 (0 : Int32) ((m6 32 0 (ix x1)) - (1 : Int32)) m6) (by decide +kernel) wd_s_X7_70 rfl (h.room (by first | decide | omega) (by decide)) h.cl (Nat.le_of_ble_eq_true rfl) puI_ok rfl (fun r41 m41 _ => ?_)
      show Go X (Em X puI) 44 [some (.inr (.inr (30, 0))), some (.inl x1), some (.inl x2), some (.inl x3)] [.inl r41] m41 _
      refine go_ifne h.1 (off := 9) 53 (by decide +kernel) (by decide) (fun c44 => ?_) (fun c44 => ?_)
      · refine go_blk h.1 (is := [.aload_n 0, .getfield 16, .bipush 60, .iload_n 1, .imul, .iload_n 2, .iadd, .aload_n 0, .getfield 9, .iload_n 1]) (pc' := 68) (ls' := [some (.inr (.inr (30, 0))), some (.inl x1), some (.inl x2), some (.inl x3)]) (st' := [.inl x1, .inr (.inr (31, 0)), .inl (((60 : Int32) * x1) + x2), .inr (.inr (33, 0))]) (m' := m41) (by decide +kernel) rfl ?_
        refine go_iald h.1 (by decide +kernel) rfl rfl (fun b68 => ?_)
        show Go X (Em X puI) 69 [some (.inr (.inr (30, 0))), some (.inl x1), some (.inl x2), some (.inl x3)] [.inl (m41 31 0 (ix x1)), .inl (((60 : Int32) * x1) + x2), .inr (.inr (33, 0))] m41 _
        refine go_ifne h.1 (off := 8) 77 (by decide +kernel) (by decide) (fun c69 => ?_) (fun c69 => ?_)
        · refine go_blk h.1 (is := [.aload_n 0, .getfield 9, .iload_n 1]) (pc' := 82) (ls' := [some (.inr (.inr (30, 0))), some (.inl x1), some (.inl x2), some (.inl x3)]) (st' := [.inl x1, .inr (.inr (31, 0)), .inl (((60 : Int32) * x1) + x2), .inr (.inr (33, 0))]) (m' := m41) (by decide +kernel) rfl ?_
          refine go_iald h.1 (by decide +kernel) rfl rfl (fun b82 => ?_)
          show Go X (Em X puI) 83 [some (.inr (.inr (30, 0))), some (.inl x1), some (.inl x2), some (.inl x3)] [.inl (m41 31 0 (ix x1)), .inl (((60 : Int32) * x1) + x2), .inr (.inr (33, 0))] m41 _
          refine go_blk h.1 (is := [.iconst 1]) (pc' := 84) (ls' := [some (.inr (.inr (30, 0))), some (.inl x1), some (.inl x2), some (.inl x3)]) (st' := [.inl (1 : Int32), .inl (m41 31 0 (ix x1)), .inl (((60 : Int32) * x1) + x2), .inr (.inr (33, 0))]) (m' := m41) (by decide +kernel) rfl ?_
          refine go_icmpne h.1 (off := 8) 92 (by decide +kernel) (by decide) (fun c84 => ?_) (fun c84 => ?_)
          · refine go_blk h.1 (is := [.iload_n 3]) (pc' := 93) (ls' := [some (.inr (.inr (30, 0))), some (.inl x1), some (.inl x2), some (.inl x3)]) (st' := [.inl x3, .inl (((60 : Int32) * x1) + x2), .inr (.inr (33, 0))]) (m' := m41) (by decide +kernel) rfl ?_
            exact g_X7_put_j93 h x3 (((60 : Int32) * x1) + x2) m41 (some (.inr (.inr (30, 0)))) (some (.inl x1)) (some (.inl x2)) (some (.inl x3))
          · refine go_blk h.1 (is := [.iload_n 3, .i2s]) (pc' := 89) (ls' := [some (.inr (.inr (30, 0))), some (.inl x1), some (.inl x2), some (.inl x3)]) (st' := [.inl x3.toInt16.toInt32, .inl (((60 : Int32) * x1) + x2), .inr (.inr (33, 0))]) (m' := m41) (by decide +kernel) rfl ?_
            refine go_goto h.1 (off := 4) 93 (by decide +kernel) (by decide) ?_
            exact g_X7_put_j93 h x3.toInt16.toInt32 (((60 : Int32) * x1) + x2) m41 (some (.inr (.inr (30, 0)))) (some (.inl x1)) (some (.inl x2)) (some (.inl x3))
        · refine go_blk h.1 (is := [.iload_n 3, .i2b]) (pc' := 74) (ls' := [some (.inr (.inr (30, 0))), some (.inl x1), some (.inl x2), some (.inl x3)]) (st' := [.inl x3.toInt8.toInt32, .inl (((60 : Int32) * x1) + x2), .inr (.inr (33, 0))]) (m' := m41) (by decide +kernel) rfl ?_
          refine go_goto h.1 (off := 19) 93 (by decide +kernel) (by decide) ?_
          exact g_X7_put_j93 h x3.toInt8.toInt32 (((60 : Int32) * x1) + x2) m41 (some (.inr (.inr (30, 0)))) (some (.inl x1)) (some (.inl x2)) (some (.inl x3))
      · refine go_blk h.1 (is := [.aload_n 0, .iconst 3]) (pc' := 49) (ls' := [some (.inr (.inr (30, 0))), some (.inl x1), some (.inl x2), some (.inl x3)]) (st' := [.inl (3 : Int32), .inr (.inr (30, 0))]) (m' := m41) (by decide +kernel) rfl ?_
        refine go_callV h.1 (index := 91) (n := 1) (t := 30) (i := 0) (ci := 7) (nf := 35) (cz := (RX7, TX7, 35)) (as := [.inl (3 : Int32)]) (rest := []) (ctr_X7_fails (xl X) (xA X) (xC X) (xI X) (xk X) (3 : Int32) m41) (by decide +kernel) rfl rfl wd_v_X7_91 rfl (h.room (by first | decide | omega) (by decide)) h.cl (Nat.le_of_ble_eq_true rfl) puI_ok rfl (fun r49 m49 _ => ?_)
        show Go X (Em X puI) 52 [some (.inr (.inr (30, 0))), some (.inl x1), some (.inl x2), some (.inl x3)] [.inl r49] m49 _
        exact go_iret h.1 h.2.2.2.2 (by decide +kernel)
    · refine go_blk h.1 (is := [.aload_n 0, .iconst 1]) (pc' := 27) (ls' := [some (.inr (.inr (30, 0))), some (.inl x1), some (.inl x2), some (.inl x3)]) (st' := [.inl (1 : Int32), .inr (.inr (30, 0))]) (m' := m6) (by decide +kernel) rfl ?_
      refine go_callV h.1 (index := 91) (n := 1) (t := 30) (i := 0) (ci := 7) (nf := 35) (cz := (RX7, TX7, 35)) (as := [.inl (1 : Int32)]) (rest := []) (ctr_X7_fails (xl X) (xA X) (xC X) (xI X) (xk X) (1 : Int32) m6) (by decide +kernel) rfl rfl wd_v_X7_91 rfl (h.room (by first | decide | omega) (by decide)) h.cl (Nat.le_of_ble_eq_true rfl) puI_ok rfl (fun r27 m27 _ => ?_)
      show Go X (Em X puI) 30 [some (.inr (.inr (30, 0))), some (.inl x1), some (.inl x2), some (.inl x3)] [.inl r27] m27 _
      exact go_iret h.1 h.2.2.2.2 (by decide +kernel)
  · refine go_blk h.1 (is := [.iconst (-1)]) (pc' := 13) (ls' := [some (.inr (.inr (30, 0))), some (.inl x1), some (.inl x2), some (.inl x3)]) (st' := [.inl (-1 : Int32)]) (m' := m6) (by decide +kernel) rfl ?_
    exact go_iret h.1 h.2.2.2.2 (by decide +kernel)
theorem ctr_X7_put (l : Launch) (A : AR → Nat) (dC : Nat → ClassId) (dI : Nat → Nat → Nat) (cs : Nat → ClassId) (x1 : Int32) (x2 : Int32) (x3 : Int32) (m : Mem) : Ctr l A dC dI cs yX7_put prog_9_method_57_code 4 (some .int) 2 puI [.inr (.inr (30, 0)), .inl x1, .inl x2, .inl x3] m (f_X7_put x1 x2 x3 m) :=
  ctr_of (P := P_X7) (by decide +kernel) rfl pt_X7 rfl rfl (fun X hC _ _ _ _ _ hR h0 h1 hr => g_X7_put ⟨hC, hR, h0, h1, hr⟩ x1 x2 x3 m)

def f_X7_lost (x1 : Int32) (m : Mem) : Option (Int64 × Mem) :=
  some ((-9223372036854775808 : Int64), (mset m 30 0 0 x1))
theorem g_X7_lost {X : XT} (h : MX X prog_9_method_4_code P_X7 0 (some .long)) (x1 : Int32) (m : Mem) : Go X (Em X puL) 0 [some (.inr (.inr (30, 0))), some (.inl x1)] [] m (f_X7_lost x1 m) := by
  unfold f_X7_lost
  refine go_blk h.1 (is := [.aload_n 0, .iload_n 1, .putfield 64, .ldc2_w 68]) (pc' := 8) (ls' := [some (.inr (.inr (30, 0))), some (.inl x1)]) (st' := [.inr (.inl (-9223372036854775808 : Int64))]) (m' := (mset m 30 0 0 x1)) (by decide +kernel) rfl ?_
  exact go_lret h.1 h.2.2.2.2 (by decide +kernel)
theorem ctr_X7_lost (l : Launch) (A : AR → Nat) (dC : Nat → ClassId) (dI : Nat → Nat → Nat) (cs : Nat → ClassId) (x1 : Int32) (m : Mem) : Ctr l A dC dI cs yX7_lost prog_9_method_4_code 2 (some .long) 0 puL [.inr (.inr (30, 0)), .inl x1] m (f_X7_lost x1 m) :=
  ctr_of (P := P_X7) (by decide +kernel) rfl pt_X7 rfl rfl (fun X hC _ _ _ _ _ hR h0 h1 hr => g_X7_lost ⟨hC, hR, h0, h1, hr⟩ x1 m)

def f_X7_cell_j50 (x1 : Int32) (x2 : Int32) (m : Mem) : Option (Int64 × Mem) :=
  if inB x1 4 = true then
    if (m 31 0 (ix x1)) = (-9 : Int32) then
      bnd (f_X7_lost (1 : Int32) m) (fun r63 m63 =>
        some (r63, m63))
    else
      if inB x1 4 = true then
        bnd (f_X7_within x2 (0 : Int32) ((m 32 0 (ix x1)) - (1 : Int32)) m) (fun r77 m77 =>
          if r77 = 0 then
            bnd (f_X7_lost (3 : Int32) m77) (fun r85 m85 =>
              some (r85, m85))
          else
            if inB (((60 : Int32) * x1) + x2) 240 = true then
              some ((m77 33 0 (ix (((60 : Int32) * x1) + x2))).toInt64, m77)
            else none)
      else none
  else none
theorem g_X7_cell_j50 {X : XT} (h : MX X prog_9_method_58_code P_X7 2 (some .long)) (x1 : Int32) (x2 : Int32) (m : Mem) (o3 : Option AV) : Go X (Em X puL) 50 [some (.inr (.inr (30, 0))), some (.inl x1), some (.inl x2), o3] [] m (f_X7_cell_j50 x1 x2 m) := by
  unfold f_X7_cell_j50
  refine go_blk h.1 (is := [.aload_n 0, .getfield 9, .iload_n 1]) (pc' := 55) (ls' := [some (.inr (.inr (30, 0))), some (.inl x1), some (.inl x2), o3]) (st' := [.inl x1, .inr (.inr (31, 0))]) (m' := m) (by decide +kernel) rfl ?_
  refine go_iald h.1 (by decide +kernel) rfl rfl (fun b55 => ?_)
  show Go X (Em X puL) 56 [some (.inr (.inr (30, 0))), some (.inl x1), some (.inl x2), o3] [.inl (m 31 0 (ix x1))] m _
  refine go_blk h.1 (is := [.bipush (-9)]) (pc' := 58) (ls' := [some (.inr (.inr (30, 0))), some (.inl x1), some (.inl x2), o3]) (st' := [.inl (-9 : Int32), .inl (m 31 0 (ix x1))]) (m' := m) (by decide +kernel) rfl ?_
  refine go_icmpne h.1 (off := 9) 67 (by decide +kernel) (by decide) (fun c58 => ?_) (fun c58 => ?_)
  · refine go_blk h.1 (is := [.iload_n 2, .iconst 0, .aload_n 0, .getfield 13, .iload_n 1]) (pc' := 74) (ls' := [some (.inr (.inr (30, 0))), some (.inl x1), some (.inl x2), o3]) (st' := [.inl x1, .inr (.inr (32, 0)), .inl (0 : Int32), .inl x2]) (m' := m) (by decide +kernel) rfl ?_
    refine go_iald h.1 (by decide +kernel) rfl rfl (fun b74 => ?_)
    show Go X (Em X puL) 75 [some (.inr (.inr (30, 0))), some (.inl x1), some (.inl x2), o3] [.inl (m 32 0 (ix x1)), .inl (0 : Int32), .inl x2] m _
    refine go_blk h.1 (is := [.iconst 1, .isub]) (pc' := 77) (ls' := [some (.inr (.inr (30, 0))), some (.inl x1), some (.inl x2), o3]) (st' := [.inl ((m 32 0 (ix x1)) - (1 : Int32)), .inl (0 : Int32), .inl x2]) (m' := m) (by decide +kernel) rfl ?_
    refine go_callS h.1 (index := 70) (n := 3) (as := [.inl x2, .inl (0 : Int32), .inl ((m 32 0 (ix x1)) - (1 : Int32))]) (rest := []) (ctr_X7_within (xl X) (xA X) (xC X) (xI X) (xk X) x2 (0 : Int32) ((m 32 0 (ix x1)) - (1 : Int32)) m) (by decide +kernel) wd_s_X7_70 rfl (h.room (by first | decide | omega) (by decide)) h.cl (Nat.le_of_ble_eq_true rfl) puI_ok rfl (fun r77 m77 _ => ?_)
    show Go X (Em X puL) 80 [some (.inr (.inr (30, 0))), some (.inl x1), some (.inl x2), o3] [.inl r77] m77 _
    refine go_ifne h.1 (off := 9) 89 (by decide +kernel) (by decide) (fun c80 => ?_) (fun c80 => ?_)
    · refine go_blk h.1 (is := [.aload_n 0, .getfield 16, .bipush 60, .iload_n 1, .imul, .iload_n 2, .iadd]) (pc' := 99) (ls' := [some (.inr (.inr (30, 0))), some (.inl x1), some (.inl x2), o3]) (st' := [.inl (((60 : Int32) * x1) + x2), .inr (.inr (33, 0))]) (m' := m77) (by decide +kernel) rfl ?_
      refine go_iald h.1 (by decide +kernel) rfl rfl (fun b99 => ?_)
      show Go X (Em X puL) 100 [some (.inr (.inr (30, 0))), some (.inl x1), some (.inl x2), o3] [.inl (m77 33 0 (ix (((60 : Int32) * x1) + x2)))] m77 _
      refine go_blk h.1 (is := [.i2l]) (pc' := 101) (ls' := [some (.inr (.inr (30, 0))), some (.inl x1), some (.inl x2), o3]) (st' := [.inr (.inl (m77 33 0 (ix (((60 : Int32) * x1) + x2))).toInt64)]) (m' := m77) (by decide +kernel) rfl ?_
      exact go_lret h.1 h.2.2.2.2 (by decide +kernel)
    · refine go_blk h.1 (is := [.aload_n 0, .iconst 3]) (pc' := 85) (ls' := [some (.inr (.inr (30, 0))), some (.inl x1), some (.inl x2), o3]) (st' := [.inl (3 : Int32), .inr (.inr (30, 0))]) (m' := m77) (by decide +kernel) rfl ?_
      refine go_callV h.1 (index := 232) (n := 1) (t := 30) (i := 0) (ci := 7) (nf := 35) (cz := (RX7, TX7, 35)) (as := [.inl (3 : Int32)]) (rest := []) (ctr_X7_lost (xl X) (xA X) (xC X) (xI X) (xk X) (3 : Int32) m77) (by decide +kernel) rfl rfl wd_v_X7_232 rfl (h.room (by first | decide | omega) (by decide)) h.cl (Nat.le_of_ble_eq_true rfl) puL_ok rfl (fun r85 m85 _ => ?_)
      show Go X (Em X puL) 88 [some (.inr (.inr (30, 0))), some (.inl x1), some (.inl x2), o3] [.inr (.inl r85)] m85 _
      exact go_lret h.1 h.2.2.2.2 (by decide +kernel)
  · refine go_blk h.1 (is := [.aload_n 0, .iconst 1]) (pc' := 63) (ls' := [some (.inr (.inr (30, 0))), some (.inl x1), some (.inl x2), o3]) (st' := [.inl (1 : Int32), .inr (.inr (30, 0))]) (m' := m) (by decide +kernel) rfl ?_
    refine go_callV h.1 (index := 232) (n := 1) (t := 30) (i := 0) (ci := 7) (nf := 35) (cz := (RX7, TX7, 35)) (as := [.inl (1 : Int32)]) (rest := []) (ctr_X7_lost (xl X) (xA X) (xC X) (xI X) (xk X) (1 : Int32) m) (by decide +kernel) rfl rfl wd_v_X7_232 rfl (h.room (by first | decide | omega) (by decide)) h.cl (Nat.le_of_ble_eq_true rfl) puL_ok rfl (fun r63 m63 _ => ?_)
    show Go X (Em X puL) 66 [some (.inr (.inr (30, 0))), some (.inl x1), some (.inl x2), o3] [.inr (.inl r63)] m63 _
    exact go_lret h.1 h.2.2.2.2 (by decide +kernel)

def f_X7_cell (x1 : Int32) (x2 : Int32) (x3 : Int32) (m : Mem) : Option (Int64 × Mem) :=
  bnd (f_X7_isSheet x1 (mset m 30 0 0 (0 : Int32))) (fun r6 m6 =>
    if r6 = 0 then
      some ((-9223372036854775808 : Int64), m6)
    else
      bnd (f_X7_isSort x3 m6) (fun r13 m13 =>
        if r13 = 0 then
          some ((-9223372036854775808 : Int64), m13)
        else
          if inB x1 4 = true then
            if (m13 31 0 (ix x1)) = (-9 : Int32) then
              f_X7_cell_j50 x1 x2 m13
            else
              if inB x1 4 = true then
                if (m13 31 0 (ix x1)) = x3 then
                  f_X7_cell_j50 x1 x2 m13
                else
                  bnd (f_X7_lost (2 : Int32) m13) (fun r46 m46 =>
                    some (r46, m46))
              else none
          else none))
theorem g_X7_cell {X : XT} (h : MX X prog_9_method_58_code P_X7 2 (some .long)) (x1 : Int32) (x2 : Int32) (x3 : Int32) (m : Mem) : Go X (Em X puL) 0 [some (.inr (.inr (30, 0))), some (.inl x1), some (.inl x2), some (.inl x3)] [] m (f_X7_cell x1 x2 x3 m) := by
  unfold f_X7_cell
  refine go_blk h.1 (is := [.aload_n 0, .iconst 0, .putfield 64, .iload_n 1]) (pc' := 6) (ls' := [some (.inr (.inr (30, 0))), some (.inl x1), some (.inl x2), some (.inl x3)]) (st' := [.inl x1]) (m' := (mset m 30 0 0 (0 : Int32))) (by decide +kernel) rfl ?_
  refine go_callS h.1 (index := 80) (n := 1) (as := [.inl x1]) (rest := []) (ctr_X7_isSheet (xl X) (xA X) (xC X) (xI X) (xk X) x1 (mset m 30 0 0 (0 : Int32))) (by decide +kernel) wd_s_X7_80 rfl (h.room (by first | decide | omega) (by decide)) h.cl (Nat.le_of_ble_eq_true rfl) puI_ok rfl (fun r6 m6 _ => ?_)
  show Go X (Em X puL) 9 [some (.inr (.inr (30, 0))), some (.inl x1), some (.inl x2), some (.inl x3)] [.inl r6] m6 _
  refine go_ifeq h.1 (off := 10) 19 (by decide +kernel) (by decide) (fun c9 => ?_) (fun c9 => ?_)
  · refine go_blk h.1 (is := [.ldc2_w 68]) (pc' := 22) (ls' := [some (.inr (.inr (30, 0))), some (.inl x1), some (.inl x2), some (.inl x3)]) (st' := [.inr (.inl (-9223372036854775808 : Int64))]) (m' := m6) (by decide +kernel) rfl ?_
    exact go_lret h.1 h.2.2.2.2 (by decide +kernel)
  · refine go_blk h.1 (is := [.iload_n 3]) (pc' := 13) (ls' := [some (.inr (.inr (30, 0))), some (.inl x1), some (.inl x2), some (.inl x3)]) (st' := [.inl x3]) (m' := m6) (by decide +kernel) rfl ?_
    refine go_callS h.1 (index := 84) (n := 1) (as := [.inl x3]) (rest := []) (ctr_X7_isSort (xl X) (xA X) (xC X) (xI X) (xk X) x3 m6) (by decide +kernel) wd_s_X7_84 rfl (h.room (by first | decide | omega) (by decide)) h.cl (Nat.le_of_ble_eq_true rfl) puI_ok rfl (fun r13 m13 _ => ?_)
    show Go X (Em X puL) 16 [some (.inr (.inr (30, 0))), some (.inl x1), some (.inl x2), some (.inl x3)] [.inl r13] m13 _
    refine go_ifne h.1 (off := 7) 23 (by decide +kernel) (by decide) (fun c16 => ?_) (fun c16 => ?_)
    · refine go_blk h.1 (is := [.aload_n 0, .getfield 9, .iload_n 1]) (pc' := 28) (ls' := [some (.inr (.inr (30, 0))), some (.inl x1), some (.inl x2), some (.inl x3)]) (st' := [.inl x1, .inr (.inr (31, 0))]) (m' := m13) (by decide +kernel) rfl ?_
      refine go_iald h.1 (by decide +kernel) rfl rfl (fun b28 => ?_)
      show Go X (Em X puL) 29 [some (.inr (.inr (30, 0))), some (.inl x1), some (.inl x2), some (.inl x3)] [.inl (m13 31 0 (ix x1))] m13 _
      refine go_blk h.1 (is := [.bipush (-9)]) (pc' := 31) (ls' := [some (.inr (.inr (30, 0))), some (.inl x1), some (.inl x2), some (.inl x3)]) (st' := [.inl (-9 : Int32), .inl (m13 31 0 (ix x1))]) (m' := m13) (by decide +kernel) rfl ?_
      refine go_icmpeq h.1 (off := 19) 50 (by decide +kernel) (by decide) (fun c31 => ?_) (fun c31 => ?_)
      · exact g_X7_cell_j50 h x1 x2 m13 (some (.inl x3))
      · refine go_blk h.1 (is := [.aload_n 0, .getfield 9, .iload_n 1]) (pc' := 39) (ls' := [some (.inr (.inr (30, 0))), some (.inl x1), some (.inl x2), some (.inl x3)]) (st' := [.inl x1, .inr (.inr (31, 0))]) (m' := m13) (by decide +kernel) rfl ?_
        refine go_iald h.1 (by decide +kernel) rfl rfl (fun b39 => ?_)
        show Go X (Em X puL) 40 [some (.inr (.inr (30, 0))), some (.inl x1), some (.inl x2), some (.inl x3)] [.inl (m13 31 0 (ix x1))] m13 _
        refine go_blk h.1 (is := [.iload_n 3]) (pc' := 41) (ls' := [some (.inr (.inr (30, 0))), some (.inl x1), some (.inl x2), some (.inl x3)]) (st' := [.inl x3, .inl (m13 31 0 (ix x1))]) (m' := m13) (by decide +kernel) rfl ?_
        refine go_icmpeq h.1 (off := 9) 50 (by decide +kernel) (by decide) (fun c41 => ?_) (fun c41 => ?_)
        · exact g_X7_cell_j50 h x1 x2 m13 (some (.inl x3))
        · refine go_blk h.1 (is := [.aload_n 0, .iconst 2]) (pc' := 46) (ls' := [some (.inr (.inr (30, 0))), some (.inl x1), some (.inl x2), some (.inl x3)]) (st' := [.inl (2 : Int32), .inr (.inr (30, 0))]) (m' := m13) (by decide +kernel) rfl ?_
          refine go_callV h.1 (index := 232) (n := 1) (t := 30) (i := 0) (ci := 7) (nf := 35) (cz := (RX7, TX7, 35)) (as := [.inl (2 : Int32)]) (rest := []) (ctr_X7_lost (xl X) (xA X) (xC X) (xI X) (xk X) (2 : Int32) m13) (by decide +kernel) rfl rfl wd_v_X7_232 rfl (h.room (by first | decide | omega) (by decide)) h.cl (Nat.le_of_ble_eq_true rfl) puL_ok rfl (fun r46 m46 _ => ?_)
          show Go X (Em X puL) 49 [some (.inr (.inr (30, 0))), some (.inl x1), some (.inl x2), some (.inl x3)] [.inr (.inl r46)] m46 _
          exact go_lret h.1 h.2.2.2.2 (by decide +kernel)
    · refine go_blk h.1 (is := [.ldc2_w 68]) (pc' := 22) (ls' := [some (.inr (.inr (30, 0))), some (.inl x1), some (.inl x2), some (.inl x3)]) (st' := [.inr (.inl (-9223372036854775808 : Int64))]) (m' := m13) (by decide +kernel) rfl ?_
      exact go_lret h.1 h.2.2.2.2 (by decide +kernel)
theorem ctr_X7_cell (l : Launch) (A : AR → Nat) (dC : Nat → ClassId) (dI : Nat → Nat → Nat) (cs : Nat → ClassId) (x1 : Int32) (x2 : Int32) (x3 : Int32) (m : Mem) : Ctr l A dC dI cs yX7_cell prog_9_method_58_code 4 (some .long) 2 puL [.inr (.inr (30, 0)), .inl x1, .inl x2, .inl x3] m (f_X7_cell x1 x2 x3 m) :=
  ctr_of (P := P_X7) (by decide +kernel) rfl pt_X7 rfl rfl (fun X hC _ _ _ _ _ hR h0 h1 hr => g_X7_cell ⟨hC, hR, h0, h1, hr⟩ x1 x2 x3 m)

