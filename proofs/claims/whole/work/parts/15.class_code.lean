/-! ===== printed by wip/whole/tr.py out of the listing ===== -/
def f_X6_kinds_b27 (x1 : Int32) (x2 : Int32) (x4 : Int32) (x5 : Int32) (next : Int32 × Int32 × Mem → Option (Int32 × Mem)) (exit : Int32 × Mem → Option (Int32 × Mem)) (s : Int32 × Int32 × Mem) : Option (Int32 × Mem) :=
  if (2 : Int32) < s.2.1 then
    exit (s.1, s.2.2)
  else
    bnd (f_X0_start 0 s.2.2) (fun _ m41 =>
      if inB x1 5 = true then
        bnd (f_X6_fits x2 x4 x5 (mset m41 8 0 (ix x1) s.2.1)) (fun r63 m63 =>
          bnd (f_X6_bitIf r63 s.2.1 m63) (fun r68 m68 =>
            next ((s.1 ||| r68), (s.2.1 + (1 : Int32)), m68)))
      else none)
theorem g_X6_kinds_b27 {X : XT} (h : MX X prog_1_method_17_code P_X6 6 (some .int)) (x1 : Int32) (x2 : Int32) (x4 : Int32) (x5 : Int32) (next : Int32 × Int32 × Mem → Option (Int32 × Mem)) (exit : Int32 × Mem → Option (Int32 × Mem)) (hn : ∀ (y7 : Int32) (y8 : Int32) (n : Mem) (o3 : Option AV) (o6 : Option AV), Go X (Em X puI) 27 [some (.inr (.inr (0, 0))), some (.inl x1), some (.inl x2), o3, some (.inl x4), some (.inl x5), o6, some (.inl y7), some (.inl y8)] [] n (next (y7, y8, n))) (hx : ∀ (y7 : Int32) (n : Mem) (o0 : Option AV) (o1 : Option AV) (o2 : Option AV) (o3 : Option AV) (o4 : Option AV) (o5 : Option AV) (o6 : Option AV) (o8 : Option AV), Go X (Em X puI) 80 [o0, o1, o2, o3, o4, o5, o6, some (.inl y7), o8] [] n (exit (y7, n))) (s : Int32 × Int32 × Mem) (o3 : Option AV) (o6 : Option AV) : Go X (Em X puI) 27 [some (.inr (.inr (0, 0))), some (.inl x1), some (.inl x2), o3, some (.inl x4), some (.inl x5), o6, some (.inl s.1), some (.inl s.2.1)] [] s.2.2 (f_X6_kinds_b27 x1 x2 x4 x5 next exit s) := by
  unfold f_X6_kinds_b27
  refine go_blk h.1 (is := [.iload 8, .iconst 2]) (pc' := 30) (ls' := [some (.inr (.inr (0, 0))), some (.inl x1), some (.inl x2), o3, some (.inl x4), some (.inl x5), o6, some (.inl s.1), some (.inl s.2.1)]) (st' := [.inl (2 : Int32), .inl s.2.1]) (m' := s.2.2) (by decide +kernel) rfl ?_
  refine go_icmpgt h.1 (off := 50) 80 (by decide +kernel) (by decide) (fun c30 => ?_) (fun c30 => ?_)
  · exact hx s.1 s.2.2 (some (.inr (.inr (0, 0)))) (some (.inl x1)) (some (.inl x2)) (o3) (some (.inl x4)) (some (.inl x5)) (o6) (some (.inl s.2.1))
  · refine go_blk h.1 (is := [.aload_n 0, .getfield 28, .aload_n 0, .getfield 21]) (pc' := 41) (ls' := [some (.inr (.inr (0, 0))), some (.inl x1), some (.inl x2), o3, some (.inl x4), some (.inl x5), o6, some (.inl s.1), some (.inl s.2.1)]) (st' := [.inr (.inr (4, 0)), .inr (.inr (7, 0))]) (m' := s.2.2) (by decide +kernel) rfl ?_
    refine go_callV h.1 (index := 170) (n := 1) (t := 7) (i := 0) (ci := 0) (nf := 14) (cz := (RX0, TX0, 14)) (as := [.inr (.inr (4, 0))]) (rest := []) (ctr_X0_start (xl X) (xA X) (xC X) (xI X) (xk X) 0 s.2.2) (by decide +kernel) rfl rfl wd_v_X6_170 rfl (h.room (by first | decide | omega) (by decide)) h.cl (Nat.le_of_ble_eq_true rfl) puV_ok rfl (fun r41 m41 _ => ?_)
    show Go X (Em X puI) 44 [some (.inr (.inr (0, 0))), some (.inl x1), some (.inl x2), o3, some (.inl x4), some (.inl x5), o6, some (.inl s.1), some (.inl s.2.1)] [] m41 _
    refine go_blk h.1 (is := [.aload_n 0, .getfield 28, .getfield 188, .iload_n 1, .iload 8]) (pc' := 54) (ls' := [some (.inr (.inr (0, 0))), some (.inl x1), some (.inl x2), o3, some (.inl x4), some (.inl x5), o6, some (.inl s.1), some (.inl s.2.1)]) (st' := [.inl s.2.1, .inl x1, .inr (.inr (8, 0))]) (m' := m41) (by decide +kernel) rfl ?_
    refine go_iast h.1 (by decide +kernel) rfl rfl (fun b54 => ?_)
    refine go_blk h.1 (is := [.iload 7, .aload_n 0, .iload_n 2, .iload 4, .iload 5]) (pc' := 63) (ls' := [some (.inr (.inr (0, 0))), some (.inl x1), some (.inl x2), o3, some (.inl x4), some (.inl x5), o6, some (.inl s.1), some (.inl s.2.1)]) (st' := [.inl x5, .inl x4, .inl x2, .inr (.inr (0, 0)), .inl s.1]) (m' := (mset m41 8 0 (ix x1) s.2.1)) (by decide +kernel) rfl ?_
    refine go_callV h.1 (index := 180) (n := 3) (t := 0) (i := 0) (ci := 6) (nf := 7) (cz := (RX6, TX6, 7)) (as := [.inl x2, .inl x4, .inl x5]) (rest := [.inl s.1]) (ctr_X6_fits (xl X) (xA X) (xC X) (xI X) (xk X) x2 x4 x5 (mset m41 8 0 (ix x1) s.2.1)) (by decide +kernel) rfl rfl wd_v_X6_180 rfl (h.room (by first | decide | omega) (by decide)) h.cl (Nat.le_of_ble_eq_true rfl) puI_ok rfl (fun r63 m63 _ => ?_)
    show Go X (Em X puI) 66 [some (.inr (.inr (0, 0))), some (.inl x1), some (.inl x2), o3, some (.inl x4), some (.inl x5), o6, some (.inl s.1), some (.inl s.2.1)] [.inl r63, .inl s.1] m63 _
    refine go_blk h.1 (is := [.iload 8]) (pc' := 68) (ls' := [some (.inr (.inr (0, 0))), some (.inl x1), some (.inl x2), o3, some (.inl x4), some (.inl x5), o6, some (.inl s.1), some (.inl s.2.1)]) (st' := [.inl s.2.1, .inl r63, .inl s.1]) (m' := m63) (by decide +kernel) rfl ?_
    refine go_callS h.1 (index := 183) (n := 2) (as := [.inl r63, .inl s.2.1]) (rest := [.inl s.1]) (ctr_X6_bitIf (xl X) (xA X) (xC X) (xI X) (xk X) r63 s.2.1 m63) (by decide +kernel) wd_s_X6_183 rfl (h.room (by first | decide | omega) (by decide)) h.cl (Nat.le_of_ble_eq_true rfl) puI_ok rfl (fun r68 m68 _ => ?_)
    show Go X (Em X puI) 71 [some (.inr (.inr (0, 0))), some (.inl x1), some (.inl x2), o3, some (.inl x4), some (.inl x5), o6, some (.inl s.1), some (.inl s.2.1)] [.inl r68, .inl s.1] m68 _
    refine go_blk h.1 (is := [.ior, .istore 7, .iinc 8 1]) (pc' := 77) (ls' := [some (.inr (.inr (0, 0))), some (.inl x1), some (.inl x2), o3, some (.inl x4), some (.inl x5), (clrL o6), some (.inl (s.1 ||| r68)), some (.inl (s.2.1 + (1 : Int32)))]) (st' := []) (m' := m68) (by decide +kernel) rfl ?_
    refine go_goto h.1 (off := -50) 27 (by decide +kernel) (by decide) ?_
    exact hn (s.1 ||| r68) (s.2.1 + (1 : Int32)) m68 (o3) ((clrL o6))

def f_X6_kinds (x1 : Int32) (x2 : Int32) (x3 : Int32) (x4 : Int32) (x5 : Int32) (m : Mem) : Option (Int32 × Mem) :=
  bnd (f_X6_refusalWithFish x1 x2 x3 x4 x5 m) (fun r8 m8 =>
    if r8 = 0 then
      lpk (f_X6_kinds_b27 x1 x2 x4 x5) fuelN ((0 : Int32), (0 : Int32), m8) (fun t27 =>
        some (t27.1, t27.2))
    else
      some (r8, m8))
theorem g_X6_kinds {X : XT} (h : MX X prog_1_method_17_code P_X6 6 (some .int)) (x1 : Int32) (x2 : Int32) (x3 : Int32) (x4 : Int32) (x5 : Int32) (m : Mem) : Go X (Em X puI) 0 [some (.inr (.inr (0, 0))), some (.inl x1), some (.inl x2), some (.inl x3), some (.inl x4), some (.inl x5), none, none, none] [] m (f_X6_kinds x1 x2 x3 x4 x5 m) := by
  unfold f_X6_kinds
  refine go_blk h.1 (is := [.aload_n 0, .iload_n 1, .iload_n 2, .iload_n 3, .iload 4, .iload 5]) (pc' := 8) (ls' := [some (.inr (.inr (0, 0))), some (.inl x1), some (.inl x2), some (.inl x3), some (.inl x4), some (.inl x5), none, none, none]) (st' := [.inl x5, .inl x4, .inl x3, .inl x2, .inl x1, .inr (.inr (0, 0))]) (m' := m) (by decide +kernel) rfl ?_
  refine go_callV h.1 (index := 141) (n := 5) (t := 0) (i := 0) (ci := 6) (nf := 7) (cz := (RX6, TX6, 7)) (as := [.inl x1, .inl x2, .inl x3, .inl x4, .inl x5]) (rest := []) (ctr_X6_refusalWithFish (xl X) (xA X) (xC X) (xI X) (xk X) x1 x2 x3 x4 x5 m) (by decide +kernel) rfl rfl wd_v_X6_141 rfl (h.room (by first | decide | omega) (by decide)) h.cl (Nat.le_of_ble_eq_true rfl) puI_ok rfl (fun r8 m8 _ => ?_)
  show Go X (Em X puI) 11 [some (.inr (.inr (0, 0))), some (.inl x1), some (.inl x2), some (.inl x3), some (.inl x4), some (.inl x5), none, none, none] [.inl r8] m8 _
  refine go_blk h.1 (is := [.istore 6, .iload 6]) (pc' := 15) (ls' := [some (.inr (.inr (0, 0))), some (.inl x1), some (.inl x2), some (.inl x3), some (.inl x4), some (.inl x5), some (.inl r8), none, none]) (st' := [.inl r8]) (m' := m8) (by decide +kernel) rfl ?_
  refine go_ifeq h.1 (off := 6) 21 (by decide +kernel) (by decide) (fun c15 => ?_) (fun c15 => ?_)
  · refine go_blk h.1 (is := [.iconst 0, .istore 7, .iconst 0, .istore 8]) (pc' := 27) (ls' := [some (.inr (.inr (0, 0))), some (.inl x1), some (.inl x2), some (.inl x3), some (.inl x4), some (.inl x5), some (.inl r8), some (.inl (0 : Int32)), some (.inl (0 : Int32))]) (st' := []) (m' := m8) (by decide +kernel) rfl ?_
    refine go_lp2 (hd := fun (y7 : Int32) (y8 : Int32) (n : Mem) o => ∀ (o3 : Option AV) (o6 : Option AV), Go X (Em X puI) 27 [some (.inr (.inr (0, 0))), some (.inl x1), some (.inl x2), o3, some (.inl x4), some (.inl x5), o6, some (.inl y7), some (.inl y8)] [] n o) (fun _ _ _ _ _ => go_none) (fun y7 y8 n nx_ hn_ => g_X6_kinds_b27 h x1 x2 x4 x5 nx_ _ hn_ (fun z7_27 z_27 o0_27 o1_27 o2_27 o3_27 o4_27 o5_27 o6_27 o8_27 => ?_) (y7, y8, n)) fuelN (0 : Int32) (0 : Int32) m8 (some (.inl x3)) (some (.inl r8))
    refine go_blk h.1 (is := [.iload 7]) (pc' := 82) (ls' := [o0_27, o1_27, o2_27, o3_27, o4_27, o5_27, o6_27, some (.inl z7_27), o8_27]) (st' := [.inl z7_27]) (m' := z_27) (by decide +kernel) rfl ?_
    exact go_iret h.1 h.2.2.2.2 (by decide +kernel)
  · refine go_blk h.1 (is := [.iload 6]) (pc' := 20) (ls' := [some (.inr (.inr (0, 0))), some (.inl x1), some (.inl x2), some (.inl x3), some (.inl x4), some (.inl x5), some (.inl r8), none, none]) (st' := [.inl r8]) (m' := m8) (by decide +kernel) rfl ?_
    exact go_iret h.1 h.2.2.2.2 (by decide +kernel)
theorem ctr_X6_kinds (l : Launch) (A : AR → Nat) (dC : Nat → ClassId) (dI : Nat → Nat → Nat) (cs : Nat → ClassId) (x1 : Int32) (x2 : Int32) (x3 : Int32) (x4 : Int32) (x5 : Int32) (m : Mem) : Ctr l A dC dI cs yX6_kinds prog_1_method_17_code 9 (some .int) 6 puI [.inr (.inr (0, 0)), .inl x1, .inl x2, .inl x3, .inl x4, .inl x5] m (f_X6_kinds x1 x2 x3 x4 x5 m) :=
  ctr_of (P := P_X6) (by decide +kernel) rfl pt_X6 rfl rfl (fun X hC _ _ _ _ _ hR h0 h1 hr => g_X6_kinds ⟨hC, hR, h0, h1, hr⟩ x1 x2 x3 x4 x5 m)

def f_X6_odds_j84 (next : Int32 × Int32 × Mem → Option (Int64 × Mem)) (exit : Int32 × Mem → Option (Int64 × Mem)) (x1 : Int32) (x3 : Int32) (x4 : Int32) (x5 : Int32) (x6 : Int32) (x7 : Int32) (x8 : Int32) (m : Mem) : Option (Int64 × Mem) :=
  next (x6, (x8 + (1 : Int32)), m)
theorem g_X6_odds_j84 {X : XT} (h : MX X prog_1_method_18_code P_X6 5 (some .long)) (next : Int32 × Int32 × Mem → Option (Int64 × Mem)) (exit : Int32 × Mem → Option (Int64 × Mem)) (x1 : Int32) (x3 : Int32) (x4 : Int32) (x5 : Int32) (x6 : Int32) (x7 : Int32) (x8 : Int32) (m : Mem) (o2 : Option AV) (hn : ∀ (y6 : Int32) (y8 : Int32) (n : Mem) (o2 : Option AV), Go X (Em X puL) 33 [some (.inr (.inr (0, 0))), some (.inl x1), o2, some (.inl x3), some (.inl x4), some (.inl x5), some (.inl y6), some (.inl x7), some (.inl y8)] [] n (next (y6, y8, n))) (hx : ∀ (y6 : Int32) (n : Mem) (o0 : Option AV) (o1 : Option AV) (o2 : Option AV) (o3 : Option AV) (o4 : Option AV) (o8 : Option AV), Go X (Em X puL) 90 [o0, o1, o2, o3, o4, some (.inl x5), some (.inl y6), some (.inl x7), o8] [] n (exit (y6, n))) : Go X (Em X puL) 84 [some (.inr (.inr (0, 0))), some (.inl x1), o2, some (.inl x3), some (.inl x4), some (.inl x5), some (.inl x6), some (.inl x7), some (.inl x8)] [] m (f_X6_odds_j84 next exit x1 x3 x4 x5 x6 x7 x8 m) := by
  unfold f_X6_odds_j84
  refine go_blk h.1 (is := [.iinc 8 1]) (pc' := 87) (ls' := [some (.inr (.inr (0, 0))), some (.inl x1), o2, some (.inl x3), some (.inl x4), some (.inl x5), some (.inl x6), some (.inl x7), some (.inl (x8 + (1 : Int32)))]) (st' := []) (m' := m) (by decide +kernel) rfl ?_
  refine go_goto h.1 (off := -54) 33 (by decide +kernel) (by decide) ?_
  exact hn x6 (x8 + (1 : Int32)) m (o2)

def f_X6_odds_b33 (x1 : Int32) (x3 : Int32) (x4 : Int32) (x5 : Int32) (x7 : Int32) (next : Int32 × Int32 × Mem → Option (Int64 × Mem)) (exit : Int32 × Mem → Option (Int64 × Mem)) (s : Int32 × Int32 × Mem) : Option (Int64 × Mem) :=
  if (64 : Int32) ≤ s.2.1 then
    exit (s.1, s.2.2)
  else
    bnd (f_X0_start 0 s.2.2) (fun _ m48 =>
      if inB x1 4 = true then
        bnd (f_X0_walk 0 (ix x1) x3 x4 (mset m48 7 0 10 s.2.1)) (fun r73 m73 =>
          if r73 = (-9 : Int32) then
            f_X6_odds_j84 next exit x1 x3 x4 x5 (s.1 + (1 : Int32)) x7 s.2.1 m73
          else
            f_X6_odds_j84 next exit x1 x3 x4 x5 s.1 x7 s.2.1 m73)
      else none)
theorem g_X6_odds_b33 {X : XT} (h : MX X prog_1_method_18_code P_X6 5 (some .long)) (x1 : Int32) (x3 : Int32) (x4 : Int32) (x5 : Int32) (x7 : Int32) (next : Int32 × Int32 × Mem → Option (Int64 × Mem)) (exit : Int32 × Mem → Option (Int64 × Mem)) (hn : ∀ (y6 : Int32) (y8 : Int32) (n : Mem) (o2 : Option AV), Go X (Em X puL) 33 [some (.inr (.inr (0, 0))), some (.inl x1), o2, some (.inl x3), some (.inl x4), some (.inl x5), some (.inl y6), some (.inl x7), some (.inl y8)] [] n (next (y6, y8, n))) (hx : ∀ (y6 : Int32) (n : Mem) (o0 : Option AV) (o1 : Option AV) (o2 : Option AV) (o3 : Option AV) (o4 : Option AV) (o8 : Option AV), Go X (Em X puL) 90 [o0, o1, o2, o3, o4, some (.inl x5), some (.inl y6), some (.inl x7), o8] [] n (exit (y6, n))) (s : Int32 × Int32 × Mem) (o2 : Option AV) : Go X (Em X puL) 33 [some (.inr (.inr (0, 0))), some (.inl x1), o2, some (.inl x3), some (.inl x4), some (.inl x5), some (.inl s.1), some (.inl x7), some (.inl s.2.1)] [] s.2.2 (f_X6_odds_b33 x1 x3 x4 x5 x7 next exit s) := by
  unfold f_X6_odds_b33
  refine go_blk h.1 (is := [.iload 8, .bipush 64]) (pc' := 37) (ls' := [some (.inr (.inr (0, 0))), some (.inl x1), o2, some (.inl x3), some (.inl x4), some (.inl x5), some (.inl s.1), some (.inl x7), some (.inl s.2.1)]) (st' := [.inl (64 : Int32), .inl s.2.1]) (m' := s.2.2) (by decide +kernel) rfl ?_
  refine go_icmpge h.1 (off := 53) 90 (by decide +kernel) (by decide) (fun c37 => ?_) (fun c37 => ?_)
  · exact hx s.1 s.2.2 (some (.inr (.inr (0, 0)))) (some (.inl x1)) (o2) (some (.inl x3)) (some (.inl x4)) (some (.inl s.2.1))
  · refine go_blk h.1 (is := [.aload_n 0, .getfield 28, .aload_n 0, .getfield 21]) (pc' := 48) (ls' := [some (.inr (.inr (0, 0))), some (.inl x1), o2, some (.inl x3), some (.inl x4), some (.inl x5), some (.inl s.1), some (.inl x7), some (.inl s.2.1)]) (st' := [.inr (.inr (4, 0)), .inr (.inr (7, 0))]) (m' := s.2.2) (by decide +kernel) rfl ?_
    refine go_callV h.1 (index := 170) (n := 1) (t := 7) (i := 0) (ci := 0) (nf := 14) (cz := (RX0, TX0, 14)) (as := [.inr (.inr (4, 0))]) (rest := []) (ctr_X0_start (xl X) (xA X) (xC X) (xI X) (xk X) 0 s.2.2) (by decide +kernel) rfl rfl wd_v_X6_170 rfl (h.room (by first | decide | omega) (by decide)) h.cl (Nat.le_of_ble_eq_true rfl) puV_ok rfl (fun r48 m48 _ => ?_)
    show Go X (Em X puL) 51 [some (.inr (.inr (0, 0))), some (.inl x1), o2, some (.inl x3), some (.inl x4), some (.inl x5), some (.inl s.1), some (.inl x7), some (.inl s.2.1)] [] m48 _
    refine go_blk h.1 (is := [.aload_n 0, .getfield 28, .iload 8, .putfield 131, .aload_n 0, .getfield 28, .aload_n 0, .getfield 13, .iload_n 1]) (pc' := 69) (ls' := [some (.inr (.inr (0, 0))), some (.inl x1), o2, some (.inl x3), some (.inl x4), some (.inl x5), some (.inl s.1), some (.inl x7), some (.inl s.2.1)]) (st' := [.inl x1, .inr (.inr (1, 0)), .inr (.inr (7, 0))]) (m' := (mset m48 7 0 10 s.2.1)) (by decide +kernel) rfl ?_
    refine go_aald h.1 (kd := 0) (z := (2, (ix x1))) (by decide +kernel) rfl rfl (by decide) rfl (fun b69 => ?_)
    refine go_blk h.1 (is := [.iload_n 3, .iload 4]) (pc' := 73) (ls' := [some (.inr (.inr (0, 0))), some (.inl x1), o2, some (.inl x3), some (.inl x4), some (.inl x5), some (.inl s.1), some (.inl x7), some (.inl s.2.1)]) (st' := [.inl x4, .inl x3, .inr (.inr (2, (ix x1))), .inr (.inr (7, 0))]) (m' := (mset m48 7 0 10 s.2.1)) (by decide +kernel) rfl ?_
    refine go_callV h.1 (index := 174) (n := 3) (t := 7) (i := 0) (ci := 0) (nf := 14) (cz := (RX0, TX0, 14)) (as := [.inr (.inr (2, (ix x1))), .inl x3, .inl x4]) (rest := []) (ctr_X0_walk (xl X) (xA X) (xC X) (xI X) (xk X) 0 (ix x1) x3 x4 (mset m48 7 0 10 s.2.1)) (by decide +kernel) rfl rfl wd_v_X6_174 rfl (h.room (by first | decide | omega) (by decide)) h.cl (Nat.le_of_ble_eq_true rfl) puI_ok rfl (fun r73 m73 _ => ?_)
    show Go X (Em X puL) 76 [some (.inr (.inr (0, 0))), some (.inl x1), o2, some (.inl x3), some (.inl x4), some (.inl x5), some (.inl s.1), some (.inl x7), some (.inl s.2.1)] [.inl r73] m73 _
    refine go_blk h.1 (is := [.bipush (-9)]) (pc' := 78) (ls' := [some (.inr (.inr (0, 0))), some (.inl x1), o2, some (.inl x3), some (.inl x4), some (.inl x5), some (.inl s.1), some (.inl x7), some (.inl s.2.1)]) (st' := [.inl (-9 : Int32), .inl r73]) (m' := m73) (by decide +kernel) rfl ?_
    refine go_icmpne h.1 (off := 6) 84 (by decide +kernel) (by decide) (fun c78 => ?_) (fun c78 => ?_)
    · exact g_X6_odds_j84 h next exit x1 x3 x4 x5 s.1 x7 s.2.1 m73 (o2) hn hx
    · refine go_blk h.1 (is := [.iinc 6 1]) (pc' := 84) (ls' := [some (.inr (.inr (0, 0))), some (.inl x1), o2, some (.inl x3), some (.inl x4), some (.inl x5), some (.inl (s.1 + (1 : Int32))), some (.inl x7), some (.inl s.2.1)]) (st' := []) (m' := m73) (by decide +kernel) rfl ?_
      exact g_X6_odds_j84 h next exit x1 x3 x4 x5 (s.1 + (1 : Int32)) x7 s.2.1 m73 (o2) hn hx

def f_X6_odds_b93 (x5 : Int32) (next : Int32 × Int32 × Int32 × Mem → Option (Int64 × Mem)) (exit : Int32 × Int32 × Mem → Option (Int64 × Mem)) (s : Int32 × Int32 × Int32 × Mem) : Option (Int64 × Mem) :=
  if (6 : Int32) ≤ s.2.2.1 then
    exit (s.1, s.2.1, s.2.2.2)
  else
    if ¬ (2 : Int32) = 0 then dv (s.1 - s.1 / (2 : Int32) * (2 : Int32)) (fun q103 =>
      if q103 = 0 then
        if ¬ (2 : Int32) = 0 then dv (s.1 / (2 : Int32)) (fun q110 =>
          if ¬ (2 : Int32) = 0 then dv (s.2.1 / (2 : Int32)) (fun q116 =>
            next (q110, q116, (s.2.2.1 + (1 : Int32)), s.2.2.2))
          else none)
        else none
      else
        exit (s.1, s.2.1, s.2.2.2))
    else none
theorem g_X6_odds_b93 {X : XT} (h : MX X prog_1_method_18_code P_X6 5 (some .long)) (x5 : Int32) (next : Int32 × Int32 × Int32 × Mem → Option (Int64 × Mem)) (exit : Int32 × Int32 × Mem → Option (Int64 × Mem)) (hn : ∀ (y6 : Int32) (y7 : Int32) (y8 : Int32) (n : Mem) (o0 : Option AV) (o1 : Option AV) (o2 : Option AV) (o3 : Option AV) (o4 : Option AV), Go X (Em X puL) 93 [o0, o1, o2, o3, o4, some (.inl x5), some (.inl y6), some (.inl y7), some (.inl y8)] [] n (next (y6, y7, y8, n))) (hx : ∀ (y6 : Int32) (y7 : Int32) (n : Mem) (o0 : Option AV) (o1 : Option AV) (o2 : Option AV) (o3 : Option AV) (o4 : Option AV) (o8 : Option AV), Go X (Em X puL) 125 [o0, o1, o2, o3, o4, some (.inl x5), some (.inl y6), some (.inl y7), o8] [] n (exit (y6, y7, n))) (s : Int32 × Int32 × Int32 × Mem) (o0 : Option AV) (o1 : Option AV) (o2 : Option AV) (o3 : Option AV) (o4 : Option AV) : Go X (Em X puL) 93 [o0, o1, o2, o3, o4, some (.inl x5), some (.inl s.1), some (.inl s.2.1), some (.inl s.2.2.1)] [] s.2.2.2 (f_X6_odds_b93 x5 next exit s) := by
  unfold f_X6_odds_b93
  refine go_blk h.1 (is := [.iload 8, .bipush 6]) (pc' := 97) (ls' := [o0, o1, o2, o3, o4, some (.inl x5), some (.inl s.1), some (.inl s.2.1), some (.inl s.2.2.1)]) (st' := [.inl (6 : Int32), .inl s.2.2.1]) (m' := s.2.2.2) (by decide +kernel) rfl ?_
  refine go_icmpge h.1 (off := 28) 125 (by decide +kernel) (by decide) (fun c97 => ?_) (fun c97 => ?_)
  · exact hx s.1 s.2.1 s.2.2.2 (o0) (o1) (o2) (o3) (o4) (some (.inl s.2.2.1))
  · refine go_blk h.1 (is := [.iload 6, .iconst 2]) (pc' := 103) (ls' := [o0, o1, o2, o3, o4, some (.inl x5), some (.inl s.1), some (.inl s.2.1), some (.inl s.2.2.1)]) (st' := [.inl (2 : Int32), .inl s.1]) (m' := s.2.2.2) (by decide +kernel) rfl ?_
    refine go_irem h.1 (by decide +kernel) (fun z103 q103 _ => ?_)
    refine go_ifne h.1 (off := 21) 125 (by decide +kernel) (by decide) (fun c104 => ?_) (fun c104 => ?_)
    · exact hx s.1 s.2.1 s.2.2.2 (o0) (o1) (o2) (o3) (o4) (some (.inl s.2.2.1))
    · refine go_blk h.1 (is := [.iload 6, .iconst 2]) (pc' := 110) (ls' := [o0, o1, o2, o3, o4, some (.inl x5), some (.inl s.1), some (.inl s.2.1), some (.inl s.2.2.1)]) (st' := [.inl (2 : Int32), .inl s.1]) (m' := s.2.2.2) (by decide +kernel) rfl ?_
      refine go_idiv h.1 (by decide +kernel) (fun z110 q110 _ => ?_)
      refine go_blk h.1 (is := [.istore 6, .iload 7, .iconst 2]) (pc' := 116) (ls' := [o0, o1, o2, o3, o4, some (.inl x5), some (.inl q110), some (.inl s.2.1), some (.inl s.2.2.1)]) (st' := [.inl (2 : Int32), .inl s.2.1]) (m' := s.2.2.2) (by decide +kernel) rfl ?_
      refine go_idiv h.1 (by decide +kernel) (fun z116 q116 _ => ?_)
      refine go_blk h.1 (is := [.istore 7, .iinc 8 1]) (pc' := 122) (ls' := [o0, o1, o2, o3, o4, some (.inl x5), some (.inl q110), some (.inl q116), some (.inl (s.2.2.1 + (1 : Int32)))]) (st' := []) (m' := s.2.2.2) (by decide +kernel) rfl ?_
      refine go_goto h.1 (off := -29) 93 (by decide +kernel) (by decide) ?_
      exact hn q110 q116 (s.2.2.1 + (1 : Int32)) s.2.2.2 (o0) (o1) (o2) (o3) (o4)

def f_X6_odds (x1 : Int32) (x2 : Int32) (x3 : Int32) (x4 : Int32) (x5 : Int32) (m : Mem) : Option (Int64 × Mem) :=
  bnd (f_X6_isWithin x5 (0 : Int32) (1 : Int32) m) (fun r10 m10 =>
    bnd (f_X6_refusalOf x1 x2 x3 x4 r10 m10) (fun r13 m13 =>
      if r13 = 0 then
        lpk (f_X6_odds_b33 x1 x3 x4 x5 (64 : Int32)) fuelN ((0 : Int32), (0 : Int32), m13) (fun t33 =>
          lpk (f_X6_odds_b93 x5) fuelN (t33.1, (64 : Int32), (0 : Int32), t33.2) (fun t93 =>
            if x5 = 0 then
              some (t93.1.toInt64, t93.2.2)
            else
              some (t93.2.1.toInt64, t93.2.2)))
      else
        some ((-9223372036854775808 : Int64), m13)))
theorem g_X6_odds {X : XT} (h : MX X prog_1_method_18_code P_X6 5 (some .long)) (x1 : Int32) (x2 : Int32) (x3 : Int32) (x4 : Int32) (x5 : Int32) (m : Mem) : Go X (Em X puL) 0 [some (.inr (.inr (0, 0))), some (.inl x1), some (.inl x2), some (.inl x3), some (.inl x4), some (.inl x5), none, none, none] [] m (f_X6_odds x1 x2 x3 x4 x5 m) := by
  unfold f_X6_odds
  refine go_blk h.1 (is := [.aload_n 0, .iload_n 1, .iload_n 2, .iload_n 3, .iload 4, .iload 5, .iconst 0, .iconst 1]) (pc' := 10) (ls' := [some (.inr (.inr (0, 0))), some (.inl x1), some (.inl x2), some (.inl x3), some (.inl x4), some (.inl x5), none, none, none]) (st' := [.inl (1 : Int32), .inl (0 : Int32), .inl x5, .inl x4, .inl x3, .inl x2, .inl x1, .inr (.inr (0, 0))]) (m' := m) (by decide +kernel) rfl ?_
  refine go_callS h.1 (index := 111) (n := 3) (as := [.inl x5, .inl (0 : Int32), .inl (1 : Int32)]) (rest := [.inl x4, .inl x3, .inl x2, .inl x1, .inr (.inr (0, 0))]) (ctr_X6_isWithin (xl X) (xA X) (xC X) (xI X) (xk X) x5 (0 : Int32) (1 : Int32) m) (by decide +kernel) wd_s_X6_111 rfl (h.room (by first | decide | omega) (by decide)) h.cl (Nat.le_of_ble_eq_true rfl) puI_ok rfl (fun r10 m10 _ => ?_)
  show Go X (Em X puL) 13 [some (.inr (.inr (0, 0))), some (.inl x1), some (.inl x2), some (.inl x3), some (.inl x4), some (.inl x5), none, none, none] [.inl r10, .inl x4, .inl x3, .inl x2, .inl x1, .inr (.inr (0, 0))] m10 _
  refine go_callV h.1 (index := 121) (n := 5) (t := 0) (i := 0) (ci := 6) (nf := 7) (cz := (RX6, TX6, 7)) (as := [.inl x1, .inl x2, .inl x3, .inl x4, .inl r10]) (rest := []) (ctr_X6_refusalOf (xl X) (xA X) (xC X) (xI X) (xk X) x1 x2 x3 x4 r10 m10) (by decide +kernel) rfl rfl wd_v_X6_121 rfl (h.room (by first | decide | omega) (by decide)) h.cl (Nat.le_of_ble_eq_true rfl) puI_ok rfl (fun r13 m13 _ => ?_)
  show Go X (Em X puL) 16 [some (.inr (.inr (0, 0))), some (.inl x1), some (.inl x2), some (.inl x3), some (.inl x4), some (.inl x5), none, none, none] [.inl r13] m13 _
  refine go_ifeq h.1 (off := 7) 23 (by decide +kernel) (by decide) (fun c16 => ?_) (fun c16 => ?_)
  · refine go_blk h.1 (is := [.iconst 0, .istore 6, .bipush 64, .istore 7, .iconst 0, .istore 8]) (pc' := 33) (ls' := [some (.inr (.inr (0, 0))), some (.inl x1), some (.inl x2), some (.inl x3), some (.inl x4), some (.inl x5), some (.inl (0 : Int32)), some (.inl (64 : Int32)), some (.inl (0 : Int32))]) (st' := []) (m' := m13) (by decide +kernel) rfl ?_
    refine go_lp2 (hd := fun (y6 : Int32) (y8 : Int32) (n : Mem) o => ∀ (o2 : Option AV), Go X (Em X puL) 33 [some (.inr (.inr (0, 0))), some (.inl x1), o2, some (.inl x3), some (.inl x4), some (.inl x5), some (.inl y6), some (.inl (64 : Int32)), some (.inl y8)] [] n o) (fun _ _ _ _ => go_none) (fun y6 y8 n nx_ hn_ => g_X6_odds_b33 h x1 x3 x4 x5 (64 : Int32) nx_ _ hn_ (fun z6_33 z_33 o0_33 o1_33 o2_33 o3_33 o4_33 o8_33 => ?_) (y6, y8, n)) fuelN (0 : Int32) (0 : Int32) m13 (some (.inl x2))
    refine go_blk h.1 (is := [.iconst 0, .istore 8]) (pc' := 93) (ls' := [o0_33, o1_33, o2_33, o3_33, o4_33, some (.inl x5), some (.inl z6_33), some (.inl (64 : Int32)), some (.inl (0 : Int32))]) (st' := []) (m' := z_33) (by decide +kernel) rfl ?_
    refine go_lp3 (hd := fun (y6 : Int32) (y7 : Int32) (y8 : Int32) (n : Mem) o => ∀ (o0 : Option AV) (o1 : Option AV) (o2 : Option AV) (o3 : Option AV) (o4 : Option AV), Go X (Em X puL) 93 [o0, o1, o2, o3, o4, some (.inl x5), some (.inl y6), some (.inl y7), some (.inl y8)] [] n o) (fun _ _ _ _ _ _ _ _ _ => go_none) (fun y6 y7 y8 n nx_ hn_ => g_X6_odds_b93 h x5 nx_ _ hn_ (fun z6_93 z7_93 z_93 o0_93 o1_93 o2_93 o3_93 o4_93 o8_93 => ?_) (y6, y7, y8, n)) fuelN z6_33 (64 : Int32) (0 : Int32) z_33 (o0_33) (o1_33) (o2_33) (o3_33) (o4_33)
    refine go_blk h.1 (is := [.iload 5]) (pc' := 127) (ls' := [o0_93, o1_93, o2_93, o3_93, o4_93, some (.inl x5), some (.inl z6_93), some (.inl z7_93), o8_93]) (st' := [.inl x5]) (m' := z_93) (by decide +kernel) rfl ?_
    refine go_ifne h.1 (off := 9) 136 (by decide +kernel) (by decide) (fun c127 => ?_) (fun c127 => ?_)
    · refine go_blk h.1 (is := [.iload 7, .i2l]) (pc' := 139) (ls' := [o0_93, o1_93, o2_93, o3_93, o4_93, some (.inl x5), some (.inl z6_93), some (.inl z7_93), o8_93]) (st' := [.inr (.inl z7_93.toInt64)]) (m' := z_93) (by decide +kernel) rfl ?_
      exact go_lret h.1 h.2.2.2.2 (by decide +kernel)
    · refine go_blk h.1 (is := [.iload 6, .i2l]) (pc' := 133) (ls' := [o0_93, o1_93, o2_93, o3_93, o4_93, some (.inl x5), some (.inl z6_93), some (.inl z7_93), o8_93]) (st' := [.inr (.inl z6_93.toInt64)]) (m' := z_93) (by decide +kernel) rfl ?_
      refine go_goto h.1 (off := 6) 139 (by decide +kernel) (by decide) ?_
      exact go_lret h.1 h.2.2.2.2 (by decide +kernel)
  · refine go_blk h.1 (is := [.ldc2_w 190]) (pc' := 22) (ls' := [some (.inr (.inr (0, 0))), some (.inl x1), some (.inl x2), some (.inl x3), some (.inl x4), some (.inl x5), none, none, none]) (st' := [.inr (.inl (-9223372036854775808 : Int64))]) (m' := m13) (by decide +kernel) rfl ?_
    exact go_lret h.1 h.2.2.2.2 (by decide +kernel)
theorem ctr_X6_odds (l : Launch) (A : AR → Nat) (dC : Nat → ClassId) (dI : Nat → Nat → Nat) (cs : Nat → ClassId) (x1 : Int32) (x2 : Int32) (x3 : Int32) (x4 : Int32) (x5 : Int32) (m : Mem) : Ctr l A dC dI cs yX6_odds prog_1_method_18_code 9 (some .long) 5 puL [.inr (.inr (0, 0)), .inl x1, .inl x2, .inl x3, .inl x4, .inl x5] m (f_X6_odds x1 x2 x3 x4 x5 m) :=
  ctr_of (P := P_X6) (by decide +kernel) rfl pt_X6 rfl rfl (fun X hC _ _ _ _ _ hR h0 h1 hr => g_X6_odds ⟨hC, hR, h0, h1, hr⟩ x1 x2 x3 x4 x5 m)

def f_J7_fill_53178_t3_b5 (w : Nat) (x1 : Int32) (x3 : Int32) (next : Int32 × Mem → Option (Unit × Mem)) (exit : Mem → Option (Unit × Mem)) (s : Int32 × Mem) : Option (Unit × Mem) :=
  if x3 ≤ s.1 then
    exit (s.2)
  else
    if inB s.1 60 = true then
      next ((s.1 + (1 : Int32)), (mset s.2 3 w (ix s.1) x1))
    else none
theorem g_J7_fill_53178_t3_b5 {X : XT} (h : MX X prog_12_method_103_code P_J7 0 none) (w : Nat) (x1 : Int32) (x3 : Int32) (next : Int32 × Mem → Option (Unit × Mem)) (exit : Mem → Option (Unit × Mem)) (hn : ∀ (y2 : Int32) (n : Mem), Go X (Em X puV) 5 [some (.inr (.inr (3, w))), some (.inl x1), some (.inl y2), some (.inl x3)] [] n (next (y2, n))) (hx : ∀ (n : Mem) (o0 : Option AV) (o1 : Option AV) (o2 : Option AV) (o3 : Option AV), Go X (Em X puV) 20 [o0, o1, o2, o3] [] n (exit (n))) (s : Int32 × Mem) : Go X (Em X puV) 5 [some (.inr (.inr (3, w))), some (.inl x1), some (.inl s.1), some (.inl x3)] [] s.2 (f_J7_fill_53178_t3_b5 w x1 x3 next exit s) := by
  unfold f_J7_fill_53178_t3_b5
  refine go_blk h.1 (is := [.iload_n 2, .iload_n 3]) (pc' := 7) (ls' := [some (.inr (.inr (3, w))), some (.inl x1), some (.inl s.1), some (.inl x3)]) (st' := [.inl x3, .inl s.1]) (m' := s.2) (by decide +kernel) rfl ?_
  refine go_icmpge h.1 (off := 13) 20 (by decide +kernel) (by decide) (fun c7 => ?_) (fun c7 => ?_)
  · exact hx s.2 (some (.inr (.inr (3, w)))) (some (.inl x1)) (some (.inl s.1)) (some (.inl x3))
  · refine go_blk h.1 (is := [.aload_n 0, .iload_n 2, .iload_n 1]) (pc' := 13) (ls' := [some (.inr (.inr (3, w))), some (.inl x1), some (.inl s.1), some (.inl x3)]) (st' := [.inl x1, .inl s.1, .inr (.inr (3, w))]) (m' := s.2) (by decide +kernel) rfl ?_
    refine go_iast h.1 (by decide +kernel) rfl rfl (fun b13 => ?_)
    refine go_blk h.1 (is := [.iinc 2 1]) (pc' := 17) (ls' := [some (.inr (.inr (3, w))), some (.inl x1), some (.inl (s.1 + (1 : Int32))), some (.inl x3)]) (st' := []) (m' := (mset s.2 3 w (ix s.1) x1)) (by decide +kernel) rfl ?_
    refine go_goto h.1 (off := -12) 5 (by decide +kernel) (by decide) ?_
    exact hn (s.1 + (1 : Int32)) (mset s.2 3 w (ix s.1) x1)

def f_J7_fill_53178_t3 (w : Nat) (x1 : Int32) (m : Mem) : Option (Unit × Mem) :=
  lpk (f_J7_fill_53178_t3_b5 w x1 (60 : Int32)) fuelN ((0 : Int32), m) (fun t5 =>
    some ((), t5))
theorem g_J7_fill_53178_t3 {X : XT} (h : MX X prog_12_method_103_code P_J7 0 none) (w : Nat) (x1 : Int32) (m : Mem) : Go X (Em X puV) 0 [some (.inr (.inr (3, w))), some (.inl x1), none, none] [] m (f_J7_fill_53178_t3 w x1 m) := by
  unfold f_J7_fill_53178_t3
  refine go_blk h.1 (is := [.iconst 0, .istore_n 2, .aload_n 0]) (pc' := 3) (ls' := [some (.inr (.inr (3, w))), some (.inl x1), some (.inl (0 : Int32)), none]) (st' := [.inr (.inr (3, w))]) (m' := m) (by decide +kernel) rfl ?_
  refine go_alen h.1 (by decide +kernel) rfl rfl ?_
  show Go X (Em X puV) 4 [some (.inr (.inr (3, w))), some (.inl x1), some (.inl (0 : Int32)), none] [.inl (60 : Int32)] m _
  refine go_blk h.1 (is := [.istore_n 3]) (pc' := 5) (ls' := [some (.inr (.inr (3, w))), some (.inl x1), some (.inl (0 : Int32)), some (.inl (60 : Int32))]) (st' := []) (m' := m) (by decide +kernel) rfl ?_
  refine go_lp1 (hd := fun (y2 : Int32) (n : Mem) o => Go X (Em X puV) 5 [some (.inr (.inr (3, w))), some (.inl x1), some (.inl y2), some (.inl (60 : Int32))] [] n o) (fun _ _ => go_none) (fun y2 n nx_ hn_ => g_J7_fill_53178_t3_b5 h w x1 (60 : Int32) nx_ _ hn_ (fun z_5 o0_5 o1_5 o2_5 o3_5 => ?_) (y2, n)) fuelN (0 : Int32) m
  exact go_vret h.1 h.2.2.2.2 (by decide +kernel)
theorem ctr_J7_fill_53178_t3 (l : Launch) (A : AR → Nat) (dC : Nat → ClassId) (dI : Nat → Nat → Nat) (cs : Nat → ClassId) (w : Nat) (x1 : Int32) (m : Mem) : Ctr l A dC dI cs yJ7_fill_53178 prog_12_method_103_code 4 none 0 puV [.inr (.inr (3, w)), .inl x1] m (f_J7_fill_53178_t3 w x1 m) :=
  ctr_of (P := P_J7) (by decide +kernel) rfl pt_J7 rfl rfl (fun X hC _ _ _ _ _ hR h0 h1 hr => g_J7_fill_53178_t3 ⟨hC, hR, h0, h1, hr⟩ w x1 m)

def f_X4_begin (w : Nat) (x1 : Int32) (x2 : Int32) (m : Mem) : Option (Unit × Mem) :=
  bnd (f_J7_fill_53178_t3 w (0 : Int32) m) (fun _ m5 =>
    some ((), (mset (mset (mset m5 2 w 1 (1 : Int32)) 2 w 2 x1) 2 w 3 (if (60 : Int32) < (if x2 < (0 : Int32) then (0 : Int32) else x2) then (60 : Int32) else (if x2 < (0 : Int32) then (0 : Int32) else x2)))))
theorem g_X4_begin {X : XT} (h : MX X prog_6_method_2_code P_X4 1 none) (w : Nat) (x1 : Int32) (x2 : Int32) (m : Mem) : Go X (Em X puV) 0 [some (.inr (.inr (2, w))), some (.inl x1), some (.inl x2)] [] m (f_X4_begin w x1 x2 m) := by
  unfold f_X4_begin
  refine go_blk h.1 (is := [.aload_n 0, .getfield 9, .iconst 0]) (pc' := 5) (ls' := [some (.inr (.inr (2, w))), some (.inl x1), some (.inl x2)]) (st' := [.inl (0 : Int32), .inr (.inr (3, w))]) (m' := m) (by decide +kernel) rfl ?_
  refine go_callS h.1 (index := 26) (n := 2) (as := [.inr (.inr (3, w)), .inl (0 : Int32)]) (rest := []) (ctr_J7_fill_53178_t3 (xl X) (xA X) (xC X) (xI X) (xk X) w (0 : Int32) m) (by decide +kernel) wd_s_X4_26 rfl (h.room (by first | decide | omega) (by decide)) h.cl (Nat.le_of_ble_eq_true rfl) puV_ok rfl (fun r5 m5 _ => ?_)
  show Go X (Em X puV) 8 [some (.inr (.inr (2, w))), some (.inl x1), some (.inl x2)] [] m5 _
  refine go_blk h.1 (is := [.aload_n 0, .iconst 1, .putfield 15, .aload_n 0, .iload_n 1, .putfield 19, .aload_n 0, .iload_n 2, .iconst 0]) (pc' := 21) (ls' := [some (.inr (.inr (2, w))), some (.inl x1), some (.inl x2)]) (st' := [.inl (0 : Int32), .inl x2, .inr (.inr (2, w))]) (m' := (mset (mset m5 2 w 1 (1 : Int32)) 2 w 2 x1)) (by decide +kernel) rfl ?_
  refine go_max h (index := 32) (by first | decide | omega) (by decide +kernel) wd_ml_X4_32 wd_st_max wd_in_Math wd_co_max (Nat.le_of_ble_eq_true rfl) ?_
  show Go X (Em X puV) 24 [some (.inr (.inr (2, w))), some (.inl x1), some (.inl x2)] [.inl (if x2 < (0 : Int32) then (0 : Int32) else x2), .inr (.inr (2, w))] (mset (mset m5 2 w 1 (1 : Int32)) 2 w 2 x1) _
  refine go_blk h.1 (is := [.bipush 60]) (pc' := 26) (ls' := [some (.inr (.inr (2, w))), some (.inl x1), some (.inl x2)]) (st' := [.inl (60 : Int32), .inl (if x2 < (0 : Int32) then (0 : Int32) else x2), .inr (.inr (2, w))]) (m' := (mset (mset m5 2 w 1 (1 : Int32)) 2 w 2 x1)) (by decide +kernel) rfl ?_
  refine go_min h (index := 38) (by first | decide | omega) (by decide +kernel) wd_ml_X4_38 wd_st_min wd_in_Math wd_co_min (Nat.le_of_ble_eq_true rfl) ?_
  show Go X (Em X puV) 29 [some (.inr (.inr (2, w))), some (.inl x1), some (.inl x2)] [.inl (if (60 : Int32) < (if x2 < (0 : Int32) then (0 : Int32) else x2) then (60 : Int32) else (if x2 < (0 : Int32) then (0 : Int32) else x2)), .inr (.inr (2, w))] (mset (mset m5 2 w 1 (1 : Int32)) 2 w 2 x1) _
  refine go_blk h.1 (is := [.putfield 23]) (pc' := 32) (ls' := [some (.inr (.inr (2, w))), some (.inl x1), some (.inl x2)]) (st' := []) (m' := (mset (mset (mset m5 2 w 1 (1 : Int32)) 2 w 2 x1) 2 w 3 (if (60 : Int32) < (if x2 < (0 : Int32) then (0 : Int32) else x2) then (60 : Int32) else (if x2 < (0 : Int32) then (0 : Int32) else x2)))) (by decide +kernel) rfl ?_
  exact go_vret h.1 h.2.2.2.2 (by decide +kernel)
theorem ctr_X4_begin (l : Launch) (A : AR → Nat) (dC : Nat → ClassId) (dI : Nat → Nat → Nat) (cs : Nat → ClassId) (w : Nat) (x1 : Int32) (x2 : Int32) (m : Mem) : Ctr l A dC dI cs yX4_begin prog_6_method_2_code 3 none 1 puV [.inr (.inr (2, w)), .inl x1, .inl x2] m (f_X4_begin w x1 x2 m) :=
  ctr_of (P := P_X4) (by decide +kernel) rfl pt_X4 rfl rfl (fun X hC _ _ _ _ _ hR h0 h1 hr => g_X4_begin ⟨hC, hR, h0, h1, hr⟩ w x1 x2 m)

def f_X6_sheet (x1 : Int32) (x2 : Int32) (x3 : Int32) (m : Mem) : Option (Int32 × Mem) :=
  bnd (f_X6_isSheet x1 (mset m 0 0 6 (0 : Int32))) (fun r6 m6 =>
    if r6 = 0 then
      some ((-1 : Int32), m6)
    else
      bnd (f_X6_isLane x2 m6) (fun r15 m15 =>
        if r15 = 0 then
          some ((-2 : Int32), m15)
        else
          if x3 ≤ (60 : Int32) then
            if 0 ≤ x3 then
              if inB x1 4 = true then
                bnd (f_X4_begin (ix x1) x2 x3 m15) (fun _ m48 =>
                  some ((1 : Int32), m48))
              else none
            else
              bnd (f_X6_faulty (4 : Int32) m15) (fun r36 m36 =>
                some (r36, m36))
          else
            some ((-2 : Int32), m15)))
theorem g_X6_sheet {X : XT} (h : MX X prog_1_method_19_code P_X6 2 (some .int)) (x1 : Int32) (x2 : Int32) (x3 : Int32) (m : Mem) : Go X (Em X puI) 0 [some (.inr (.inr (0, 0))), some (.inl x1), some (.inl x2), some (.inl x3)] [] m (f_X6_sheet x1 x2 x3 m) := by
  unfold f_X6_sheet
  refine go_blk h.1 (is := [.aload_n 0, .iconst 0, .putfield 50, .iload_n 1]) (pc' := 6) (ls' := [some (.inr (.inr (0, 0))), some (.inl x1), some (.inl x2), some (.inl x3)]) (st' := [.inl x1]) (m' := (mset m 0 0 6 (0 : Int32))) (by decide +kernel) rfl ?_
  refine go_callS h.1 (index := 53) (n := 1) (as := [.inl x1]) (rest := []) (ctr_X6_isSheet (xl X) (xA X) (xC X) (xI X) (xk X) x1 (mset m 0 0 6 (0 : Int32))) (by decide +kernel) wd_s_X6_53 rfl (h.room (by first | decide | omega) (by decide)) h.cl (Nat.le_of_ble_eq_true rfl) puI_ok rfl (fun r6 m6 _ => ?_)
  show Go X (Em X puI) 9 [some (.inr (.inr (0, 0))), some (.inl x1), some (.inl x2), some (.inl x3)] [.inl r6] m6 _
  refine go_ifne h.1 (off := 5) 14 (by decide +kernel) (by decide) (fun c9 => ?_) (fun c9 => ?_)
  · refine go_blk h.1 (is := [.iload_n 2]) (pc' := 15) (ls' := [some (.inr (.inr (0, 0))), some (.inl x1), some (.inl x2), some (.inl x3)]) (st' := [.inl x2]) (m' := m6) (by decide +kernel) rfl ?_
    refine go_callS h.1 (index := 57) (n := 1) (as := [.inl x2]) (rest := []) (ctr_X6_isLane (xl X) (xA X) (xC X) (xI X) (xk X) x2 m6) (by decide +kernel) wd_s_X6_57 rfl (h.room (by first | decide | omega) (by decide)) h.cl (Nat.le_of_ble_eq_true rfl) puI_ok rfl (fun r15 m15 _ => ?_)
    show Go X (Em X puI) 18 [some (.inr (.inr (0, 0))), some (.inl x1), some (.inl x2), some (.inl x3)] [.inl r15] m15 _
    refine go_ifeq h.1 (off := 9) 27 (by decide +kernel) (by decide) (fun c18 => ?_) (fun c18 => ?_)
    · refine go_blk h.1 (is := [.bipush (-2)]) (pc' := 29) (ls' := [some (.inr (.inr (0, 0))), some (.inl x1), some (.inl x2), some (.inl x3)]) (st' := [.inl (-2 : Int32)]) (m' := m15) (by decide +kernel) rfl ?_
      exact go_iret h.1 h.2.2.2.2 (by decide +kernel)
    · refine go_blk h.1 (is := [.iload_n 3, .bipush 60]) (pc' := 24) (ls' := [some (.inr (.inr (0, 0))), some (.inl x1), some (.inl x2), some (.inl x3)]) (st' := [.inl (60 : Int32), .inl x3]) (m' := m15) (by decide +kernel) rfl ?_
      refine go_icmple h.1 (off := 6) 30 (by decide +kernel) (by decide) (fun c24 => ?_) (fun c24 => ?_)
      · refine go_blk h.1 (is := [.iload_n 3]) (pc' := 31) (ls' := [some (.inr (.inr (0, 0))), some (.inl x1), some (.inl x2), some (.inl x3)]) (st' := [.inl x3]) (m' := m15) (by decide +kernel) rfl ?_
        refine go_ifge h.1 (off := 9) 40 (by decide +kernel) (by decide) (fun c31 => ?_) (fun c31 => ?_)
        · refine go_blk h.1 (is := [.aload_n 0, .getfield 13, .iload_n 1]) (pc' := 45) (ls' := [some (.inr (.inr (0, 0))), some (.inl x1), some (.inl x2), some (.inl x3)]) (st' := [.inl x1, .inr (.inr (1, 0))]) (m' := m15) (by decide +kernel) rfl ?_
          refine go_aald h.1 (kd := 0) (z := (2, (ix x1))) (by decide +kernel) rfl rfl (by decide) rfl (fun b45 => ?_)
          refine go_blk h.1 (is := [.iload_n 2, .iload_n 3]) (pc' := 48) (ls' := [some (.inr (.inr (0, 0))), some (.inl x1), some (.inl x2), some (.inl x3)]) (st' := [.inl x3, .inl x2, .inr (.inr (2, (ix x1)))]) (m' := m15) (by decide +kernel) rfl ?_
          refine go_callV h.1 (index := 192) (n := 2) (t := 2) (i := (ix x1)) (ci := 4) (nf := 4) (cz := (RX4, TX4, 4)) (as := [.inl x2, .inl x3]) (rest := []) (ctr_X4_begin (xl X) (xA X) (xC X) (xI X) (xk X) (ix x1) x2 x3 m15) (by decide +kernel) rfl rfl wd_v_X6_192 rfl (h.room (by first | decide | omega) (by decide)) h.cl (Nat.le_of_ble_eq_true rfl) puV_ok rfl (fun r48 m48 _ => ?_)
          show Go X (Em X puI) 51 [some (.inr (.inr (0, 0))), some (.inl x1), some (.inl x2), some (.inl x3)] [] m48 _
          refine go_blk h.1 (is := [.iconst 1]) (pc' := 52) (ls' := [some (.inr (.inr (0, 0))), some (.inl x1), some (.inl x2), some (.inl x3)]) (st' := [.inl (1 : Int32)]) (m' := m48) (by decide +kernel) rfl ?_
          exact go_iret h.1 h.2.2.2.2 (by decide +kernel)
        · refine go_blk h.1 (is := [.aload_n 0, .iconst 4]) (pc' := 36) (ls' := [some (.inr (.inr (0, 0))), some (.inl x1), some (.inl x2), some (.inl x3)]) (st' := [.inl (4 : Int32), .inr (.inr (0, 0))]) (m' := m15) (by decide +kernel) rfl ?_
          refine go_callV h.1 (index := 64) (n := 1) (t := 0) (i := 0) (ci := 6) (nf := 7) (cz := (RX6, TX6, 7)) (as := [.inl (4 : Int32)]) (rest := []) (ctr_X6_faulty (xl X) (xA X) (xC X) (xI X) (xk X) (4 : Int32) m15) (by decide +kernel) rfl rfl wd_v_X6_64 rfl (h.room (by first | decide | omega) (by decide)) h.cl (Nat.le_of_ble_eq_true rfl) puI_ok rfl (fun r36 m36 _ => ?_)
          show Go X (Em X puI) 39 [some (.inr (.inr (0, 0))), some (.inl x1), some (.inl x2), some (.inl x3)] [.inl r36] m36 _
          exact go_iret h.1 h.2.2.2.2 (by decide +kernel)
      · refine go_blk h.1 (is := [.bipush (-2)]) (pc' := 29) (ls' := [some (.inr (.inr (0, 0))), some (.inl x1), some (.inl x2), some (.inl x3)]) (st' := [.inl (-2 : Int32)]) (m' := m15) (by decide +kernel) rfl ?_
        exact go_iret h.1 h.2.2.2.2 (by decide +kernel)
  · refine go_blk h.1 (is := [.iconst (-1)]) (pc' := 13) (ls' := [some (.inr (.inr (0, 0))), some (.inl x1), some (.inl x2), some (.inl x3)]) (st' := [.inl (-1 : Int32)]) (m' := m6) (by decide +kernel) rfl ?_
    exact go_iret h.1 h.2.2.2.2 (by decide +kernel)
theorem ctr_X6_sheet (l : Launch) (A : AR → Nat) (dC : Nat → ClassId) (dI : Nat → Nat → Nat) (cs : Nat → ClassId) (x1 : Int32) (x2 : Int32) (x3 : Int32) (m : Mem) : Ctr l A dC dI cs yX6_sheet prog_1_method_19_code 4 (some .int) 2 puI [.inr (.inr (0, 0)), .inl x1, .inl x2, .inl x3] m (f_X6_sheet x1 x2 x3 m) :=
  ctr_of (P := P_X6) (by decide +kernel) rfl pt_X6 rfl rfl (fun X hC _ _ _ _ _ hR h0 h1 hr => g_X6_sheet ⟨hC, hR, h0, h1, hr⟩ x1 x2 x3 m)

def f_X6_lose_j26 (s0 : Int32) (x1 : Int32) (m : Mem) : Option (Int32 × Mem) :=
  if inB x1 4 = true then
    some (s0, (mset m 2 (ix x1) 1 (0 : Int32)))
  else none
theorem g_X6_lose_j26 {X : XT} (h : MX X prog_1_method_20_code P_X6 2 (some .int)) (s0 : Int32) (x1 : Int32) (m : Mem) (o2 : Option AV) : Go X (Em X puI) 26 [some (.inr (.inr (0, 0))), some (.inl x1), o2] [.inl s0] m (f_X6_lose_j26 s0 x1 m) := by
  unfold f_X6_lose_j26
  refine go_blk h.1 (is := [.istore_n 2, .aload_n 0, .getfield 13, .iload_n 1]) (pc' := 32) (ls' := [some (.inr (.inr (0, 0))), some (.inl x1), some (.inl s0)]) (st' := [.inl x1, .inr (.inr (1, 0))]) (m' := m) (by decide +kernel) rfl ?_
  refine go_aald h.1 (kd := 0) (z := (2, (ix x1))) (by decide +kernel) rfl rfl (by decide) rfl (fun b32 => ?_)
  refine go_blk h.1 (is := [.iconst 0, .putfield 196, .iload_n 2]) (pc' := 38) (ls' := [some (.inr (.inr (0, 0))), some (.inl x1), some (.inl s0)]) (st' := [.inl s0]) (m' := (mset m 2 (ix x1) 1 (0 : Int32))) (by decide +kernel) rfl ?_
  exact go_iret h.1 h.2.2.2.2 (by decide +kernel)

def f_X6_lose (x1 : Int32) (m : Mem) : Option (Int32 × Mem) :=
  bnd (f_X6_isSheet x1 m) (fun r1 m1 =>
    if r1 = 0 then
      some ((-1 : Int32), m1)
    else
      if inB x1 4 = true then
        if (m1 2 (ix x1) 1) = 0 then
          f_X6_lose_j26 (0 : Int32) x1 m1
        else
          f_X6_lose_j26 (1 : Int32) x1 m1
      else none)
theorem g_X6_lose {X : XT} (h : MX X prog_1_method_20_code P_X6 2 (some .int)) (x1 : Int32) (m : Mem) : Go X (Em X puI) 0 [some (.inr (.inr (0, 0))), some (.inl x1), none] [] m (f_X6_lose x1 m) := by
  unfold f_X6_lose
  refine go_blk h.1 (is := [.iload_n 1]) (pc' := 1) (ls' := [some (.inr (.inr (0, 0))), some (.inl x1), none]) (st' := [.inl x1]) (m' := m) (by decide +kernel) rfl ?_
  refine go_callS h.1 (index := 53) (n := 1) (as := [.inl x1]) (rest := []) (ctr_X6_isSheet (xl X) (xA X) (xC X) (xI X) (xk X) x1 m) (by decide +kernel) wd_s_X6_53 rfl (h.room (by first | decide | omega) (by decide)) h.cl (Nat.le_of_ble_eq_true rfl) puI_ok rfl (fun r1 m1 _ => ?_)
  show Go X (Em X puI) 4 [some (.inr (.inr (0, 0))), some (.inl x1), none] [.inl r1] m1 _
  refine go_ifne h.1 (off := 5) 9 (by decide +kernel) (by decide) (fun c4 => ?_) (fun c4 => ?_)
  · refine go_blk h.1 (is := [.aload_n 0, .getfield 13, .iload_n 1]) (pc' := 14) (ls' := [some (.inr (.inr (0, 0))), some (.inl x1), none]) (st' := [.inl x1, .inr (.inr (1, 0))]) (m' := m1) (by decide +kernel) rfl ?_
    refine go_aald h.1 (kd := 0) (z := (2, (ix x1))) (by decide +kernel) rfl rfl (by decide) rfl (fun b14 => ?_)
    refine go_blk h.1 (is := [.getfield 196]) (pc' := 18) (ls' := [some (.inr (.inr (0, 0))), some (.inl x1), none]) (st' := [.inl (m1 2 (ix x1) 1)]) (m' := m1) (by decide +kernel) rfl ?_
    refine go_ifeq h.1 (off := 7) 25 (by decide +kernel) (by decide) (fun c18 => ?_) (fun c18 => ?_)
    · refine go_blk h.1 (is := [.iconst 0]) (pc' := 26) (ls' := [some (.inr (.inr (0, 0))), some (.inl x1), none]) (st' := [.inl (0 : Int32)]) (m' := m1) (by decide +kernel) rfl ?_
      exact g_X6_lose_j26 h (0 : Int32) x1 m1 (none)
    · refine go_blk h.1 (is := [.iconst 1]) (pc' := 22) (ls' := [some (.inr (.inr (0, 0))), some (.inl x1), none]) (st' := [.inl (1 : Int32)]) (m' := m1) (by decide +kernel) rfl ?_
      refine go_goto h.1 (off := 4) 26 (by decide +kernel) (by decide) ?_
      exact g_X6_lose_j26 h (1 : Int32) x1 m1 (none)
  · refine go_blk h.1 (is := [.iconst (-1)]) (pc' := 8) (ls' := [some (.inr (.inr (0, 0))), some (.inl x1), none]) (st' := [.inl (-1 : Int32)]) (m' := m1) (by decide +kernel) rfl ?_
    exact go_iret h.1 h.2.2.2.2 (by decide +kernel)
theorem ctr_X6_lose (l : Launch) (A : AR → Nat) (dC : Nat → ClassId) (dI : Nat → Nat → Nat) (cs : Nat → ClassId) (x1 : Int32) (m : Mem) : Ctr l A dC dI cs yX6_lose prog_1_method_20_code 3 (some .int) 2 puI [.inr (.inr (0, 0)), .inl x1] m (f_X6_lose x1 m) :=
  ctr_of (P := P_X6) (by decide +kernel) rfl pt_X6 rfl rfl (fun X hC _ _ _ _ _ hR h0 h1 hr => g_X6_lose ⟨hC, hR, h0, h1, hr⟩ x1 m)

def f_X4_cut (w : Nat) (x1 : Int32) (m : Mem) : Option (Int32 × Mem) :=
  if (m 2 w 2) = (0 : Int32) then
    some (x1.toInt8.toInt32, m)
  else
    if (m 2 w 2) = (1 : Int32) then
      some (x1.toInt16.toInt32, m)
    else
      some (x1, m)
theorem g_X4_cut {X : XT} (h : MX X prog_6_method_7_code P_X4 0 (some .int)) (w : Nat) (x1 : Int32) (m : Mem) : Go X (Em X puI) 0 [some (.inr (.inr (2, w))), some (.inl x1)] [] m (f_X4_cut w x1 m) := by
  unfold f_X4_cut
  refine go_blk h.1 (is := [.aload_n 0, .getfield 19]) (pc' := 4) (ls' := [some (.inr (.inr (2, w))), some (.inl x1)]) (st' := [.inl (m 2 w 2)]) (m' := m) (by decide +kernel) rfl ?_
  refine go_ite (fun w4_0 => ?_) (fun w4_0 => ?_)
  · refine go_lsIn h.1 (dflt := 34) (ps := #[(0, 28), (1, 31)]) (len := 28) (off := 28) (0 : Int32) 32 w4_0 (by decide +kernel) (by decide) rfl (by decide) ?_
    refine go_blk h.1 (is := [.iload_n 1, .i2b]) (pc' := 34) (ls' := [some (.inr (.inr (2, w))), some (.inl x1)]) (st' := [.inl x1.toInt8.toInt32]) (m' := m) (by decide +kernel) rfl ?_
    exact go_iret h.1 h.2.2.2.2 (by decide +kernel)
  · refine go_ite (fun w4_1 => ?_) (fun w4_1 => ?_)
    · refine go_lsIn h.1 (dflt := 34) (ps := #[(0, 28), (1, 31)]) (len := 28) (off := 31) (1 : Int32) 35 w4_1 (by decide +kernel) (by decide) rfl (by decide) ?_
      refine go_blk h.1 (is := [.iload_n 1, .i2s]) (pc' := 37) (ls' := [some (.inr (.inr (2, w))), some (.inl x1)]) (st' := [.inl x1.toInt16.toInt32]) (m' := m) (by decide +kernel) rfl ?_
      exact go_iret h.1 h.2.2.2.2 (by decide +kernel)
    · refine go_ls h.1 (dflt := 34) (ps := #[(0, 28), (1, 31)]) (len := 28) 38 (off := 34) (by decide +kernel) (by decide) (by simp only [Op.lookupswitch.offset]; rw [if_neg (fun q => toInt_ne w4_0 q.symm)]; rw [if_neg (fun q => toInt_ne w4_1 q.symm)]) (by decide) ?_
      refine go_blk h.1 (is := [.iload_n 1]) (pc' := 39) (ls' := [some (.inr (.inr (2, w))), some (.inl x1)]) (st' := [.inl x1]) (m' := m) (by decide +kernel) rfl ?_
      exact go_iret h.1 h.2.2.2.2 (by decide +kernel)
theorem ctr_X4_cut (l : Launch) (A : AR → Nat) (dC : Nat → ClassId) (dI : Nat → Nat → Nat) (cs : Nat → ClassId) (w : Nat) (x1 : Int32) (m : Mem) : Ctr l A dC dI cs yX4_cut prog_6_method_7_code 2 (some .int) 0 puI [.inr (.inr (2, w)), .inl x1] m (f_X4_cut w x1 m) :=
  ctr_of (P := P_X4) (by decide +kernel) rfl pt_X4 rfl rfl (fun X hC _ _ _ _ _ hR h0 h1 hr => g_X4_cut ⟨hC, hR, h0, h1, hr⟩ w x1 m)

def f_X4_set (w : Nat) (x1 : Int32) (x2 : Int32) (m : Mem) : Option (Unit × Mem) :=
  bnd (f_X4_holds w x1 (1 : Int32) m) (fun r3 m3 =>
    if r3 = 0 then
      some ((), m3)
    else
      bnd (f_X4_cut w x2 m3) (fun r16 m16 =>
        if inB x1 60 = true then
          some ((), (mset m16 3 w (ix x1) r16))
        else none))
theorem g_X4_set {X : XT} (h : MX X prog_6_method_6_code P_X4 1 none) (w : Nat) (x1 : Int32) (x2 : Int32) (m : Mem) : Go X (Em X puV) 0 [some (.inr (.inr (2, w))), some (.inl x1), some (.inl x2)] [] m (f_X4_set w x1 x2 m) := by
  unfold f_X4_set
  refine go_blk h.1 (is := [.aload_n 0, .iload_n 1, .iconst 1]) (pc' := 3) (ls' := [some (.inr (.inr (2, w))), some (.inl x1), some (.inl x2)]) (st' := [.inl (1 : Int32), .inl x1, .inr (.inr (2, w))]) (m' := m) (by decide +kernel) rfl ?_
  refine go_callV h.1 (index := 41) (n := 2) (t := 2) (i := w) (ci := 4) (nf := 4) (cz := (RX4, TX4, 4)) (as := [.inl x1, .inl (1 : Int32)]) (rest := []) (ctr_X4_holds (xl X) (xA X) (xC X) (xI X) (xk X) w x1 (1 : Int32) m) (by decide +kernel) rfl rfl wd_v_X4_41 rfl (h.room (by first | decide | omega) (by decide)) h.cl (Nat.le_of_ble_eq_true rfl) puI_ok rfl (fun r3 m3 _ => ?_)
  show Go X (Em X puV) 6 [some (.inr (.inr (2, w))), some (.inl x1), some (.inl x2)] [.inl r3] m3 _
  refine go_ifeq h.1 (off := 14) 20 (by decide +kernel) (by decide) (fun c6 => ?_) (fun c6 => ?_)
  · exact go_vret h.1 h.2.2.2.2 (by decide +kernel)
  · refine go_blk h.1 (is := [.aload_n 0, .getfield 9, .iload_n 1, .aload_n 0, .iload_n 2]) (pc' := 16) (ls' := [some (.inr (.inr (2, w))), some (.inl x1), some (.inl x2)]) (st' := [.inl x2, .inr (.inr (2, w)), .inl x1, .inr (.inr (3, w))]) (m' := m3) (by decide +kernel) rfl ?_
    refine go_callV h.1 (index := 45) (n := 1) (t := 2) (i := w) (ci := 4) (nf := 4) (cz := (RX4, TX4, 4)) (as := [.inl x2]) (rest := [.inl x1, .inr (.inr (3, w))]) (ctr_X4_cut (xl X) (xA X) (xC X) (xI X) (xk X) w x2 m3) (by decide +kernel) rfl rfl wd_v_X4_45 rfl (h.room (by first | decide | omega) (by decide)) h.cl (Nat.le_of_ble_eq_true rfl) puI_ok rfl (fun r16 m16 _ => ?_)
    show Go X (Em X puV) 19 [some (.inr (.inr (2, w))), some (.inl x1), some (.inl x2)] [.inl r16, .inl x1, .inr (.inr (3, w))] m16 _
    refine go_iast h.1 (by decide +kernel) rfl rfl (fun b19 => ?_)
    exact go_vret h.1 h.2.2.2.2 (by decide +kernel)
theorem ctr_X4_set (l : Launch) (A : AR → Nat) (dC : Nat → ClassId) (dI : Nat → Nat → Nat) (cs : Nat → ClassId) (w : Nat) (x1 : Int32) (x2 : Int32) (m : Mem) : Ctr l A dC dI cs yX4_set prog_6_method_6_code 3 none 1 puV [.inr (.inr (2, w)), .inl x1, .inl x2] m (f_X4_set w x1 x2 m) :=
  ctr_of (P := P_X4) (by decide +kernel) rfl pt_X4 rfl rfl (fun X hC _ _ _ _ _ hR h0 h1 hr => g_X4_set ⟨hC, hR, h0, h1, hr⟩ w x1 x2 m)

def f_X6_put (x1 : Int32) (x2 : Int32) (x3 : Int32) (m : Mem) : Option (Int32 × Mem) :=
  bnd (f_X6_isSheet x1 (mset m 0 0 6 (0 : Int32))) (fun r6 m6 =>
    if r6 = 0 then
      some ((-1 : Int32), m6)
    else
      if inB x1 4 = true then
        if (m6 2 (ix x1) 1) = 0 then
          bnd (f_X6_faulty (1 : Int32) m6) (fun r28 m28 =>
            some (r28, m28))
        else
          if inB x1 4 = true then
            bnd (f_X4_holds (ix x1) x2 (1 : Int32) m6) (fun r40 m40 =>
              if r40 = 0 then
                bnd (f_X6_faulty (3 : Int32) m40) (fun r48 m48 =>
                  some (r48, m48))
              else
                if inB x1 4 = true then
                  bnd (f_X4_set (ix x1) x2 x3 m40) (fun _ m60 =>
                    some ((1 : Int32), m60))
                else none)
          else none
      else none)
theorem g_X6_put {X : XT} (h : MX X prog_1_method_21_code P_X6 2 (some .int)) (x1 : Int32) (x2 : Int32) (x3 : Int32) (m : Mem) : Go X (Em X puI) 0 [some (.inr (.inr (0, 0))), some (.inl x1), some (.inl x2), some (.inl x3)] [] m (f_X6_put x1 x2 x3 m) := by
  unfold f_X6_put
  refine go_blk h.1 (is := [.aload_n 0, .iconst 0, .putfield 50, .iload_n 1]) (pc' := 6) (ls' := [some (.inr (.inr (0, 0))), some (.inl x1), some (.inl x2), some (.inl x3)]) (st' := [.inl x1]) (m' := (mset m 0 0 6 (0 : Int32))) (by decide +kernel) rfl ?_
  refine go_callS h.1 (index := 53) (n := 1) (as := [.inl x1]) (rest := []) (ctr_X6_isSheet (xl X) (xA X) (xC X) (xI X) (xk X) x1 (mset m 0 0 6 (0 : Int32))) (by decide +kernel) wd_s_X6_53 rfl (h.room (by first | decide | omega) (by decide)) h.cl (Nat.le_of_ble_eq_true rfl) puI_ok rfl (fun r6 m6 _ => ?_)
  show Go X (Em X puI) 9 [some (.inr (.inr (0, 0))), some (.inl x1), some (.inl x2), some (.inl x3)] [.inl r6] m6 _
  refine go_ifne h.1 (off := 5) 14 (by decide +kernel) (by decide) (fun c9 => ?_) (fun c9 => ?_)
  · refine go_blk h.1 (is := [.aload_n 0, .getfield 13, .iload_n 1]) (pc' := 19) (ls' := [some (.inr (.inr (0, 0))), some (.inl x1), some (.inl x2), some (.inl x3)]) (st' := [.inl x1, .inr (.inr (1, 0))]) (m' := m6) (by decide +kernel) rfl ?_
    refine go_aald h.1 (kd := 0) (z := (2, (ix x1))) (by decide +kernel) rfl rfl (by decide) rfl (fun b19 => ?_)
    refine go_blk h.1 (is := [.getfield 196]) (pc' := 23) (ls' := [some (.inr (.inr (0, 0))), some (.inl x1), some (.inl x2), some (.inl x3)]) (st' := [.inl (m6 2 (ix x1) 1)]) (m' := m6) (by decide +kernel) rfl ?_
    refine go_ifne h.1 (off := 9) 32 (by decide +kernel) (by decide) (fun c23 => ?_) (fun c23 => ?_)
    · refine go_blk h.1 (is := [.aload_n 0, .getfield 13, .iload_n 1]) (pc' := 37) (ls' := [some (.inr (.inr (0, 0))), some (.inl x1), some (.inl x2), some (.inl x3)]) (st' := [.inl x1, .inr (.inr (1, 0))]) (m' := m6) (by decide +kernel) rfl ?_
      refine go_aald h.1 (kd := 0) (z := (2, (ix x1))) (by decide +kernel) rfl rfl (by decide) rfl (fun b37 => ?_)
      refine go_blk h.1 (is := [.iload_n 2, .iconst 1]) (pc' := 40) (ls' := [some (.inr (.inr (0, 0))), some (.inl x1), some (.inl x2), some (.inl x3)]) (st' := [.inl (1 : Int32), .inl x2, .inr (.inr (2, (ix x1)))]) (m' := m6) (by decide +kernel) rfl ?_
      refine go_callV h.1 (index := 200) (n := 2) (t := 2) (i := (ix x1)) (ci := 4) (nf := 4) (cz := (RX4, TX4, 4)) (as := [.inl x2, .inl (1 : Int32)]) (rest := []) (ctr_X4_holds (xl X) (xA X) (xC X) (xI X) (xk X) (ix x1) x2 (1 : Int32) m6) (by decide +kernel) rfl rfl wd_v_X6_200 rfl (h.room (by first | decide | omega) (by decide)) h.cl (Nat.le_of_ble_eq_true rfl) puI_ok rfl (fun r40 m40 _ => ?_)
      show Go X (Em X puI) 43 [some (.inr (.inr (0, 0))), some (.inl x1), some (.inl x2), some (.inl x3)] [.inl r40] m40 _
      refine go_ifne h.1 (off := 9) 52 (by decide +kernel) (by decide) (fun c43 => ?_) (fun c43 => ?_)
      · refine go_blk h.1 (is := [.aload_n 0, .getfield 13, .iload_n 1]) (pc' := 57) (ls' := [some (.inr (.inr (0, 0))), some (.inl x1), some (.inl x2), some (.inl x3)]) (st' := [.inl x1, .inr (.inr (1, 0))]) (m' := m40) (by decide +kernel) rfl ?_
        refine go_aald h.1 (kd := 0) (z := (2, (ix x1))) (by decide +kernel) rfl rfl (by decide) rfl (fun b57 => ?_)
        refine go_blk h.1 (is := [.iload_n 2, .iload_n 3]) (pc' := 60) (ls' := [some (.inr (.inr (0, 0))), some (.inl x1), some (.inl x2), some (.inl x3)]) (st' := [.inl x3, .inl x2, .inr (.inr (2, (ix x1)))]) (m' := m40) (by decide +kernel) rfl ?_
        refine go_callV h.1 (index := 204) (n := 2) (t := 2) (i := (ix x1)) (ci := 4) (nf := 4) (cz := (RX4, TX4, 4)) (as := [.inl x2, .inl x3]) (rest := []) (ctr_X4_set (xl X) (xA X) (xC X) (xI X) (xk X) (ix x1) x2 x3 m40) (by decide +kernel) rfl rfl wd_v_X6_204 rfl (h.room (by first | decide | omega) (by decide)) h.cl (Nat.le_of_ble_eq_true rfl) puV_ok rfl (fun r60 m60 _ => ?_)
        show Go X (Em X puI) 63 [some (.inr (.inr (0, 0))), some (.inl x1), some (.inl x2), some (.inl x3)] [] m60 _
        refine go_blk h.1 (is := [.iconst 1]) (pc' := 64) (ls' := [some (.inr (.inr (0, 0))), some (.inl x1), some (.inl x2), some (.inl x3)]) (st' := [.inl (1 : Int32)]) (m' := m60) (by decide +kernel) rfl ?_
        exact go_iret h.1 h.2.2.2.2 (by decide +kernel)
      · refine go_blk h.1 (is := [.aload_n 0, .iconst 3]) (pc' := 48) (ls' := [some (.inr (.inr (0, 0))), some (.inl x1), some (.inl x2), some (.inl x3)]) (st' := [.inl (3 : Int32), .inr (.inr (0, 0))]) (m' := m40) (by decide +kernel) rfl ?_
        refine go_callV h.1 (index := 64) (n := 1) (t := 0) (i := 0) (ci := 6) (nf := 7) (cz := (RX6, TX6, 7)) (as := [.inl (3 : Int32)]) (rest := []) (ctr_X6_faulty (xl X) (xA X) (xC X) (xI X) (xk X) (3 : Int32) m40) (by decide +kernel) rfl rfl wd_v_X6_64 rfl (h.room (by first | decide | omega) (by decide)) h.cl (Nat.le_of_ble_eq_true rfl) puI_ok rfl (fun r48 m48 _ => ?_)
        show Go X (Em X puI) 51 [some (.inr (.inr (0, 0))), some (.inl x1), some (.inl x2), some (.inl x3)] [.inl r48] m48 _
        exact go_iret h.1 h.2.2.2.2 (by decide +kernel)
    · refine go_blk h.1 (is := [.aload_n 0, .iconst 1]) (pc' := 28) (ls' := [some (.inr (.inr (0, 0))), some (.inl x1), some (.inl x2), some (.inl x3)]) (st' := [.inl (1 : Int32), .inr (.inr (0, 0))]) (m' := m6) (by decide +kernel) rfl ?_
      refine go_callV h.1 (index := 64) (n := 1) (t := 0) (i := 0) (ci := 6) (nf := 7) (cz := (RX6, TX6, 7)) (as := [.inl (1 : Int32)]) (rest := []) (ctr_X6_faulty (xl X) (xA X) (xC X) (xI X) (xk X) (1 : Int32) m6) (by decide +kernel) rfl rfl wd_v_X6_64 rfl (h.room (by first | decide | omega) (by decide)) h.cl (Nat.le_of_ble_eq_true rfl) puI_ok rfl (fun r28 m28 _ => ?_)
      show Go X (Em X puI) 31 [some (.inr (.inr (0, 0))), some (.inl x1), some (.inl x2), some (.inl x3)] [.inl r28] m28 _
      exact go_iret h.1 h.2.2.2.2 (by decide +kernel)
  · refine go_blk h.1 (is := [.iconst (-1)]) (pc' := 13) (ls' := [some (.inr (.inr (0, 0))), some (.inl x1), some (.inl x2), some (.inl x3)]) (st' := [.inl (-1 : Int32)]) (m' := m6) (by decide +kernel) rfl ?_
    exact go_iret h.1 h.2.2.2.2 (by decide +kernel)
theorem ctr_X6_put (l : Launch) (A : AR → Nat) (dC : Nat → ClassId) (dI : Nat → Nat → Nat) (cs : Nat → ClassId) (x1 : Int32) (x2 : Int32) (x3 : Int32) (m : Mem) : Ctr l A dC dI cs yX6_put prog_1_method_21_code 4 (some .int) 2 puI [.inr (.inr (0, 0)), .inl x1, .inl x2, .inl x3] m (f_X6_put x1 x2 x3 m) :=
  ctr_of (P := P_X6) (by decide +kernel) rfl pt_X6 rfl rfl (fun X hC _ _ _ _ _ hR h0 h1 hr => g_X6_put ⟨hC, hR, h0, h1, hr⟩ x1 x2 x3 m)

def f_X6_cell (x1 : Int32) (x2 : Int32) (x3 : Int32) (m : Mem) : Option (Int64 × Mem) :=
  bnd (f_X6_isSheet x1 (mset m 0 0 6 (0 : Int32))) (fun r6 m6 =>
    if r6 = 0 then
      some ((-9223372036854775808 : Int64), m6)
    else
      bnd (f_X6_isLane x3 m6) (fun r13 m13 =>
        if r13 = 0 then
          some ((-9223372036854775808 : Int64), m13)
        else
          if inB x1 4 = true then
            bnd (f_X4_faultAt (ix x1) x3 x2 (1 : Int32) m13) (fun r33 m33 =>
              if ((mset m33 0 0 6 r33) 0 0 6) = 0 then
                if inB x1 4 = true then
                  bnd (f_X4_at (ix x1) x2 (mset m33 0 0 6 r33)) (fun r59 m59 =>
                    some (r59.toInt64, m59))
                else none
              else
                some ((-9223372036854775808 : Int64), (mset m33 0 0 6 r33)))
          else none))
theorem g_X6_cell {X : XT} (h : MX X prog_1_method_22_code P_X6 2 (some .long)) (x1 : Int32) (x2 : Int32) (x3 : Int32) (m : Mem) : Go X (Em X puL) 0 [some (.inr (.inr (0, 0))), some (.inl x1), some (.inl x2), some (.inl x3)] [] m (f_X6_cell x1 x2 x3 m) := by
  unfold f_X6_cell
  refine go_blk h.1 (is := [.aload_n 0, .iconst 0, .putfield 50, .iload_n 1]) (pc' := 6) (ls' := [some (.inr (.inr (0, 0))), some (.inl x1), some (.inl x2), some (.inl x3)]) (st' := [.inl x1]) (m' := (mset m 0 0 6 (0 : Int32))) (by decide +kernel) rfl ?_
  refine go_callS h.1 (index := 53) (n := 1) (as := [.inl x1]) (rest := []) (ctr_X6_isSheet (xl X) (xA X) (xC X) (xI X) (xk X) x1 (mset m 0 0 6 (0 : Int32))) (by decide +kernel) wd_s_X6_53 rfl (h.room (by first | decide | omega) (by decide)) h.cl (Nat.le_of_ble_eq_true rfl) puI_ok rfl (fun r6 m6 _ => ?_)
  show Go X (Em X puL) 9 [some (.inr (.inr (0, 0))), some (.inl x1), some (.inl x2), some (.inl x3)] [.inl r6] m6 _
  refine go_ifeq h.1 (off := 10) 19 (by decide +kernel) (by decide) (fun c9 => ?_) (fun c9 => ?_)
  · refine go_blk h.1 (is := [.ldc2_w 190]) (pc' := 22) (ls' := [some (.inr (.inr (0, 0))), some (.inl x1), some (.inl x2), some (.inl x3)]) (st' := [.inr (.inl (-9223372036854775808 : Int64))]) (m' := m6) (by decide +kernel) rfl ?_
    exact go_lret h.1 h.2.2.2.2 (by decide +kernel)
  · refine go_blk h.1 (is := [.iload_n 3]) (pc' := 13) (ls' := [some (.inr (.inr (0, 0))), some (.inl x1), some (.inl x2), some (.inl x3)]) (st' := [.inl x3]) (m' := m6) (by decide +kernel) rfl ?_
    refine go_callS h.1 (index := 57) (n := 1) (as := [.inl x3]) (rest := []) (ctr_X6_isLane (xl X) (xA X) (xC X) (xI X) (xk X) x3 m6) (by decide +kernel) wd_s_X6_57 rfl (h.room (by first | decide | omega) (by decide)) h.cl (Nat.le_of_ble_eq_true rfl) puI_ok rfl (fun r13 m13 _ => ?_)
    show Go X (Em X puL) 16 [some (.inr (.inr (0, 0))), some (.inl x1), some (.inl x2), some (.inl x3)] [.inl r13] m13 _
    refine go_ifne h.1 (off := 7) 23 (by decide +kernel) (by decide) (fun c16 => ?_) (fun c16 => ?_)
    · refine go_blk h.1 (is := [.aload_n 0, .aload_n 0, .getfield 13, .iload_n 1]) (pc' := 29) (ls' := [some (.inr (.inr (0, 0))), some (.inl x1), some (.inl x2), some (.inl x3)]) (st' := [.inl x1, .inr (.inr (1, 0)), .inr (.inr (0, 0))]) (m' := m13) (by decide +kernel) rfl ?_
      refine go_aald h.1 (kd := 0) (z := (2, (ix x1))) (by decide +kernel) rfl rfl (by decide) rfl (fun b29 => ?_)
      refine go_blk h.1 (is := [.iload_n 3, .iload_n 2, .iconst 1]) (pc' := 33) (ls' := [some (.inr (.inr (0, 0))), some (.inl x1), some (.inl x2), some (.inl x3)]) (st' := [.inl (1 : Int32), .inl x2, .inl x3, .inr (.inr (2, (ix x1))), .inr (.inr (0, 0))]) (m' := m13) (by decide +kernel) rfl ?_
      refine go_callV h.1 (index := 60) (n := 3) (t := 2) (i := (ix x1)) (ci := 4) (nf := 4) (cz := (RX4, TX4, 4)) (as := [.inl x3, .inl x2, .inl (1 : Int32)]) (rest := [.inr (.inr (0, 0))]) (ctr_X4_faultAt (xl X) (xA X) (xC X) (xI X) (xk X) (ix x1) x3 x2 (1 : Int32) m13) (by decide +kernel) rfl rfl wd_v_X6_60 rfl (h.room (by first | decide | omega) (by decide)) h.cl (Nat.le_of_ble_eq_true rfl) puI_ok rfl (fun r33 m33 _ => ?_)
      show Go X (Em X puL) 36 [some (.inr (.inr (0, 0))), some (.inl x1), some (.inl x2), some (.inl x3)] [.inl r33, .inr (.inr (0, 0))] m33 _
      refine go_blk h.1 (is := [.putfield 50, .aload_n 0, .getfield 50]) (pc' := 43) (ls' := [some (.inr (.inr (0, 0))), some (.inl x1), some (.inl x2), some (.inl x3)]) (st' := [.inl ((mset m33 0 0 6 r33) 0 0 6)]) (m' := (mset m33 0 0 6 r33)) (by decide +kernel) rfl ?_
      refine go_ifeq h.1 (off := 9) 52 (by decide +kernel) (by decide) (fun c43 => ?_) (fun c43 => ?_)
      · refine go_blk h.1 (is := [.aload_n 0, .getfield 13, .iload_n 1]) (pc' := 57) (ls' := [some (.inr (.inr (0, 0))), some (.inl x1), some (.inl x2), some (.inl x3)]) (st' := [.inl x1, .inr (.inr (1, 0))]) (m' := (mset m33 0 0 6 r33)) (by decide +kernel) rfl ?_
        refine go_aald h.1 (kd := 0) (z := (2, (ix x1))) (by decide +kernel) rfl rfl (by decide) rfl (fun b57 => ?_)
        refine go_blk h.1 (is := [.iload_n 2]) (pc' := 59) (ls' := [some (.inr (.inr (0, 0))), some (.inl x1), some (.inl x2), some (.inl x3)]) (st' := [.inl x2, .inr (.inr (2, (ix x1)))]) (m' := (mset m33 0 0 6 r33)) (by decide +kernel) rfl ?_
        refine go_callV h.1 (index := 207) (n := 1) (t := 2) (i := (ix x1)) (ci := 4) (nf := 4) (cz := (RX4, TX4, 4)) (as := [.inl x2]) (rest := []) (ctr_X4_at (xl X) (xA X) (xC X) (xI X) (xk X) (ix x1) x2 (mset m33 0 0 6 r33)) (by decide +kernel) rfl rfl wd_v_X6_207 rfl (h.room (by first | decide | omega) (by decide)) h.cl (Nat.le_of_ble_eq_true rfl) puI_ok rfl (fun r59 m59 _ => ?_)
        show Go X (Em X puL) 62 [some (.inr (.inr (0, 0))), some (.inl x1), some (.inl x2), some (.inl x3)] [.inl r59] m59 _
        refine go_blk h.1 (is := [.i2l]) (pc' := 63) (ls' := [some (.inr (.inr (0, 0))), some (.inl x1), some (.inl x2), some (.inl x3)]) (st' := [.inr (.inl r59.toInt64)]) (m' := m59) (by decide +kernel) rfl ?_
        exact go_lret h.1 h.2.2.2.2 (by decide +kernel)
      · refine go_blk h.1 (is := [.ldc2_w 190]) (pc' := 49) (ls' := [some (.inr (.inr (0, 0))), some (.inl x1), some (.inl x2), some (.inl x3)]) (st' := [.inr (.inl (-9223372036854775808 : Int64))]) (m' := (mset m33 0 0 6 r33)) (by decide +kernel) rfl ?_
        refine go_goto h.1 (off := 14) 63 (by decide +kernel) (by decide) ?_
        exact go_lret h.1 h.2.2.2.2 (by decide +kernel)
    · refine go_blk h.1 (is := [.ldc2_w 190]) (pc' := 22) (ls' := [some (.inr (.inr (0, 0))), some (.inl x1), some (.inl x2), some (.inl x3)]) (st' := [.inr (.inl (-9223372036854775808 : Int64))]) (m' := m13) (by decide +kernel) rfl ?_
      exact go_lret h.1 h.2.2.2.2 (by decide +kernel)
theorem ctr_X6_cell (l : Launch) (A : AR → Nat) (dC : Nat → ClassId) (dI : Nat → Nat → Nat) (cs : Nat → ClassId) (x1 : Int32) (x2 : Int32) (x3 : Int32) (m : Mem) : Ctr l A dC dI cs yX6_cell prog_1_method_22_code 4 (some .long) 2 puL [.inr (.inr (0, 0)), .inl x1, .inl x2, .inl x3] m (f_X6_cell x1 x2 x3 m) :=
  ctr_of (P := P_X6) (by decide +kernel) rfl pt_X6 rfl rfl (fun X hC _ _ _ _ _ hR h0 h1 hr => g_X6_cell ⟨hC, hR, h0, h1, hr⟩ x1 x2 x3 m)

def f_X6_copy_j53 (m : Mem) : Option (Int32 × Mem) :=
  bnd (f_X6_faulty (1 : Int32) m) (fun r55 m55 =>
    some (r55, m55))
theorem g_X6_copy_j53 {X : XT} (h : MX X prog_1_method_23_code P_X6 2 (some .int)) (m : Mem) (o1 : Option AV) (o2 : Option AV) (o3 : Option AV) (o4 : Option AV) (o5 : Option AV) (o6 : Option AV) (o7 : Option AV) : Go X (Em X puI) 53 [some (.inr (.inr (0, 0))), o1, o2, o3, o4, o5, o6, o7] [] m (f_X6_copy_j53 m) := by
  unfold f_X6_copy_j53
  refine go_blk h.1 (is := [.aload_n 0, .iconst 1]) (pc' := 55) (ls' := [some (.inr (.inr (0, 0))), o1, o2, o3, o4, o5, o6, o7]) (st' := [.inl (1 : Int32), .inr (.inr (0, 0))]) (m' := m) (by decide +kernel) rfl ?_
  refine go_callV h.1 (index := 64) (n := 1) (t := 0) (i := 0) (ci := 6) (nf := 7) (cz := (RX6, TX6, 7)) (as := [.inl (1 : Int32)]) (rest := []) (ctr_X6_faulty (xl X) (xA X) (xC X) (xI X) (xk X) (1 : Int32) m) (by decide +kernel) rfl rfl wd_v_X6_64 rfl (h.room (by first | decide | omega) (by decide)) h.cl (Nat.le_of_ble_eq_true rfl) puI_ok rfl (fun r55 m55 _ => ?_)
  show Go X (Em X puI) 58 [some (.inr (.inr (0, 0))), o1, o2, o3, o4, o5, o6, o7] [.inl r55] m55 _
  exact go_iret h.1 h.2.2.2.2 (by decide +kernel)

def f_X6_copy_j101 (m : Mem) : Option (Int32 × Mem) :=
  bnd (f_X6_faulty (3 : Int32) m) (fun r103 m103 =>
    some (r103, m103))
theorem g_X6_copy_j101 {X : XT} (h : MX X prog_1_method_23_code P_X6 2 (some .int)) (m : Mem) (o1 : Option AV) (o2 : Option AV) (o3 : Option AV) (o4 : Option AV) (o5 : Option AV) (o6 : Option AV) (o7 : Option AV) : Go X (Em X puI) 101 [some (.inr (.inr (0, 0))), o1, o2, o3, o4, o5, o6, o7] [] m (f_X6_copy_j101 m) := by
  unfold f_X6_copy_j101
  refine go_blk h.1 (is := [.aload_n 0, .iconst 3]) (pc' := 103) (ls' := [some (.inr (.inr (0, 0))), o1, o2, o3, o4, o5, o6, o7]) (st' := [.inl (3 : Int32), .inr (.inr (0, 0))]) (m' := m) (by decide +kernel) rfl ?_
  refine go_callV h.1 (index := 64) (n := 1) (t := 0) (i := 0) (ci := 6) (nf := 7) (cz := (RX6, TX6, 7)) (as := [.inl (3 : Int32)]) (rest := []) (ctr_X6_faulty (xl X) (xA X) (xC X) (xI X) (xk X) (3 : Int32) m) (by decide +kernel) rfl rfl wd_v_X6_64 rfl (h.room (by first | decide | omega) (by decide)) h.cl (Nat.le_of_ble_eq_true rfl) puI_ok rfl (fun r103 m103 _ => ?_)
  show Go X (Em X puI) 106 [some (.inr (.inr (0, 0))), o1, o2, o3, o4, o5, o6, o7] [.inl r103] m103 _
  exact go_iret h.1 h.2.2.2.2 (by decide +kernel)

def f_X6_copy (x1 : Int32) (x2 : Int32) (x3 : Int32) (x4 : Int32) (x5 : Int32) (m : Mem) : Option (Int32 × Mem) :=
  bnd (f_X6_isSheet x1 (mset m 0 0 6 (0 : Int32))) (fun r6 m6 =>
    if r6 = 0 then
      some ((-1 : Int32), m6)
    else
      bnd (f_X6_isSheet x3 m6) (fun r13 m13 =>
        if r13 = 0 then
          some ((-1 : Int32), m13)
        else
          if inB x1 4 = true then
            if inB x3 4 = true then
              if (m13 2 (ix x1) 1) = 0 then
                f_X6_copy_j53 m13
              else
                if (m13 2 (ix x3) 1) = 0 then
                  f_X6_copy_j53 m13
                else
                  if (m13 2 (ix x1) 2) = (m13 2 (ix x3) 2) then
                    bnd (f_X4_holds (ix x1) x2 x5 m13) (fun r83 m83 =>
                      if r83 = 0 then
                        f_X6_copy_j101 m83
                      else
                        bnd (f_X4_holds (ix x3) x4 x5 m83) (fun r95 m95 =>
                          if r95 = 0 then
                            f_X6_copy_j101 m95
                          else
                            if cpOk x2 x4 x5 60 60 = true then
                              some (x5, (mcopy m95 3 (ix x1) 3 (ix x3) (ix x2) (ix x4) (ix x5)))
                            else none))
                  else
                    bnd (f_X6_faulty (2 : Int32) m13) (fun r74 m74 =>
                      some (r74, m74))
            else none
          else none))
theorem g_X6_copy {X : XT} (h : MX X prog_1_method_23_code P_X6 2 (some .int)) (x1 : Int32) (x2 : Int32) (x3 : Int32) (x4 : Int32) (x5 : Int32) (m : Mem) : Go X (Em X puI) 0 [some (.inr (.inr (0, 0))), some (.inl x1), some (.inl x2), some (.inl x3), some (.inl x4), some (.inl x5), none, none] [] m (f_X6_copy x1 x2 x3 x4 x5 m) := by
  unfold f_X6_copy
  refine go_blk h.1 (is := [.aload_n 0, .iconst 0, .putfield 50, .iload_n 1]) (pc' := 6) (ls' := [some (.inr (.inr (0, 0))), some (.inl x1), some (.inl x2), some (.inl x3), some (.inl x4), some (.inl x5), none, none]) (st' := [.inl x1]) (m' := (mset m 0 0 6 (0 : Int32))) (by decide +kernel) rfl ?_
  refine go_callS h.1 (index := 53) (n := 1) (as := [.inl x1]) (rest := []) (ctr_X6_isSheet (xl X) (xA X) (xC X) (xI X) (xk X) x1 (mset m 0 0 6 (0 : Int32))) (by decide +kernel) wd_s_X6_53 rfl (h.room (by first | decide | omega) (by decide)) h.cl (Nat.le_of_ble_eq_true rfl) puI_ok rfl (fun r6 m6 _ => ?_)
  show Go X (Em X puI) 9 [some (.inr (.inr (0, 0))), some (.inl x1), some (.inl x2), some (.inl x3), some (.inl x4), some (.inl x5), none, none] [.inl r6] m6 _
  refine go_ifeq h.1 (off := 10) 19 (by decide +kernel) (by decide) (fun c9 => ?_) (fun c9 => ?_)
  · refine go_blk h.1 (is := [.iconst (-1)]) (pc' := 20) (ls' := [some (.inr (.inr (0, 0))), some (.inl x1), some (.inl x2), some (.inl x3), some (.inl x4), some (.inl x5), none, none]) (st' := [.inl (-1 : Int32)]) (m' := m6) (by decide +kernel) rfl ?_
    exact go_iret h.1 h.2.2.2.2 (by decide +kernel)
  · refine go_blk h.1 (is := [.iload_n 3]) (pc' := 13) (ls' := [some (.inr (.inr (0, 0))), some (.inl x1), some (.inl x2), some (.inl x3), some (.inl x4), some (.inl x5), none, none]) (st' := [.inl x3]) (m' := m6) (by decide +kernel) rfl ?_
    refine go_callS h.1 (index := 53) (n := 1) (as := [.inl x3]) (rest := []) (ctr_X6_isSheet (xl X) (xA X) (xC X) (xI X) (xk X) x3 m6) (by decide +kernel) wd_s_X6_53 rfl (h.room (by first | decide | omega) (by decide)) h.cl (Nat.le_of_ble_eq_true rfl) puI_ok rfl (fun r13 m13 _ => ?_)
    show Go X (Em X puI) 16 [some (.inr (.inr (0, 0))), some (.inl x1), some (.inl x2), some (.inl x3), some (.inl x4), some (.inl x5), none, none] [.inl r13] m13 _
    refine go_ifne h.1 (off := 5) 21 (by decide +kernel) (by decide) (fun c16 => ?_) (fun c16 => ?_)
    · refine go_blk h.1 (is := [.aload_n 0, .getfield 13, .iload_n 1]) (pc' := 26) (ls' := [some (.inr (.inr (0, 0))), some (.inl x1), some (.inl x2), some (.inl x3), some (.inl x4), some (.inl x5), none, none]) (st' := [.inl x1, .inr (.inr (1, 0))]) (m' := m13) (by decide +kernel) rfl ?_
      refine go_aald h.1 (kd := 0) (z := (2, (ix x1))) (by decide +kernel) rfl rfl (by decide) rfl (fun b26 => ?_)
      refine go_blk h.1 (is := [.astore 6, .aload_n 0, .getfield 13, .iload_n 3]) (pc' := 34) (ls' := [some (.inr (.inr (0, 0))), some (.inl x1), some (.inl x2), some (.inl x3), some (.inl x4), some (.inl x5), some (.inr (.inr (2, (ix x1)))), none]) (st' := [.inl x3, .inr (.inr (1, 0))]) (m' := m13) (by decide +kernel) rfl ?_
      refine go_aald h.1 (kd := 0) (z := (2, (ix x3))) (by decide +kernel) rfl rfl (by decide) rfl (fun b34 => ?_)
      refine go_blk h.1 (is := [.astore 7, .aload 6, .getfield 196]) (pc' := 42) (ls' := [some (.inr (.inr (0, 0))), some (.inl x1), some (.inl x2), some (.inl x3), some (.inl x4), some (.inl x5), some (.inr (.inr (2, (ix x1)))), some (.inr (.inr (2, (ix x3))))]) (st' := [.inl (m13 2 (ix x1) 1)]) (m' := m13) (by decide +kernel) rfl ?_
      refine go_ifeq h.1 (off := 11) 53 (by decide +kernel) (by decide) (fun c42 => ?_) (fun c42 => ?_)
      · exact g_X6_copy_j53 h m13 (some (.inl x1)) (some (.inl x2)) (some (.inl x3)) (some (.inl x4)) (some (.inl x5)) (some (.inr (.inr (2, (ix x1))))) (some (.inr (.inr (2, (ix x3)))))
      · refine go_blk h.1 (is := [.aload 7, .getfield 196]) (pc' := 50) (ls' := [some (.inr (.inr (0, 0))), some (.inl x1), some (.inl x2), some (.inl x3), some (.inl x4), some (.inl x5), some (.inr (.inr (2, (ix x1)))), some (.inr (.inr (2, (ix x3))))]) (st' := [.inl (m13 2 (ix x3) 1)]) (m' := m13) (by decide +kernel) rfl ?_
        refine go_ifne h.1 (off := 9) 59 (by decide +kernel) (by decide) (fun c50 => ?_) (fun c50 => ?_)
        · refine go_blk h.1 (is := [.aload 6, .getfield 210, .aload 7, .getfield 210]) (pc' := 69) (ls' := [some (.inr (.inr (0, 0))), some (.inl x1), some (.inl x2), some (.inl x3), some (.inl x4), some (.inl x5), some (.inr (.inr (2, (ix x1)))), some (.inr (.inr (2, (ix x3))))]) (st' := [.inl (m13 2 (ix x3) 2), .inl (m13 2 (ix x1) 2)]) (m' := m13) (by decide +kernel) rfl ?_
          refine go_icmpeq h.1 (off := 9) 78 (by decide +kernel) (by decide) (fun c69 => ?_) (fun c69 => ?_)
          · refine go_blk h.1 (is := [.aload 6, .iload_n 2, .iload 5]) (pc' := 83) (ls' := [some (.inr (.inr (0, 0))), some (.inl x1), some (.inl x2), some (.inl x3), some (.inl x4), some (.inl x5), some (.inr (.inr (2, (ix x1)))), some (.inr (.inr (2, (ix x3))))]) (st' := [.inl x5, .inl x2, .inr (.inr (2, (ix x1)))]) (m' := m13) (by decide +kernel) rfl ?_
            refine go_callV h.1 (index := 200) (n := 2) (t := 2) (i := (ix x1)) (ci := 4) (nf := 4) (cz := (RX4, TX4, 4)) (as := [.inl x2, .inl x5]) (rest := []) (ctr_X4_holds (xl X) (xA X) (xC X) (xI X) (xk X) (ix x1) x2 x5 m13) (by decide +kernel) rfl rfl wd_v_X6_200 rfl (h.room (by first | decide | omega) (by decide)) h.cl (Nat.le_of_ble_eq_true rfl) puI_ok rfl (fun r83 m83 _ => ?_)
            show Go X (Em X puI) 86 [some (.inr (.inr (0, 0))), some (.inl x1), some (.inl x2), some (.inl x3), some (.inl x4), some (.inl x5), some (.inr (.inr (2, (ix x1)))), some (.inr (.inr (2, (ix x3))))] [.inl r83] m83 _
            refine go_ifeq h.1 (off := 15) 101 (by decide +kernel) (by decide) (fun c86 => ?_) (fun c86 => ?_)
            · exact g_X6_copy_j101 h m83 (some (.inl x1)) (some (.inl x2)) (some (.inl x3)) (some (.inl x4)) (some (.inl x5)) (some (.inr (.inr (2, (ix x1))))) (some (.inr (.inr (2, (ix x3)))))
            · refine go_blk h.1 (is := [.aload 7, .iload 4, .iload 5]) (pc' := 95) (ls' := [some (.inr (.inr (0, 0))), some (.inl x1), some (.inl x2), some (.inl x3), some (.inl x4), some (.inl x5), some (.inr (.inr (2, (ix x1)))), some (.inr (.inr (2, (ix x3))))]) (st' := [.inl x5, .inl x4, .inr (.inr (2, (ix x3)))]) (m' := m83) (by decide +kernel) rfl ?_
              refine go_callV h.1 (index := 200) (n := 2) (t := 2) (i := (ix x3)) (ci := 4) (nf := 4) (cz := (RX4, TX4, 4)) (as := [.inl x4, .inl x5]) (rest := []) (ctr_X4_holds (xl X) (xA X) (xC X) (xI X) (xk X) (ix x3) x4 x5 m83) (by decide +kernel) rfl rfl wd_v_X6_200 rfl (h.room (by first | decide | omega) (by decide)) h.cl (Nat.le_of_ble_eq_true rfl) puI_ok rfl (fun r95 m95 _ => ?_)
              show Go X (Em X puI) 98 [some (.inr (.inr (0, 0))), some (.inl x1), some (.inl x2), some (.inl x3), some (.inl x4), some (.inl x5), some (.inr (.inr (2, (ix x1)))), some (.inr (.inr (2, (ix x3))))] [.inl r95] m95 _
              refine go_ifne h.1 (off := 9) 107 (by decide +kernel) (by decide) (fun c98 => ?_) (fun c98 => ?_)
              · refine go_blk h.1 (is := [.aload 6, .getfield 213, .iload_n 2, .aload 7, .getfield 213, .iload 4, .iload 5]) (pc' := 122) (ls' := [some (.inr (.inr (0, 0))), some (.inl x1), some (.inl x2), some (.inl x3), some (.inl x4), some (.inl x5), some (.inr (.inr (2, (ix x1)))), some (.inr (.inr (2, (ix x3))))]) (st' := [.inl x5, .inl x4, .inr (.inr (3, (ix x3))), .inl x2, .inr (.inr (3, (ix x1)))]) (m' := m95) (by decide +kernel) rfl ?_
                refine go_acopy h (index := 216) (by first | decide | omega) (by decide +kernel) wd_ml_X6_216 wd_na_copy wd_st_copy wd_in_System (Nat.le_of_ble_eq_true rfl) rfl rfl rfl rfl (fun b122 => ?_)
                refine go_blk h.1 (is := [.iload 5]) (pc' := 127) (ls' := [some (.inr (.inr (0, 0))), some (.inl x1), some (.inl x2), some (.inl x3), some (.inl x4), some (.inl x5), some (.inr (.inr (2, (ix x1)))), some (.inr (.inr (2, (ix x3))))]) (st' := [.inl x5]) (m' := (mcopy m95 3 (ix x1) 3 (ix x3) (ix x2) (ix x4) (ix x5))) (by decide +kernel) rfl ?_
                exact go_iret h.1 h.2.2.2.2 (by decide +kernel)
              · exact g_X6_copy_j101 h m95 (some (.inl x1)) (some (.inl x2)) (some (.inl x3)) (some (.inl x4)) (some (.inl x5)) (some (.inr (.inr (2, (ix x1))))) (some (.inr (.inr (2, (ix x3)))))
          · refine go_blk h.1 (is := [.aload_n 0, .iconst 2]) (pc' := 74) (ls' := [some (.inr (.inr (0, 0))), some (.inl x1), some (.inl x2), some (.inl x3), some (.inl x4), some (.inl x5), some (.inr (.inr (2, (ix x1)))), some (.inr (.inr (2, (ix x3))))]) (st' := [.inl (2 : Int32), .inr (.inr (0, 0))]) (m' := m13) (by decide +kernel) rfl ?_
            refine go_callV h.1 (index := 64) (n := 1) (t := 0) (i := 0) (ci := 6) (nf := 7) (cz := (RX6, TX6, 7)) (as := [.inl (2 : Int32)]) (rest := []) (ctr_X6_faulty (xl X) (xA X) (xC X) (xI X) (xk X) (2 : Int32) m13) (by decide +kernel) rfl rfl wd_v_X6_64 rfl (h.room (by first | decide | omega) (by decide)) h.cl (Nat.le_of_ble_eq_true rfl) puI_ok rfl (fun r74 m74 _ => ?_)
            show Go X (Em X puI) 77 [some (.inr (.inr (0, 0))), some (.inl x1), some (.inl x2), some (.inl x3), some (.inl x4), some (.inl x5), some (.inr (.inr (2, (ix x1)))), some (.inr (.inr (2, (ix x3))))] [.inl r74] m74 _
            exact go_iret h.1 h.2.2.2.2 (by decide +kernel)
        · exact g_X6_copy_j53 h m13 (some (.inl x1)) (some (.inl x2)) (some (.inl x3)) (some (.inl x4)) (some (.inl x5)) (some (.inr (.inr (2, (ix x1))))) (some (.inr (.inr (2, (ix x3)))))
    · refine go_blk h.1 (is := [.iconst (-1)]) (pc' := 20) (ls' := [some (.inr (.inr (0, 0))), some (.inl x1), some (.inl x2), some (.inl x3), some (.inl x4), some (.inl x5), none, none]) (st' := [.inl (-1 : Int32)]) (m' := m13) (by decide +kernel) rfl ?_
      exact go_iret h.1 h.2.2.2.2 (by decide +kernel)
theorem ctr_X6_copy (l : Launch) (A : AR → Nat) (dC : Nat → ClassId) (dI : Nat → Nat → Nat) (cs : Nat → ClassId) (x1 : Int32) (x2 : Int32) (x3 : Int32) (x4 : Int32) (x5 : Int32) (m : Mem) : Ctr l A dC dI cs yX6_copy prog_1_method_23_code 8 (some .int) 2 puI [.inr (.inr (0, 0)), .inl x1, .inl x2, .inl x3, .inl x4, .inl x5] m (f_X6_copy x1 x2 x3 x4 x5 m) :=
  ctr_of (P := P_X6) (by decide +kernel) rfl pt_X6 rfl rfl (fun X hC _ _ _ _ _ hR h0 h1 hr => g_X6_copy ⟨hC, hR, h0, h1, hr⟩ x1 x2 x3 x4 x5 m)

def f_X6_leaveTrace (x1 : Int32) (m : Mem) : Option (Unit × Mem) :=
  some ((), (mset m 0 0 5 (((31 : Int32) * (m 0 0 5)) + x1)))
theorem g_X6_leaveTrace {X : XT} (h : MX X prog_1_method_42_code P_X6 0 none) (x1 : Int32) (m : Mem) : Go X (Em X puV) 0 [some (.inr (.inr (0, 0))), some (.inl x1)] [] m (f_X6_leaveTrace x1 m) := by
  unfold f_X6_leaveTrace
  refine go_blk h.1 (is := [.aload_n 0, .bipush 31, .aload_n 0, .getfield 46, .imul, .iload_n 1, .iadd, .putfield 46]) (pc' := 13) (ls' := [some (.inr (.inr (0, 0))), some (.inl x1)]) (st' := []) (m' := (mset m 0 0 5 (((31 : Int32) * (m 0 0 5)) + x1))) (by decide +kernel) rfl ?_
  exact go_vret h.1 h.2.2.2.2 (by decide +kernel)
theorem ctr_X6_leaveTrace (l : Launch) (A : AR → Nat) (dC : Nat → ClassId) (dI : Nat → Nat → Nat) (cs : Nat → ClassId) (x1 : Int32) (m : Mem) : Ctr l A dC dI cs yX6_leaveTrace prog_1_method_42_code 2 none 0 puV [.inr (.inr (0, 0)), .inl x1] m (f_X6_leaveTrace x1 m) :=
  ctr_of (P := P_X6) (by decide +kernel) rfl pt_X6 rfl rfl (fun X hC _ _ _ _ _ hR h0 h1 hr => g_X6_leaveTrace ⟨hC, hR, h0, h1, hr⟩ x1 m)

def f_X6_fishsTelling (w : Nat) (m : Mem) : Option (Int32 × Mem) :=
  bnd (f_X6_leaveTrace (1 : Int32) m) (fun _ m2 =>
    some ((m2 6 w 1), m2))
theorem g_X6_fishsTelling {X : XT} (h : MX X prog_1_method_43_code P_X6 1 (some .int)) (w : Nat) (m : Mem) : Go X (Em X puI) 0 [some (.inr (.inr (0, 0))), some (.inr (.inr (6, w)))] [] m (f_X6_fishsTelling w m) := by
  unfold f_X6_fishsTelling
  refine go_blk h.1 (is := [.aload_n 0, .iconst 1]) (pc' := 2) (ls' := [some (.inr (.inr (0, 0))), some (.inr (.inr (6, w)))]) (st' := [.inl (1 : Int32), .inr (.inr (0, 0))]) (m' := m) (by decide +kernel) rfl ?_
  refine go_callV h.1 (index := 232) (n := 1) (t := 0) (i := 0) (ci := 6) (nf := 7) (cz := (RX6, TX6, 7)) (as := [.inl (1 : Int32)]) (rest := []) (ctr_X6_leaveTrace (xl X) (xA X) (xC X) (xI X) (xk X) (1 : Int32) m) (by decide +kernel) rfl rfl wd_v_X6_232 rfl (h.room (by first | decide | omega) (by decide)) h.cl (Nat.le_of_ble_eq_true rfl) puV_ok rfl (fun r2 m2 _ => ?_)
  show Go X (Em X puI) 5 [some (.inr (.inr (0, 0))), some (.inr (.inr (6, w)))] [] m2 _
  refine go_blk h.1 (is := [.aload_n 1, .getfield 95]) (pc' := 9) (ls' := [some (.inr (.inr (0, 0))), some (.inr (.inr (6, w)))]) (st' := [.inl (m2 6 w 1)]) (m' := m2) (by decide +kernel) rfl ?_
  exact go_iret h.1 h.2.2.2.2 (by decide +kernel)
theorem ctr_X6_fishsTelling (l : Launch) (A : AR → Nat) (dC : Nat → ClassId) (dI : Nat → Nat → Nat) (cs : Nat → ClassId) (w : Nat) (m : Mem) : Ctr l A dC dI cs yX6_fishsTelling prog_1_method_43_code 2 (some .int) 1 puI [.inr (.inr (0, 0)), .inr (.inr (6, w))] m (f_X6_fishsTelling w m) :=
  ctr_of (P := P_X6) (by decide +kernel) rfl pt_X6 rfl rfl (fun X hC _ _ _ _ _ hR h0 h1 hr => g_X6_fishsTelling ⟨hC, hR, h0, h1, hr⟩ w m)

def f_X6_eelsTelling (w : Nat) (m : Mem) : Option (Int32 × Mem) :=
  bnd (f_X6_leaveTrace (2 : Int32) m) (fun _ m2 =>
    bnd (f_X6_fishsTelling w m2) (fun r7 m7 =>
      some ((r7 + (100 : Int32)), m7)))
theorem g_X6_eelsTelling {X : XT} (h : MX X prog_1_method_44_code P_X6 2 (some .int)) (w : Nat) (m : Mem) : Go X (Em X puI) 0 [some (.inr (.inr (0, 0))), some (.inr (.inr (6, w)))] [] m (f_X6_eelsTelling w m) := by
  unfold f_X6_eelsTelling
  refine go_blk h.1 (is := [.aload_n 0, .iconst 2]) (pc' := 2) (ls' := [some (.inr (.inr (0, 0))), some (.inr (.inr (6, w)))]) (st' := [.inl (2 : Int32), .inr (.inr (0, 0))]) (m' := m) (by decide +kernel) rfl ?_
  refine go_callV h.1 (index := 232) (n := 1) (t := 0) (i := 0) (ci := 6) (nf := 7) (cz := (RX6, TX6, 7)) (as := [.inl (2 : Int32)]) (rest := []) (ctr_X6_leaveTrace (xl X) (xA X) (xC X) (xI X) (xk X) (2 : Int32) m) (by decide +kernel) rfl rfl wd_v_X6_232 rfl (h.room (by first | decide | omega) (by decide)) h.cl (Nat.le_of_ble_eq_true rfl) puV_ok rfl (fun r2 m2 _ => ?_)
  show Go X (Em X puI) 5 [some (.inr (.inr (0, 0))), some (.inr (.inr (6, w)))] [] m2 _
  refine go_blk h.1 (is := [.aload_n 0, .aload_n 1]) (pc' := 7) (ls' := [some (.inr (.inr (0, 0))), some (.inr (.inr (6, w)))]) (st' := [.inr (.inr (6, w)), .inr (.inr (0, 0))]) (m' := m2) (by decide +kernel) rfl ?_
  refine go_callV h.1 (index := 229) (n := 1) (t := 0) (i := 0) (ci := 6) (nf := 7) (cz := (RX6, TX6, 7)) (as := [.inr (.inr (6, w))]) (rest := []) (ctr_X6_fishsTelling (xl X) (xA X) (xC X) (xI X) (xk X) w m2) (by decide +kernel) rfl rfl wd_v_X6_229 rfl (h.room (by first | decide | omega) (by decide)) h.cl (Nat.le_of_ble_eq_true rfl) puI_ok rfl (fun r7 m7 _ => ?_)
  show Go X (Em X puI) 10 [some (.inr (.inr (0, 0))), some (.inr (.inr (6, w)))] [.inl r7] m7 _
  refine go_blk h.1 (is := [.bipush 100, .iadd]) (pc' := 13) (ls' := [some (.inr (.inr (0, 0))), some (.inr (.inr (6, w)))]) (st' := [.inl (r7 + (100 : Int32))]) (m' := m7) (by decide +kernel) rfl ?_
  exact go_iret h.1 h.2.2.2.2 (by decide +kernel)
theorem ctr_X6_eelsTelling (l : Launch) (A : AR → Nat) (dC : Nat → ClassId) (dI : Nat → Nat → Nat) (cs : Nat → ClassId) (w : Nat) (m : Mem) : Ctr l A dC dI cs yX6_eelsTelling prog_1_method_44_code 2 (some .int) 2 puI [.inr (.inr (0, 0)), .inr (.inr (6, w))] m (f_X6_eelsTelling w m) :=
  ctr_of (P := P_X6) (by decide +kernel) rfl pt_X6 rfl rfl (fun X hC _ _ _ _ _ hR h0 h1 hr => g_X6_eelsTelling ⟨hC, hR, h0, h1, hr⟩ w m)

def f_X6_pikesTelling (w : Nat) (m : Mem) : Option (Int32 × Mem) :=
  bnd (f_X6_leaveTrace (3 : Int32) m) (fun _ m2 =>
    bnd (f_X6_eelsTelling w m2) (fun r7 m7 =>
      bnd (f_X6_fishsTelling w m7) (fun r14 m14 =>
        some ((r7 + r14), m14))))
theorem g_X6_pikesTelling {X : XT} (h : MX X prog_1_method_45_code P_X6 3 (some .int)) (w : Nat) (m : Mem) : Go X (Em X puI) 0 [some (.inr (.inr (0, 0))), some (.inr (.inr (6, w))), none] [] m (f_X6_pikesTelling w m) := by
  unfold f_X6_pikesTelling
  refine go_blk h.1 (is := [.aload_n 0, .iconst 3]) (pc' := 2) (ls' := [some (.inr (.inr (0, 0))), some (.inr (.inr (6, w))), none]) (st' := [.inl (3 : Int32), .inr (.inr (0, 0))]) (m' := m) (by decide +kernel) rfl ?_
  refine go_callV h.1 (index := 232) (n := 1) (t := 0) (i := 0) (ci := 6) (nf := 7) (cz := (RX6, TX6, 7)) (as := [.inl (3 : Int32)]) (rest := []) (ctr_X6_leaveTrace (xl X) (xA X) (xC X) (xI X) (xk X) (3 : Int32) m) (by decide +kernel) rfl rfl wd_v_X6_232 rfl (h.room (by first | decide | omega) (by decide)) h.cl (Nat.le_of_ble_eq_true rfl) puV_ok rfl (fun r2 m2 _ => ?_)
  show Go X (Em X puI) 5 [some (.inr (.inr (0, 0))), some (.inr (.inr (6, w))), none] [] m2 _
  refine go_blk h.1 (is := [.aload_n 0, .aload_n 1]) (pc' := 7) (ls' := [some (.inr (.inr (0, 0))), some (.inr (.inr (6, w))), none]) (st' := [.inr (.inr (6, w)), .inr (.inr (0, 0))]) (m' := m2) (by decide +kernel) rfl ?_
  refine go_callV h.1 (index := 226) (n := 1) (t := 0) (i := 0) (ci := 6) (nf := 7) (cz := (RX6, TX6, 7)) (as := [.inr (.inr (6, w))]) (rest := []) (ctr_X6_eelsTelling (xl X) (xA X) (xC X) (xI X) (xk X) w m2) (by decide +kernel) rfl rfl wd_v_X6_226 rfl (h.room (by first | decide | omega) (by decide)) h.cl (Nat.le_of_ble_eq_true rfl) puI_ok rfl (fun r7 m7 _ => ?_)
  show Go X (Em X puI) 10 [some (.inr (.inr (0, 0))), some (.inr (.inr (6, w))), none] [.inl r7] m7 _
  refine go_blk h.1 (is := [.istore_n 2, .iload_n 2, .aload_n 0, .aload_n 1]) (pc' := 14) (ls' := [some (.inr (.inr (0, 0))), some (.inr (.inr (6, w))), some (.inl r7)]) (st' := [.inr (.inr (6, w)), .inr (.inr (0, 0)), .inl r7]) (m' := m7) (by decide +kernel) rfl ?_
  refine go_callV h.1 (index := 229) (n := 1) (t := 0) (i := 0) (ci := 6) (nf := 7) (cz := (RX6, TX6, 7)) (as := [.inr (.inr (6, w))]) (rest := [.inl r7]) (ctr_X6_fishsTelling (xl X) (xA X) (xC X) (xI X) (xk X) w m7) (by decide +kernel) rfl rfl wd_v_X6_229 rfl (h.room (by first | decide | omega) (by decide)) h.cl (Nat.le_of_ble_eq_true rfl) puI_ok rfl (fun r14 m14 _ => ?_)
  show Go X (Em X puI) 17 [some (.inr (.inr (0, 0))), some (.inr (.inr (6, w))), some (.inl r7)] [.inl r14, .inl r7] m14 _
  refine go_blk h.1 (is := [.iadd]) (pc' := 18) (ls' := [some (.inr (.inr (0, 0))), some (.inr (.inr (6, w))), some (.inl r7)]) (st' := [.inl (r7 + r14)]) (m' := m14) (by decide +kernel) rfl ?_
  exact go_iret h.1 h.2.2.2.2 (by decide +kernel)
theorem ctr_X6_pikesTelling (l : Launch) (A : AR → Nat) (dC : Nat → ClassId) (dI : Nat → Nat → Nat) (cs : Nat → ClassId) (w : Nat) (m : Mem) : Ctr l A dC dI cs yX6_pikesTelling prog_1_method_45_code 3 (some .int) 3 puI [.inr (.inr (0, 0)), .inr (.inr (6, w))] m (f_X6_pikesTelling w m) :=
  ctr_of (P := P_X6) (by decide +kernel) rfl pt_X6 rfl rfl (fun X hC _ _ _ _ _ hR h0 h1 hr => g_X6_pikesTelling ⟨hC, hR, h0, h1, hr⟩ w m)

