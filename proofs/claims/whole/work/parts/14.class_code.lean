/-! ===== printed by wip/whole/tr.py out of the listing ===== -/
def f_X3_find (x2 : Int32) (m : Mem) : Option (Unit × Mem) :=
  if (m 17 0 3) = x2 then
    some ((), m)
  else
    bnd (f_X0_start 1 (mset (mset m 17 0 3 x2) 17 0 4 (1000000 : Int32))) (fun _ m25 =>
      bnd (f_X3_goOnN 8 (0 : Int32) m25) (fun _ m30 =>
        some ((), m30)))
theorem g_X3_find {X : XT} (h : MX X prog_5_method_3_code P_X3 13 none) (x2 : Int32) (m : Mem) : Go X (Em X puV) 0 [some (.inr (.inr (17, 0))), some (.inr (.inr (4, 0))), some (.inl x2)] [] m (f_X3_find x2 m) := by
  unfold f_X3_find
  refine go_blk h.1 (is := [.aload_n 0, .getfield 25, .iload_n 2]) (pc' := 5) (ls' := [some (.inr (.inr (17, 0))), some (.inr (.inr (4, 0))), some (.inl x2)]) (st' := [.inl x2, .inl (m 17 0 3)]) (m' := m) (by decide +kernel) rfl ?_
  refine go_icmpne h.1 (off := 4) 9 (by decide +kernel) (by decide) (fun c5 => ?_) (fun c5 => ?_)
  · refine go_blk h.1 (is := [.aload_n 0, .iload_n 2, .putfield 25, .aload_n 0, .ldc 29, .putfield 30, .aload_n 0, .getfield 12, .aload_n 1]) (pc' := 25) (ls' := [some (.inr (.inr (17, 0))), some (.inr (.inr (4, 0))), some (.inl x2)]) (st' := [.inr (.inr (4, 0)), .inr (.inr (7, 1))]) (m' := (mset (mset m 17 0 3 x2) 17 0 4 (1000000 : Int32))) (by decide +kernel) rfl ?_
    refine go_callV h.1 (index := 33) (n := 1) (t := 7) (i := 1) (ci := 0) (nf := 14) (cz := (RX0, TX0, 14)) (as := [.inr (.inr (4, 0))]) (rest := []) (ctr_X0_start (xl X) (xA X) (xC X) (xI X) (xk X) 1 (mset (mset m 17 0 3 x2) 17 0 4 (1000000 : Int32))) (by decide +kernel) rfl rfl wd_v_X3_33 rfl (h.room (by first | decide | omega) (by decide)) h.cl (Nat.le_of_ble_eq_true rfl) puV_ok rfl (fun r25 m25 _ => ?_)
    show Go X (Em X puV) 28 [some (.inr (.inr (17, 0))), some (.inr (.inr (4, 0))), some (.inl x2)] [] m25 _
    refine go_blk h.1 (is := [.aload_n 0, .iconst 0]) (pc' := 30) (ls' := [some (.inr (.inr (17, 0))), some (.inr (.inr (4, 0))), some (.inl x2)]) (st' := [.inl (0 : Int32), .inr (.inr (17, 0))]) (m' := m25) (by decide +kernel) rfl ?_
    refine go_callS h.1 (index := 37) (n := 2) (as := [.inr (.inr (17, 0)), .inl (0 : Int32)]) (rest := []) (ctr_X3_goOnN (xl X) (xA X) (xC X) (xI X) (xk X) 8 (0 : Int32) m25) (by decide +kernel) wd_s_X3_37 rfl (h.room (by first | decide | omega) (by decide)) h.cl (Nat.le_of_ble_eq_true rfl) puV_ok rfl (fun r30 m30 _ => ?_)
    show Go X (Em X puV) 33 [some (.inr (.inr (17, 0))), some (.inr (.inr (4, 0))), some (.inl x2)] [] m30 _
    exact go_vret h.1 h.2.2.2.2 (by decide +kernel)
  · exact go_vret h.1 h.2.2.2.2 (by decide +kernel)
theorem ctr_X3_find (l : Launch) (A : AR → Nat) (dC : Nat → ClassId) (dI : Nat → Nat → Nat) (cs : Nat → ClassId) (x2 : Int32) (m : Mem) : Ctr l A dC dI cs yX3_find prog_5_method_3_code 3 none 13 puV [.inr (.inr (17, 0)), .inr (.inr (4, 0)), .inl x2] m (f_X3_find x2 m) :=
  ctr_of (P := P_X3) (by decide +kernel) rfl pt_X3 rfl rfl (fun X hC _ _ _ _ _ hR h0 h1 hr => g_X3_find ⟨hC, hR, h0, h1, hr⟩ x2 m)

def f_X6_least (x1 : Int32) (x2 : Int32) (m : Mem) : Option (Int32 × Mem) :=
  if (-1 : Int32) ≤ x2 then
    bnd (f_X6_isWithin x1 (1 : Int32) (15 : Int32) m) (fun r11 m11 =>
      if r11 = 0 then
        some ((-2 : Int32), m11)
      else
        if (m11 4 0 1) = 0 then
          some ((-3 : Int32), m11)
        else
          bnd (f_X3_find x1 m11) (fun _ m42 =>
            if (1000000 : Int32) ≤ (m42 17 0 4) then
              some ((-9 : Int32), m42)
            else
              if x2 < (m42 4 0 1) then
                if 0 ≤ x2 then
                  if inB x2 5 = true then
                    some ((m42 19 0 (ix x2)), m42)
                  else none
                else
                  some ((m42 17 0 4), m42)
              else
                some ((-9 : Int32), m42)))
  else
    some ((-1 : Int32), m)
theorem g_X6_least {X : XT} (h : MX X prog_1_method_10_code P_X6 14 (some .int)) (x1 : Int32) (x2 : Int32) (m : Mem) : Go X (Em X puI) 0 [some (.inr (.inr (0, 0))), some (.inl x1), some (.inl x2)] [] m (f_X6_least x1 x2 m) := by
  unfold f_X6_least
  refine go_blk h.1 (is := [.iload_n 2, .iconst (-1)]) (pc' := 2) (ls' := [some (.inr (.inr (0, 0))), some (.inl x1), some (.inl x2)]) (st' := [.inl (-1 : Int32), .inl x2]) (m' := m) (by decide +kernel) rfl ?_
  refine go_icmpge h.1 (off := 5) 7 (by decide +kernel) (by decide) (fun c2 => ?_) (fun c2 => ?_)
  · refine go_blk h.1 (is := [.iload_n 1, .iconst 1, .bipush 15]) (pc' := 11) (ls' := [some (.inr (.inr (0, 0))), some (.inl x1), some (.inl x2)]) (st' := [.inl (15 : Int32), .inl (1 : Int32), .inl x1]) (m' := m) (by decide +kernel) rfl ?_
    refine go_callS h.1 (index := 111) (n := 3) (as := [.inl x1, .inl (1 : Int32), .inl (15 : Int32)]) (rest := []) (ctr_X6_isWithin (xl X) (xA X) (xC X) (xI X) (xk X) x1 (1 : Int32) (15 : Int32) m) (by decide +kernel) wd_s_X6_111 rfl (h.room (by first | decide | omega) (by decide)) h.cl (Nat.le_of_ble_eq_true rfl) puI_ok rfl (fun r11 m11 _ => ?_)
    show Go X (Em X puI) 14 [some (.inr (.inr (0, 0))), some (.inl x1), some (.inl x2)] [.inl r11] m11 _
    refine go_ifne h.1 (off := 6) 20 (by decide +kernel) (by decide) (fun c14 => ?_) (fun c14 => ?_)
    · refine go_blk h.1 (is := [.aload_n 0, .getfield 21, .getfield 82]) (pc' := 27) (ls' := [some (.inr (.inr (0, 0))), some (.inl x1), some (.inl x2)]) (st' := [.inl (m11 4 0 1)]) (m' := m11) (by decide +kernel) rfl ?_
      refine go_ifne h.1 (off := 6) 33 (by decide +kernel) (by decide) (fun c27 => ?_) (fun c27 => ?_)
      · refine go_blk h.1 (is := [.aload_n 0, .getfield 35, .aload_n 0, .getfield 21, .iload_n 1]) (pc' := 42) (ls' := [some (.inr (.inr (0, 0))), some (.inl x1), some (.inl x2)]) (st' := [.inl x1, .inr (.inr (4, 0)), .inr (.inr (17, 0))]) (m' := m11) (by decide +kernel) rfl ?_
        refine go_callV h.1 (index := 156) (n := 2) (t := 17) (i := 0) (ci := 3) (nf := 5) (cz := (RX3, TX3, 5)) (as := [.inr (.inr (4, 0)), .inl x1]) (rest := []) (ctr_X3_find (xl X) (xA X) (xC X) (xI X) (xk X) x1 m11) (by decide +kernel) rfl rfl wd_v_X6_156 rfl (h.room (by first | decide | omega) (by decide)) h.cl (Nat.le_of_ble_eq_true rfl) puV_ok rfl (fun r42 m42 _ => ?_)
        show Go X (Em X puI) 45 [some (.inr (.inr (0, 0))), some (.inl x1), some (.inl x2)] [] m42 _
        refine go_blk h.1 (is := [.aload_n 0, .getfield 35, .getfield 160, .ldc 163]) (pc' := 54) (ls' := [some (.inr (.inr (0, 0))), some (.inl x1), some (.inl x2)]) (st' := [.inl (1000000 : Int32), .inl (m42 17 0 4)]) (m' := m42) (by decide +kernel) rfl ?_
        refine go_icmpge h.1 (off := 14) 68 (by decide +kernel) (by decide) (fun c54 => ?_) (fun c54 => ?_)
        · refine go_blk h.1 (is := [.bipush (-9)]) (pc' := 70) (ls' := [some (.inr (.inr (0, 0))), some (.inl x1), some (.inl x2)]) (st' := [.inl (-9 : Int32)]) (m' := m42) (by decide +kernel) rfl ?_
          exact go_iret h.1 h.2.2.2.2 (by decide +kernel)
        · refine go_blk h.1 (is := [.iload_n 2, .aload_n 0, .getfield 21, .getfield 82]) (pc' := 65) (ls' := [some (.inr (.inr (0, 0))), some (.inl x1), some (.inl x2)]) (st' := [.inl (m42 4 0 1), .inl x2]) (m' := m42) (by decide +kernel) rfl ?_
          refine go_icmplt h.1 (off := 6) 71 (by decide +kernel) (by decide) (fun c65 => ?_) (fun c65 => ?_)
          · refine go_blk h.1 (is := [.iload_n 2]) (pc' := 72) (ls' := [some (.inr (.inr (0, 0))), some (.inl x1), some (.inl x2)]) (st' := [.inl x2]) (m' := m42) (by decide +kernel) rfl ?_
            refine go_ifge h.1 (off := 13) 85 (by decide +kernel) (by decide) (fun c72 => ?_) (fun c72 => ?_)
            · refine go_blk h.1 (is := [.aload_n 0, .getfield 35, .getfield 164, .iload_n 2]) (pc' := 93) (ls' := [some (.inr (.inr (0, 0))), some (.inl x1), some (.inl x2)]) (st' := [.inl x2, .inr (.inr (19, 0))]) (m' := m42) (by decide +kernel) rfl ?_
              refine go_iald h.1 (by decide +kernel) rfl rfl (fun b93 => ?_)
              show Go X (Em X puI) 94 [some (.inr (.inr (0, 0))), some (.inl x1), some (.inl x2)] [.inl (m42 19 0 (ix x2))] m42 _
              exact go_iret h.1 h.2.2.2.2 (by decide +kernel)
            · refine go_blk h.1 (is := [.aload_n 0, .getfield 35, .getfield 160]) (pc' := 82) (ls' := [some (.inr (.inr (0, 0))), some (.inl x1), some (.inl x2)]) (st' := [.inl (m42 17 0 4)]) (m' := m42) (by decide +kernel) rfl ?_
              refine go_goto h.1 (off := 12) 94 (by decide +kernel) (by decide) ?_
              exact go_iret h.1 h.2.2.2.2 (by decide +kernel)
          · refine go_blk h.1 (is := [.bipush (-9)]) (pc' := 70) (ls' := [some (.inr (.inr (0, 0))), some (.inl x1), some (.inl x2)]) (st' := [.inl (-9 : Int32)]) (m' := m42) (by decide +kernel) rfl ?_
            exact go_iret h.1 h.2.2.2.2 (by decide +kernel)
      · refine go_blk h.1 (is := [.bipush (-3)]) (pc' := 32) (ls' := [some (.inr (.inr (0, 0))), some (.inl x1), some (.inl x2)]) (st' := [.inl (-3 : Int32)]) (m' := m11) (by decide +kernel) rfl ?_
        exact go_iret h.1 h.2.2.2.2 (by decide +kernel)
    · refine go_blk h.1 (is := [.bipush (-2)]) (pc' := 19) (ls' := [some (.inr (.inr (0, 0))), some (.inl x1), some (.inl x2)]) (st' := [.inl (-2 : Int32)]) (m' := m11) (by decide +kernel) rfl ?_
      exact go_iret h.1 h.2.2.2.2 (by decide +kernel)
  · refine go_blk h.1 (is := [.iconst (-1)]) (pc' := 6) (ls' := [some (.inr (.inr (0, 0))), some (.inl x1), some (.inl x2)]) (st' := [.inl (-1 : Int32)]) (m' := m) (by decide +kernel) rfl ?_
    exact go_iret h.1 h.2.2.2.2 (by decide +kernel)
theorem ctr_X6_least (l : Launch) (A : AR → Nat) (dC : Nat → ClassId) (dI : Nat → Nat → Nat) (cs : Nat → ClassId) (x1 : Int32) (x2 : Int32) (m : Mem) : Ctr l A dC dI cs yX6_least prog_1_method_10_code 3 (some .int) 14 puI [.inr (.inr (0, 0)), .inl x1, .inl x2] m (f_X6_least x1 x2 m) :=
  ctr_of (P := P_X6) (by decide +kernel) rfl pt_X6 rfl rfl (fun X hC _ _ _ _ _ hR h0 h1 hr => g_X6_least ⟨hC, hR, h0, h1, hr⟩ x1 x2 m)

def f_X0_netOf_b4 (w : Nat) (x1 : Int32) (next : Int32 × Int32 × Mem → Option (Int32 × Mem)) (exit : Int32 × Mem → Option (Int32 × Mem)) (s : Int32 × Int32 × Mem) : Option (Int32 × Mem) :=
  if (s.2.2 7 w 8) ≤ s.2.1 then
    exit (s.1, s.2.2)
  else
    if inB x1 5 = true then
      if inB s.2.1 5 = true then
        if inB s.2.1 5 = true then
          if inB x1 5 = true then
            next ((s.1 + ((s.2.2 14 (5 * w + (ix x1)) (ix s.2.1)) - (s.2.2 14 (5 * w + (ix s.2.1)) (ix x1)))), (s.2.1 + (1 : Int32)), s.2.2)
          else none
        else none
      else none
    else none
theorem g_X0_netOf_b4 {X : XT} (h : MX X prog_2_method_17_code P_X0 0 (some .int)) (w : Nat) (x1 : Int32) (next : Int32 × Int32 × Mem → Option (Int32 × Mem)) (exit : Int32 × Mem → Option (Int32 × Mem)) (hn : ∀ (y2 : Int32) (y3 : Int32) (n : Mem), Go X (Em X puI) 4 [some (.inr (.inr (7, w))), some (.inl x1), some (.inl y2), some (.inl y3)] [] n (next (y2, y3, n))) (hx : ∀ (y2 : Int32) (n : Mem) (o0 : Option AV) (o1 : Option AV) (o3 : Option AV), Go X (Em X puI) 38 [o0, o1, some (.inl y2), o3] [] n (exit (y2, n))) (s : Int32 × Int32 × Mem) : Go X (Em X puI) 4 [some (.inr (.inr (7, w))), some (.inl x1), some (.inl s.1), some (.inl s.2.1)] [] s.2.2 (f_X0_netOf_b4 w x1 next exit s) := by
  unfold f_X0_netOf_b4
  refine go_blk h.1 (is := [.iload_n 3, .aload_n 0, .getfield 44]) (pc' := 9) (ls' := [some (.inr (.inr (7, w))), some (.inl x1), some (.inl s.1), some (.inl s.2.1)]) (st' := [.inl (s.2.2 7 w 8), .inl s.2.1]) (m' := s.2.2) (by decide +kernel) rfl ?_
  refine go_icmpge h.1 (off := 29) 38 (by decide +kernel) (by decide) (fun c9 => ?_) (fun c9 => ?_)
  · exact hx s.1 s.2.2 (some (.inr (.inr (7, w)))) (some (.inl x1)) (some (.inl s.2.1))
  · refine go_blk h.1 (is := [.iload_n 2, .aload_n 0, .getfield 29, .iload_n 1]) (pc' := 18) (ls' := [some (.inr (.inr (7, w))), some (.inl x1), some (.inl s.1), some (.inl s.2.1)]) (st' := [.inl x1, .inr (.inr (13, w)), .inl s.1]) (m' := s.2.2) (by decide +kernel) rfl ?_
    refine go_aald h.1 (kd := 2) (z := (14, (5 * w + (ix x1)))) (by decide +kernel) rfl rfl (by decide) rfl (fun b18 => ?_)
    refine go_blk h.1 (is := [.iload_n 3]) (pc' := 20) (ls' := [some (.inr (.inr (7, w))), some (.inl x1), some (.inl s.1), some (.inl s.2.1)]) (st' := [.inl s.2.1, .inr (.inr (14, (5 * w + (ix x1)))), .inl s.1]) (m' := s.2.2) (by decide +kernel) rfl ?_
    refine go_iald h.1 (by decide +kernel) rfl rfl (fun b20 => ?_)
    show Go X (Em X puI) 21 [some (.inr (.inr (7, w))), some (.inl x1), some (.inl s.1), some (.inl s.2.1)] [.inl (s.2.2 14 (5 * w + (ix x1)) (ix s.2.1)), .inl s.1] s.2.2 _
    refine go_blk h.1 (is := [.aload_n 0, .getfield 29, .iload_n 3]) (pc' := 26) (ls' := [some (.inr (.inr (7, w))), some (.inl x1), some (.inl s.1), some (.inl s.2.1)]) (st' := [.inl s.2.1, .inr (.inr (13, w)), .inl (s.2.2 14 (5 * w + (ix x1)) (ix s.2.1)), .inl s.1]) (m' := s.2.2) (by decide +kernel) rfl ?_
    refine go_aald h.1 (kd := 2) (z := (14, (5 * w + (ix s.2.1)))) (by decide +kernel) rfl rfl (by decide) rfl (fun b26 => ?_)
    refine go_blk h.1 (is := [.iload_n 1]) (pc' := 28) (ls' := [some (.inr (.inr (7, w))), some (.inl x1), some (.inl s.1), some (.inl s.2.1)]) (st' := [.inl x1, .inr (.inr (14, (5 * w + (ix s.2.1)))), .inl (s.2.2 14 (5 * w + (ix x1)) (ix s.2.1)), .inl s.1]) (m' := s.2.2) (by decide +kernel) rfl ?_
    refine go_iald h.1 (by decide +kernel) rfl rfl (fun b28 => ?_)
    show Go X (Em X puI) 29 [some (.inr (.inr (7, w))), some (.inl x1), some (.inl s.1), some (.inl s.2.1)] [.inl (s.2.2 14 (5 * w + (ix s.2.1)) (ix x1)), .inl (s.2.2 14 (5 * w + (ix x1)) (ix s.2.1)), .inl s.1] s.2.2 _
    refine go_blk h.1 (is := [.isub, .iadd, .istore_n 2, .iinc 3 1]) (pc' := 35) (ls' := [some (.inr (.inr (7, w))), some (.inl x1), some (.inl (s.1 + ((s.2.2 14 (5 * w + (ix x1)) (ix s.2.1)) - (s.2.2 14 (5 * w + (ix s.2.1)) (ix x1))))), some (.inl (s.2.1 + (1 : Int32)))]) (st' := []) (m' := s.2.2) (by decide +kernel) rfl ?_
    refine go_goto h.1 (off := -31) 4 (by decide +kernel) (by decide) ?_
    exact hn (s.1 + ((s.2.2 14 (5 * w + (ix x1)) (ix s.2.1)) - (s.2.2 14 (5 * w + (ix s.2.1)) (ix x1)))) (s.2.1 + (1 : Int32)) s.2.2

def f_X0_netOf (w : Nat) (x1 : Int32) (m : Mem) : Option (Int32 × Mem) :=
  lpk (f_X0_netOf_b4 w x1) fuelN ((0 : Int32), (0 : Int32), m) (fun t4 =>
    some (t4.1, t4.2))
theorem g_X0_netOf {X : XT} (h : MX X prog_2_method_17_code P_X0 0 (some .int)) (w : Nat) (x1 : Int32) (m : Mem) : Go X (Em X puI) 0 [some (.inr (.inr (7, w))), some (.inl x1), none, none] [] m (f_X0_netOf w x1 m) := by
  unfold f_X0_netOf
  refine go_blk h.1 (is := [.iconst 0, .istore_n 2, .iconst 0, .istore_n 3]) (pc' := 4) (ls' := [some (.inr (.inr (7, w))), some (.inl x1), some (.inl (0 : Int32)), some (.inl (0 : Int32))]) (st' := []) (m' := m) (by decide +kernel) rfl ?_
  refine go_lp2 (hd := fun (y2 : Int32) (y3 : Int32) (n : Mem) o => Go X (Em X puI) 4 [some (.inr (.inr (7, w))), some (.inl x1), some (.inl y2), some (.inl y3)] [] n o) (fun _ _ _ => go_none) (fun y2 y3 n nx_ hn_ => g_X0_netOf_b4 h w x1 nx_ _ hn_ (fun z2_4 z_4 o0_4 o1_4 o3_4 => ?_) (y2, y3, n)) fuelN (0 : Int32) (0 : Int32) m
  refine go_blk h.1 (is := [.iload_n 2]) (pc' := 39) (ls' := [o0_4, o1_4, some (.inl z2_4), o3_4]) (st' := [.inl z2_4]) (m' := z_4) (by decide +kernel) rfl ?_
  exact go_iret h.1 h.2.2.2.2 (by decide +kernel)
theorem ctr_X0_netOf (l : Launch) (A : AR → Nat) (dC : Nat → ClassId) (dI : Nat → Nat → Nat) (cs : Nat → ClassId) (w : Nat) (x1 : Int32) (m : Mem) : Ctr l A dC dI cs yX0_netOf prog_2_method_17_code 4 (some .int) 0 puI [.inr (.inr (7, w)), .inl x1] m (f_X0_netOf w x1 m) :=
  ctr_of (P := P_X0) (by decide +kernel) rfl pt_X0 rfl rfl (fun X hC _ _ _ _ _ hR h0 h1 hr => g_X0_netOf ⟨hC, hR, h0, h1, hr⟩ w x1 m)

def f_X0_fewestPayments_j113 (w : Nat) (next : Int32 × Mem → Option (Int32 × Mem)) (exit : Mem → Option (Int32 × Mem)) (x1 : Int32) (x2 : Int32) (x3 : Int32) (m : Mem) : Option (Int32 × Mem) :=
  next ((x3 + (1 : Int32)), m)
theorem g_X0_fewestPayments_j113 {X : XT} (h : MX X prog_2_method_16_code P_X0 1 (some .int)) (w : Nat) (next : Int32 × Mem → Option (Int32 × Mem)) (exit : Mem → Option (Int32 × Mem)) (x1 : Int32) (x2 : Int32) (x3 : Int32) (m : Mem) (o4 : Option AV) (hn : ∀ (y3 : Int32) (n : Mem) (o4 : Option AV), Go X (Em X puI) 48 [some (.inr (.inr (7, w))), some (.inl x1), some (.inl x2), some (.inl y3), o4] [] n (next (y3, n))) (hx : ∀ (n : Mem) (o3 : Option AV) (o4 : Option AV), Go X (Em X puI) 119 [some (.inr (.inr (7, w))), some (.inl x1), some (.inl x2), o3, o4] [] n (exit (n))) : Go X (Em X puI) 113 [some (.inr (.inr (7, w))), some (.inl x1), some (.inl x2), some (.inl x3), o4] [] m (f_X0_fewestPayments_j113 w next exit x1 x2 x3 m) := by
  unfold f_X0_fewestPayments_j113
  refine go_blk h.1 (is := [.iinc 3 1]) (pc' := 116) (ls' := [some (.inr (.inr (7, w))), some (.inl x1), some (.inl x2), some (.inl (x3 + (1 : Int32))), o4]) (st' := []) (m' := m) (by decide +kernel) rfl ?_
  refine go_goto h.1 (off := -68) 48 (by decide +kernel) (by decide) ?_
  exact hn (x3 + (1 : Int32)) m (o4)

def f_X0_fewestPayments_b48 (w : Nat) (x1 : Int32) (x2 : Int32) (next : Int32 × Mem → Option (Int32 × Mem)) (exit : Mem → Option (Int32 × Mem)) (s : Int32 × Mem) : Option (Int32 × Mem) :=
  if (s.2 7 w 8) ≤ s.1 then
    exit (s.2)
  else
    if ((x2 >>> (s.1 &&& 31)) &&& (1 : Int32)) = (1 : Int32) then
      if inB (x2 ^^^ ((1 : Int32) <<< (s.1 &&& 31))) 32 = true then
        bnd (f_X0_netOf w s.1 s.2) (fun r86 m86 =>
          if inB x2 32 = true then
            if inB x2 32 = true then
              if inB (x2 ^^^ ((1 : Int32) <<< (s.1 &&& 31))) 32 = true then
                if inB x2 32 = true then
                  f_X0_fewestPayments_j113 w next exit x1 x2 s.1 (mset (mset m86 16 w (ix x2) ((s.2 16 w (ix (x2 ^^^ ((1 : Int32) <<< (s.1 &&& 31))))) + r86)) 15 w (ix x2) (if (m86 15 w (ix x2)) < (m86 15 w (ix (x2 ^^^ ((1 : Int32) <<< (s.1 &&& 31))))) then (m86 15 w (ix (x2 ^^^ ((1 : Int32) <<< (s.1 &&& 31))))) else (m86 15 w (ix x2))))
                else none
              else none
            else none
          else none)
      else none
    else
      f_X0_fewestPayments_j113 w next exit x1 x2 s.1 s.2
theorem g_X0_fewestPayments_b48 {X : XT} (h : MX X prog_2_method_16_code P_X0 1 (some .int)) (w : Nat) (x1 : Int32) (x2 : Int32) (next : Int32 × Mem → Option (Int32 × Mem)) (exit : Mem → Option (Int32 × Mem)) (hn : ∀ (y3 : Int32) (n : Mem) (o4 : Option AV), Go X (Em X puI) 48 [some (.inr (.inr (7, w))), some (.inl x1), some (.inl x2), some (.inl y3), o4] [] n (next (y3, n))) (hx : ∀ (n : Mem) (o3 : Option AV) (o4 : Option AV), Go X (Em X puI) 119 [some (.inr (.inr (7, w))), some (.inl x1), some (.inl x2), o3, o4] [] n (exit (n))) (s : Int32 × Mem) (o4 : Option AV) : Go X (Em X puI) 48 [some (.inr (.inr (7, w))), some (.inl x1), some (.inl x2), some (.inl s.1), o4] [] s.2 (f_X0_fewestPayments_b48 w x1 x2 next exit s) := by
  unfold f_X0_fewestPayments_b48
  refine go_blk h.1 (is := [.iload_n 3, .aload_n 0, .getfield 44]) (pc' := 53) (ls' := [some (.inr (.inr (7, w))), some (.inl x1), some (.inl x2), some (.inl s.1), o4]) (st' := [.inl (s.2 7 w 8), .inl s.1]) (m' := s.2) (by decide +kernel) rfl ?_
  refine go_icmpge h.1 (off := 66) 119 (by decide +kernel) (by decide) (fun c53 => ?_) (fun c53 => ?_)
  · exact hx s.2 (some (.inl s.1)) (o4)
  · refine go_blk h.1 (is := [.iload_n 2, .iload_n 3, .ishr, .iconst 1, .iand, .iconst 1]) (pc' := 62) (ls' := [some (.inr (.inr (7, w))), some (.inl x1), some (.inl x2), some (.inl s.1), o4]) (st' := [.inl (1 : Int32), .inl ((x2 >>> (s.1 &&& 31)) &&& (1 : Int32))]) (m' := s.2) (by decide +kernel) rfl ?_
    refine go_icmpne h.1 (off := 51) 113 (by decide +kernel) (by decide) (fun c62 => ?_) (fun c62 => ?_)
    · exact g_X0_fewestPayments_j113 h w next exit x1 x2 s.1 s.2 (o4) hn hx
    · refine go_blk h.1 (is := [.iload_n 2, .iconst 1, .iload_n 3, .ishl, .ixor, .istore 4, .aload_n 0, .getfield 35, .iload_n 2, .aload_n 0, .getfield 35, .iload 4]) (pc' := 83) (ls' := [some (.inr (.inr (7, w))), some (.inl x1), some (.inl x2), some (.inl s.1), some (.inl (x2 ^^^ ((1 : Int32) <<< (s.1 &&& 31))))]) (st' := [.inl (x2 ^^^ ((1 : Int32) <<< (s.1 &&& 31))), .inr (.inr (16, w)), .inl x2, .inr (.inr (16, w))]) (m' := s.2) (by decide +kernel) rfl ?_
      refine go_iald h.1 (by decide +kernel) rfl rfl (fun b83 => ?_)
      show Go X (Em X puI) 84 [some (.inr (.inr (7, w))), some (.inl x1), some (.inl x2), some (.inl s.1), some (.inl (x2 ^^^ ((1 : Int32) <<< (s.1 &&& 31))))] [.inl (s.2 16 w (ix (x2 ^^^ ((1 : Int32) <<< (s.1 &&& 31))))), .inl x2, .inr (.inr (16, w))] s.2 _
      refine go_blk h.1 (is := [.aload_n 0, .iload_n 3]) (pc' := 86) (ls' := [some (.inr (.inr (7, w))), some (.inl x1), some (.inl x2), some (.inl s.1), some (.inl (x2 ^^^ ((1 : Int32) <<< (s.1 &&& 31))))]) (st' := [.inl s.1, .inr (.inr (7, w)), .inl (s.2 16 w (ix (x2 ^^^ ((1 : Int32) <<< (s.1 &&& 31))))), .inl x2, .inr (.inr (16, w))]) (m' := s.2) (by decide +kernel) rfl ?_
      refine go_callV h.1 (index := 132) (n := 1) (t := 7) (i := w) (ci := 0) (nf := 14) (cz := (RX0, TX0, 14)) (as := [.inl s.1]) (rest := [.inl (s.2 16 w (ix (x2 ^^^ ((1 : Int32) <<< (s.1 &&& 31))))), .inl x2, .inr (.inr (16, w))]) (ctr_X0_netOf (xl X) (xA X) (xC X) (xI X) (xk X) w s.1 s.2) (by decide +kernel) rfl rfl wd_v_X0_132 rfl (h.room (by first | decide | omega) (by decide)) h.cl (Nat.le_of_ble_eq_true rfl) puI_ok rfl (fun r86 m86 _ => ?_)
      show Go X (Em X puI) 89 [some (.inr (.inr (7, w))), some (.inl x1), some (.inl x2), some (.inl s.1), some (.inl (x2 ^^^ ((1 : Int32) <<< (s.1 &&& 31))))] [.inl r86, .inl (s.2 16 w (ix (x2 ^^^ ((1 : Int32) <<< (s.1 &&& 31))))), .inl x2, .inr (.inr (16, w))] m86 _
      refine go_blk h.1 (is := [.iadd]) (pc' := 90) (ls' := [some (.inr (.inr (7, w))), some (.inl x1), some (.inl x2), some (.inl s.1), some (.inl (x2 ^^^ ((1 : Int32) <<< (s.1 &&& 31))))]) (st' := [.inl ((s.2 16 w (ix (x2 ^^^ ((1 : Int32) <<< (s.1 &&& 31))))) + r86), .inl x2, .inr (.inr (16, w))]) (m' := m86) (by decide +kernel) rfl ?_
      refine go_iast h.1 (by decide +kernel) rfl rfl (fun b90 => ?_)
      refine go_blk h.1 (is := [.aload_n 0, .getfield 32, .iload_n 2, .aload_n 0, .getfield 32, .iload_n 2]) (pc' := 101) (ls' := [some (.inr (.inr (7, w))), some (.inl x1), some (.inl x2), some (.inl s.1), some (.inl (x2 ^^^ ((1 : Int32) <<< (s.1 &&& 31))))]) (st' := [.inl x2, .inr (.inr (15, w)), .inl x2, .inr (.inr (15, w))]) (m' := (mset m86 16 w (ix x2) ((s.2 16 w (ix (x2 ^^^ ((1 : Int32) <<< (s.1 &&& 31))))) + r86))) (by decide +kernel) rfl ?_
      refine go_iald h.1 (by decide +kernel) rfl rfl (fun b101 => ?_)
      show Go X (Em X puI) 102 [some (.inr (.inr (7, w))), some (.inl x1), some (.inl x2), some (.inl s.1), some (.inl (x2 ^^^ ((1 : Int32) <<< (s.1 &&& 31))))] [.inl (m86 15 w (ix x2)), .inl x2, .inr (.inr (15, w))] (mset m86 16 w (ix x2) ((s.2 16 w (ix (x2 ^^^ ((1 : Int32) <<< (s.1 &&& 31))))) + r86)) _
      refine go_blk h.1 (is := [.aload_n 0, .getfield 32, .iload 4]) (pc' := 108) (ls' := [some (.inr (.inr (7, w))), some (.inl x1), some (.inl x2), some (.inl s.1), some (.inl (x2 ^^^ ((1 : Int32) <<< (s.1 &&& 31))))]) (st' := [.inl (x2 ^^^ ((1 : Int32) <<< (s.1 &&& 31))), .inr (.inr (15, w)), .inl (m86 15 w (ix x2)), .inl x2, .inr (.inr (15, w))]) (m' := (mset m86 16 w (ix x2) ((s.2 16 w (ix (x2 ^^^ ((1 : Int32) <<< (s.1 &&& 31))))) + r86))) (by decide +kernel) rfl ?_
      refine go_iald h.1 (by decide +kernel) rfl rfl (fun b108 => ?_)
      show Go X (Em X puI) 109 [some (.inr (.inr (7, w))), some (.inl x1), some (.inl x2), some (.inl s.1), some (.inl (x2 ^^^ ((1 : Int32) <<< (s.1 &&& 31))))] [.inl (m86 15 w (ix (x2 ^^^ ((1 : Int32) <<< (s.1 &&& 31))))), .inl (m86 15 w (ix x2)), .inl x2, .inr (.inr (15, w))] (mset m86 16 w (ix x2) ((s.2 16 w (ix (x2 ^^^ ((1 : Int32) <<< (s.1 &&& 31))))) + r86)) _
      refine go_max h (index := 135) (by first | decide | omega) (by decide +kernel) wd_ml_X0_135 wd_st_max wd_in_Math wd_co_max (Nat.le_of_ble_eq_true rfl) ?_
      show Go X (Em X puI) 112 [some (.inr (.inr (7, w))), some (.inl x1), some (.inl x2), some (.inl s.1), some (.inl (x2 ^^^ ((1 : Int32) <<< (s.1 &&& 31))))] [.inl (if (m86 15 w (ix x2)) < (m86 15 w (ix (x2 ^^^ ((1 : Int32) <<< (s.1 &&& 31))))) then (m86 15 w (ix (x2 ^^^ ((1 : Int32) <<< (s.1 &&& 31))))) else (m86 15 w (ix x2))), .inl x2, .inr (.inr (15, w))] (mset m86 16 w (ix x2) ((s.2 16 w (ix (x2 ^^^ ((1 : Int32) <<< (s.1 &&& 31))))) + r86)) _
      refine go_iast h.1 (by decide +kernel) rfl rfl (fun b112 => ?_)
      exact g_X0_fewestPayments_j113 h w next exit x1 x2 s.1 (mset (mset m86 16 w (ix x2) ((s.2 16 w (ix (x2 ^^^ ((1 : Int32) <<< (s.1 &&& 31))))) + r86)) 15 w (ix x2) (if (m86 15 w (ix x2)) < (m86 15 w (ix (x2 ^^^ ((1 : Int32) <<< (s.1 &&& 31))))) then (m86 15 w (ix (x2 ^^^ ((1 : Int32) <<< (s.1 &&& 31))))) else (m86 15 w (ix x2)))) (some (.inl (x2 ^^^ ((1 : Int32) <<< (s.1 &&& 31))))) hn hx

def f_X0_fewestPayments_j138 (w : Nat) (next : Int32 × Mem → Option (Int32 × Mem)) (exit : Mem → Option (Int32 × Mem)) (x1 : Int32) (x2 : Int32) (m : Mem) : Option (Int32 × Mem) :=
  next ((x2 + (1 : Int32)), m)
theorem g_X0_fewestPayments_j138 {X : XT} (h : MX X prog_2_method_16_code P_X0 1 (some .int)) (w : Nat) (next : Int32 × Mem → Option (Int32 × Mem)) (exit : Mem → Option (Int32 × Mem)) (x1 : Int32) (x2 : Int32) (m : Mem) (o3 : Option AV) (o4 : Option AV) (hn : ∀ (y2 : Int32) (n : Mem) (o3 : Option AV) (o4 : Option AV), Go X (Em X puI) 25 [some (.inr (.inr (7, w))), some (.inl x1), some (.inl y2), o3, o4] [] n (next (y2, n))) (hx : ∀ (n : Mem) (o2 : Option AV) (o3 : Option AV) (o4 : Option AV), Go X (Em X puI) 144 [some (.inr (.inr (7, w))), some (.inl x1), o2, o3, o4] [] n (exit (n))) : Go X (Em X puI) 138 [some (.inr (.inr (7, w))), some (.inl x1), some (.inl x2), o3, o4] [] m (f_X0_fewestPayments_j138 w next exit x1 x2 m) := by
  unfold f_X0_fewestPayments_j138
  refine go_blk h.1 (is := [.iinc 2 1]) (pc' := 141) (ls' := [some (.inr (.inr (7, w))), some (.inl x1), some (.inl (x2 + (1 : Int32))), o3, o4]) (st' := []) (m' := m) (by decide +kernel) rfl ?_
  refine go_goto h.1 (off := -116) 25 (by decide +kernel) (by decide) ?_
  exact hn (x2 + (1 : Int32)) m (o3) (o4)

def f_X0_fewestPayments_b25 (w : Nat) (x1 : Int32) (next : Int32 × Mem → Option (Int32 × Mem)) (exit : Mem → Option (Int32 × Mem)) (s : Int32 × Mem) : Option (Int32 × Mem) :=
  if x1 < s.1 then
    exit (s.2)
  else
    if (32 : Int32) ≤ s.1 then
      exit (s.2)
    else
      if inB s.1 32 = true then
        lpk (f_X0_fewestPayments_b48 w x1 s.1) fuelN ((0 : Int32), (mset s.2 15 w (ix s.1) (0 : Int32))) (fun t48 =>
          if inB s.1 32 = true then
            if (t48 16 w (ix s.1)) = 0 then
              if inB s.1 32 = true then
                if inB s.1 32 = true then
                  f_X0_fewestPayments_j138 w next exit x1 s.1 (mset t48 15 w (ix s.1) ((t48 15 w (ix s.1)) + (1 : Int32)))
                else none
              else none
            else
              f_X0_fewestPayments_j138 w next exit x1 s.1 t48
          else none)
      else none
theorem g_X0_fewestPayments_b25 {X : XT} (h : MX X prog_2_method_16_code P_X0 1 (some .int)) (w : Nat) (x1 : Int32) (next : Int32 × Mem → Option (Int32 × Mem)) (exit : Mem → Option (Int32 × Mem)) (hn : ∀ (y2 : Int32) (n : Mem) (o3 : Option AV) (o4 : Option AV), Go X (Em X puI) 25 [some (.inr (.inr (7, w))), some (.inl x1), some (.inl y2), o3, o4] [] n (next (y2, n))) (hx : ∀ (n : Mem) (o2 : Option AV) (o3 : Option AV) (o4 : Option AV), Go X (Em X puI) 144 [some (.inr (.inr (7, w))), some (.inl x1), o2, o3, o4] [] n (exit (n))) (s : Int32 × Mem) (o3 : Option AV) (o4 : Option AV) : Go X (Em X puI) 25 [some (.inr (.inr (7, w))), some (.inl x1), some (.inl s.1), o3, o4] [] s.2 (f_X0_fewestPayments_b25 w x1 next exit s) := by
  unfold f_X0_fewestPayments_b25
  refine go_blk h.1 (is := [.iload_n 2, .iload_n 1]) (pc' := 27) (ls' := [some (.inr (.inr (7, w))), some (.inl x1), some (.inl s.1), o3, o4]) (st' := [.inl x1, .inl s.1]) (m' := s.2) (by decide +kernel) rfl ?_
  refine go_icmpgt h.1 (off := 117) 144 (by decide +kernel) (by decide) (fun c27 => ?_) (fun c27 => ?_)
  · exact hx s.2 (some (.inl s.1)) (o3) (o4)
  · refine go_blk h.1 (is := [.iload_n 2, .aload_n 0, .getfield 32]) (pc' := 35) (ls' := [some (.inr (.inr (7, w))), some (.inl x1), some (.inl s.1), o3, o4]) (st' := [.inr (.inr (15, w)), .inl s.1]) (m' := s.2) (by decide +kernel) rfl ?_
    refine go_alen h.1 (by decide +kernel) rfl rfl ?_
    show Go X (Em X puI) 36 [some (.inr (.inr (7, w))), some (.inl x1), some (.inl s.1), o3, o4] [.inl (32 : Int32), .inl s.1] s.2 _
    refine go_icmpge h.1 (off := 108) 144 (by decide +kernel) (by decide) (fun c36 => ?_) (fun c36 => ?_)
    · exact hx s.2 (some (.inl s.1)) (o3) (o4)
    · refine go_blk h.1 (is := [.aload_n 0, .getfield 32, .iload_n 2, .iconst 0]) (pc' := 45) (ls' := [some (.inr (.inr (7, w))), some (.inl x1), some (.inl s.1), o3, o4]) (st' := [.inl (0 : Int32), .inl s.1, .inr (.inr (15, w))]) (m' := s.2) (by decide +kernel) rfl ?_
      refine go_iast h.1 (by decide +kernel) rfl rfl (fun b45 => ?_)
      refine go_blk h.1 (is := [.iconst 0, .istore_n 3]) (pc' := 48) (ls' := [some (.inr (.inr (7, w))), some (.inl x1), some (.inl s.1), some (.inl (0 : Int32)), o4]) (st' := []) (m' := (mset s.2 15 w (ix s.1) (0 : Int32))) (by decide +kernel) rfl ?_
      refine go_lp1 (hd := fun (y3 : Int32) (n : Mem) o => ∀ (o4 : Option AV), Go X (Em X puI) 48 [some (.inr (.inr (7, w))), some (.inl x1), some (.inl s.1), some (.inl y3), o4] [] n o) (fun _ _ _ => go_none) (fun y3 n nx_ hn_ => g_X0_fewestPayments_b48 h w x1 s.1 nx_ _ hn_ (fun z_48 o3_48 o4_48 => ?_) (y3, n)) fuelN (0 : Int32) (mset s.2 15 w (ix s.1) (0 : Int32)) (o4)
      refine go_blk h.1 (is := [.aload_n 0, .getfield 35, .iload_n 2]) (pc' := 124) (ls' := [some (.inr (.inr (7, w))), some (.inl x1), some (.inl s.1), o3_48, o4_48]) (st' := [.inl s.1, .inr (.inr (16, w))]) (m' := z_48) (by decide +kernel) rfl ?_
      refine go_iald h.1 (by decide +kernel) rfl rfl (fun b124 => ?_)
      show Go X (Em X puI) 125 [some (.inr (.inr (7, w))), some (.inl x1), some (.inl s.1), o3_48, o4_48] [.inl (z_48 16 w (ix s.1))] z_48 _
      refine go_ifne h.1 (off := 13) 138 (by decide +kernel) (by decide) (fun c125 => ?_) (fun c125 => ?_)
      · exact g_X0_fewestPayments_j138 h w next exit x1 s.1 z_48 (o3_48) (o4_48) hn hx
      · refine go_blk h.1 (is := [.aload_n 0, .getfield 32, .iload_n 2, .dup2]) (pc' := 134) (ls' := [some (.inr (.inr (7, w))), some (.inl x1), some (.inl s.1), o3_48, o4_48]) (st' := [.inl s.1, .inr (.inr (15, w)), .inl s.1, .inr (.inr (15, w))]) (m' := z_48) (by decide +kernel) rfl ?_
        refine go_iald h.1 (by decide +kernel) rfl rfl (fun b134 => ?_)
        show Go X (Em X puI) 135 [some (.inr (.inr (7, w))), some (.inl x1), some (.inl s.1), o3_48, o4_48] [.inl (z_48 15 w (ix s.1)), .inl s.1, .inr (.inr (15, w))] z_48 _
        refine go_blk h.1 (is := [.iconst 1, .iadd]) (pc' := 137) (ls' := [some (.inr (.inr (7, w))), some (.inl x1), some (.inl s.1), o3_48, o4_48]) (st' := [.inl ((z_48 15 w (ix s.1)) + (1 : Int32)), .inl s.1, .inr (.inr (15, w))]) (m' := z_48) (by decide +kernel) rfl ?_
        refine go_iast h.1 (by decide +kernel) rfl rfl (fun b137 => ?_)
        exact g_X0_fewestPayments_j138 h w next exit x1 s.1 (mset z_48 15 w (ix s.1) ((z_48 15 w (ix s.1)) + (1 : Int32))) (o3_48) (o4_48) hn hx

def f_X0_fewestPayments (w : Nat) (m : Mem) : Option (Int32 × Mem) :=
  if inB (0 : Int32) 32 = true then
    if inB (0 : Int32) 32 = true then
      lpk (f_X0_fewestPayments_b25 w (((1 : Int32) <<< ((m 7 w 8) &&& 31)) - (1 : Int32))) fuelN ((1 : Int32), (mset (mset m 15 w (ix (0 : Int32)) (0 : Int32)) 16 w (ix (0 : Int32)) (0 : Int32))) (fun t25 =>
        if inB (((1 : Int32) <<< ((m 7 w 8) &&& 31)) - (1 : Int32)) 32 = true then
          some (((t25 7 w 8) - (t25 15 w (ix (((1 : Int32) <<< ((m 7 w 8) &&& 31)) - (1 : Int32))))), t25)
        else none)
    else none
  else none
theorem g_X0_fewestPayments {X : XT} (h : MX X prog_2_method_16_code P_X0 1 (some .int)) (w : Nat) (m : Mem) : Go X (Em X puI) 0 [some (.inr (.inr (7, w))), none, none, none, none] [] m (f_X0_fewestPayments w m) := by
  unfold f_X0_fewestPayments
  refine go_blk h.1 (is := [.iconst 1, .aload_n 0, .getfield 44, .ishl, .iconst 1, .isub, .istore_n 1, .aload_n 0, .getfield 32, .iconst 0, .iconst 0]) (pc' := 15) (ls' := [some (.inr (.inr (7, w))), some (.inl (((1 : Int32) <<< ((m 7 w 8) &&& 31)) - (1 : Int32))), none, none, none]) (st' := [.inl (0 : Int32), .inl (0 : Int32), .inr (.inr (15, w))]) (m' := m) (by decide +kernel) rfl ?_
  refine go_iast h.1 (by decide +kernel) rfl rfl (fun b15 => ?_)
  refine go_blk h.1 (is := [.aload_n 0, .getfield 35, .iconst 0, .iconst 0]) (pc' := 22) (ls' := [some (.inr (.inr (7, w))), some (.inl (((1 : Int32) <<< ((m 7 w 8) &&& 31)) - (1 : Int32))), none, none, none]) (st' := [.inl (0 : Int32), .inl (0 : Int32), .inr (.inr (16, w))]) (m' := (mset m 15 w (ix (0 : Int32)) (0 : Int32))) (by decide +kernel) rfl ?_
  refine go_iast h.1 (by decide +kernel) rfl rfl (fun b22 => ?_)
  refine go_blk h.1 (is := [.iconst 1, .istore_n 2]) (pc' := 25) (ls' := [some (.inr (.inr (7, w))), some (.inl (((1 : Int32) <<< ((m 7 w 8) &&& 31)) - (1 : Int32))), some (.inl (1 : Int32)), none, none]) (st' := []) (m' := (mset (mset m 15 w (ix (0 : Int32)) (0 : Int32)) 16 w (ix (0 : Int32)) (0 : Int32))) (by decide +kernel) rfl ?_
  refine go_lp1 (hd := fun (y2 : Int32) (n : Mem) o => ∀ (o3 : Option AV) (o4 : Option AV), Go X (Em X puI) 25 [some (.inr (.inr (7, w))), some (.inl (((1 : Int32) <<< ((m 7 w 8) &&& 31)) - (1 : Int32))), some (.inl y2), o3, o4] [] n o) (fun _ _ _ _ => go_none) (fun y2 n nx_ hn_ => g_X0_fewestPayments_b25 h w (((1 : Int32) <<< ((m 7 w 8) &&& 31)) - (1 : Int32)) nx_ _ hn_ (fun z_25 o2_25 o3_25 o4_25 => ?_) (y2, n)) fuelN (1 : Int32) (mset (mset m 15 w (ix (0 : Int32)) (0 : Int32)) 16 w (ix (0 : Int32)) (0 : Int32)) (none) (none)
  refine go_blk h.1 (is := [.aload_n 0, .getfield 44, .aload_n 0, .getfield 32, .iload_n 1]) (pc' := 153) (ls' := [some (.inr (.inr (7, w))), some (.inl (((1 : Int32) <<< ((m 7 w 8) &&& 31)) - (1 : Int32))), o2_25, o3_25, o4_25]) (st' := [.inl (((1 : Int32) <<< ((m 7 w 8) &&& 31)) - (1 : Int32)), .inr (.inr (15, w)), .inl (z_25 7 w 8)]) (m' := z_25) (by decide +kernel) rfl ?_
  refine go_iald h.1 (by decide +kernel) rfl rfl (fun b153 => ?_)
  show Go X (Em X puI) 154 [some (.inr (.inr (7, w))), some (.inl (((1 : Int32) <<< ((m 7 w 8) &&& 31)) - (1 : Int32))), o2_25, o3_25, o4_25] [.inl (z_25 15 w (ix (((1 : Int32) <<< ((m 7 w 8) &&& 31)) - (1 : Int32)))), .inl (z_25 7 w 8)] z_25 _
  refine go_blk h.1 (is := [.isub]) (pc' := 155) (ls' := [some (.inr (.inr (7, w))), some (.inl (((1 : Int32) <<< ((m 7 w 8) &&& 31)) - (1 : Int32))), o2_25, o3_25, o4_25]) (st' := [.inl ((z_25 7 w 8) - (z_25 15 w (ix (((1 : Int32) <<< ((m 7 w 8) &&& 31)) - (1 : Int32)))))]) (m' := z_25) (by decide +kernel) rfl ?_
  exact go_iret h.1 h.2.2.2.2 (by decide +kernel)
theorem ctr_X0_fewestPayments (l : Launch) (A : AR → Nat) (dC : Nat → ClassId) (dI : Nat → Nat → Nat) (cs : Nat → ClassId) (w : Nat) (m : Mem) : Ctr l A dC dI cs yX0_fewestPayments prog_2_method_16_code 5 (some .int) 1 puI [.inr (.inr (7, w))] m (f_X0_fewestPayments w m) :=
  ctr_of (P := P_X0) (by decide +kernel) rfl pt_X0 rfl rfl (fun X hC _ _ _ _ _ hR h0 h1 hr => g_X0_fewestPayments ⟨hC, hR, h0, h1, hr⟩ w m)

def f_X6_payments (x1 : Int32) (x2 : Int32) (x3 : Int32) (x4 : Int32) (m : Mem) : Option (Int32 × Mem) :=
  bnd (f_X6_refusalOf x1 x2 x3 x4 (1 : Int32) m) (fun r7 m7 =>
    if r7 = 0 then
      bnd (f_X6_walkAsTold x1 x3 x4 m7) (fun r25 m25 =>
        if r25 = (-9 : Int32) then
          bnd (f_X0_fewestPayments 0 m25) (fun r49 m49 =>
            some (r49, m49))
        else
          some (((-100 : Int32) - r25), m25))
    else
      some (r7, m7))
theorem g_X6_payments {X : XT} (h : MX X prog_1_method_11_code P_X6 6 (some .int)) (x1 : Int32) (x2 : Int32) (x3 : Int32) (x4 : Int32) (m : Mem) : Go X (Em X puI) 0 [some (.inr (.inr (0, 0))), some (.inl x1), some (.inl x2), some (.inl x3), some (.inl x4), none, none] [] m (f_X6_payments x1 x2 x3 x4 m) := by
  unfold f_X6_payments
  refine go_blk h.1 (is := [.aload_n 0, .iload_n 1, .iload_n 2, .iload_n 3, .iload 4, .iconst 1]) (pc' := 7) (ls' := [some (.inr (.inr (0, 0))), some (.inl x1), some (.inl x2), some (.inl x3), some (.inl x4), none, none]) (st' := [.inl (1 : Int32), .inl x4, .inl x3, .inl x2, .inl x1, .inr (.inr (0, 0))]) (m' := m) (by decide +kernel) rfl ?_
  refine go_callV h.1 (index := 121) (n := 5) (t := 0) (i := 0) (ci := 6) (nf := 7) (cz := (RX6, TX6, 7)) (as := [.inl x1, .inl x2, .inl x3, .inl x4, .inl (1 : Int32)]) (rest := []) (ctr_X6_refusalOf (xl X) (xA X) (xC X) (xI X) (xk X) x1 x2 x3 x4 (1 : Int32) m) (by decide +kernel) rfl rfl wd_v_X6_121 rfl (h.room (by first | decide | omega) (by decide)) h.cl (Nat.le_of_ble_eq_true rfl) puI_ok rfl (fun r7 m7 _ => ?_)
  show Go X (Em X puI) 10 [some (.inr (.inr (0, 0))), some (.inl x1), some (.inl x2), some (.inl x3), some (.inl x4), none, none] [.inl r7] m7 _
  refine go_blk h.1 (is := [.istore 5, .iload 5]) (pc' := 14) (ls' := [some (.inr (.inr (0, 0))), some (.inl x1), some (.inl x2), some (.inl x3), some (.inl x4), some (.inl r7), none]) (st' := [.inl r7]) (m' := m7) (by decide +kernel) rfl ?_
  refine go_ifeq h.1 (off := 6) 20 (by decide +kernel) (by decide) (fun c14 => ?_) (fun c14 => ?_)
  · refine go_blk h.1 (is := [.aload_n 0, .iload_n 1, .iload_n 3, .iload 4]) (pc' := 25) (ls' := [some (.inr (.inr (0, 0))), some (.inl x1), some (.inl x2), some (.inl x3), some (.inl x4), some (.inl r7), none]) (st' := [.inl x4, .inl x3, .inl x1, .inr (.inr (0, 0))]) (m' := m7) (by decide +kernel) rfl ?_
    refine go_callV h.1 (index := 125) (n := 3) (t := 0) (i := 0) (ci := 6) (nf := 7) (cz := (RX6, TX6, 7)) (as := [.inl x1, .inl x3, .inl x4]) (rest := []) (ctr_X6_walkAsTold (xl X) (xA X) (xC X) (xI X) (xk X) x1 x3 x4 m7) (by decide +kernel) rfl rfl wd_v_X6_125 rfl (h.room (by first | decide | omega) (by decide)) h.cl (Nat.le_of_ble_eq_true rfl) puI_ok rfl (fun r25 m25 _ => ?_)
    show Go X (Em X puI) 28 [some (.inr (.inr (0, 0))), some (.inl x1), some (.inl x2), some (.inl x3), some (.inl x4), some (.inl r7), none] [.inl r25] m25 _
    refine go_blk h.1 (is := [.istore 6, .iload 6, .bipush (-9)]) (pc' := 34) (ls' := [some (.inr (.inr (0, 0))), some (.inl x1), some (.inl x2), some (.inl x3), some (.inl x4), some (.inl r7), some (.inl r25)]) (st' := [.inl (-9 : Int32), .inl r25]) (m' := m25) (by decide +kernel) rfl ?_
    refine go_icmpeq h.1 (off := 11) 45 (by decide +kernel) (by decide) (fun c34 => ?_) (fun c34 => ?_)
    · refine go_blk h.1 (is := [.aload_n 0, .getfield 28]) (pc' := 49) (ls' := [some (.inr (.inr (0, 0))), some (.inl x1), some (.inl x2), some (.inl x3), some (.inl x4), some (.inl r7), some (.inl r25)]) (st' := [.inr (.inr (7, 0))]) (m' := m25) (by decide +kernel) rfl ?_
      refine go_callV h.1 (index := 167) (n := 0) (t := 7) (i := 0) (ci := 0) (nf := 14) (cz := (RX0, TX0, 14)) (as := []) (rest := []) (ctr_X0_fewestPayments (xl X) (xA X) (xC X) (xI X) (xk X) 0 m25) (by decide +kernel) rfl rfl wd_v_X6_167 rfl (h.room (by first | decide | omega) (by decide)) h.cl (Nat.le_of_ble_eq_true rfl) puI_ok rfl (fun r49 m49 _ => ?_)
      show Go X (Em X puI) 52 [some (.inr (.inr (0, 0))), some (.inl x1), some (.inl x2), some (.inl x3), some (.inl x4), some (.inl r7), some (.inl r25)] [.inl r49] m49 _
      exact go_iret h.1 h.2.2.2.2 (by decide +kernel)
    · refine go_blk h.1 (is := [.bipush (-100), .iload 6, .isub]) (pc' := 42) (ls' := [some (.inr (.inr (0, 0))), some (.inl x1), some (.inl x2), some (.inl x3), some (.inl x4), some (.inl r7), some (.inl r25)]) (st' := [.inl ((-100 : Int32) - r25)]) (m' := m25) (by decide +kernel) rfl ?_
      refine go_goto h.1 (off := 10) 52 (by decide +kernel) (by decide) ?_
      exact go_iret h.1 h.2.2.2.2 (by decide +kernel)
  · refine go_blk h.1 (is := [.iload 5]) (pc' := 19) (ls' := [some (.inr (.inr (0, 0))), some (.inl x1), some (.inl x2), some (.inl x3), some (.inl x4), some (.inl r7), none]) (st' := [.inl r7]) (m' := m7) (by decide +kernel) rfl ?_
    exact go_iret h.1 h.2.2.2.2 (by decide +kernel)
theorem ctr_X6_payments (l : Launch) (A : AR → Nat) (dC : Nat → ClassId) (dI : Nat → Nat → Nat) (cs : Nat → ClassId) (x1 : Int32) (x2 : Int32) (x3 : Int32) (x4 : Int32) (m : Mem) : Ctr l A dC dI cs yX6_payments prog_1_method_11_code 7 (some .int) 6 puI [.inr (.inr (0, 0)), .inl x1, .inl x2, .inl x3, .inl x4] m (f_X6_payments x1 x2 x3 x4 m) :=
  ctr_of (P := P_X6) (by decide +kernel) rfl pt_X6 rfl rfl (fun X hC _ _ _ _ _ hR h0 h1 hr => g_X6_payments ⟨hC, hR, h0, h1, hr⟩ x1 x2 x3 x4 m)

def f_X6_wants_b24 (x1 : Int32) (x2 : Int32) (x4 : Int32) (x5 : Int32) (next : Int32 × Mem → Option (Int32 × Mem)) (exit : Mem → Option (Int32 × Mem)) (s : Int32 × Mem) : Option (Int32 × Mem) :=
  if (99 : Int32) < s.1 then
    exit (s.2)
  else
    bnd (f_X0_start 0 s.2) (fun _ m39 =>
      if inB x1 5 = true then
        if inB x1 5 = true then
          if inB x2 4 = true then
            bnd (f_X0_walk 0 (ix x2) x4 x5 (mset m39 10 0 (ix x1) ((m39 10 0 (ix x1)) + s.1))) (fun r70 m70 =>
              if r70 = (-9 : Int32) then
                some (s.1, m70)
              else
                next ((s.1 + (1 : Int32)), m70))
          else none
        else none
      else none)
theorem g_X6_wants_b24 {X : XT} (h : MX X prog_1_method_12_code P_X6 5 (some .int)) (x1 : Int32) (x2 : Int32) (x4 : Int32) (x5 : Int32) (next : Int32 × Mem → Option (Int32 × Mem)) (exit : Mem → Option (Int32 × Mem)) (hn : ∀ (y7 : Int32) (n : Mem) (o3 : Option AV) (o6 : Option AV), Go X (Em X puI) 24 [some (.inr (.inr (0, 0))), some (.inl x1), some (.inl x2), o3, some (.inl x4), some (.inl x5), o6, some (.inl y7)] [] n (next (y7, n))) (hx : ∀ (n : Mem) (o0 : Option AV) (o1 : Option AV) (o2 : Option AV) (o3 : Option AV) (o4 : Option AV) (o5 : Option AV) (o6 : Option AV) (o7 : Option AV), Go X (Em X puI) 87 [o0, o1, o2, o3, o4, o5, o6, o7] [] n (exit (n))) (s : Int32 × Mem) (o3 : Option AV) (o6 : Option AV) : Go X (Em X puI) 24 [some (.inr (.inr (0, 0))), some (.inl x1), some (.inl x2), o3, some (.inl x4), some (.inl x5), o6, some (.inl s.1)] [] s.2 (f_X6_wants_b24 x1 x2 x4 x5 next exit s) := by
  unfold f_X6_wants_b24
  refine go_blk h.1 (is := [.iload 7, .bipush 99]) (pc' := 28) (ls' := [some (.inr (.inr (0, 0))), some (.inl x1), some (.inl x2), o3, some (.inl x4), some (.inl x5), o6, some (.inl s.1)]) (st' := [.inl (99 : Int32), .inl s.1]) (m' := s.2) (by decide +kernel) rfl ?_
  refine go_icmpgt h.1 (off := 59) 87 (by decide +kernel) (by decide) (fun c28 => ?_) (fun c28 => ?_)
  · exact hx s.2 (some (.inr (.inr (0, 0)))) (some (.inl x1)) (some (.inl x2)) (o3) (some (.inl x4)) (some (.inl x5)) (o6) (some (.inl s.1))
  · refine go_blk h.1 (is := [.aload_n 0, .getfield 28, .aload_n 0, .getfield 21]) (pc' := 39) (ls' := [some (.inr (.inr (0, 0))), some (.inl x1), some (.inl x2), o3, some (.inl x4), some (.inl x5), o6, some (.inl s.1)]) (st' := [.inr (.inr (4, 0)), .inr (.inr (7, 0))]) (m' := s.2) (by decide +kernel) rfl ?_
    refine go_callV h.1 (index := 170) (n := 1) (t := 7) (i := 0) (ci := 0) (nf := 14) (cz := (RX0, TX0, 14)) (as := [.inr (.inr (4, 0))]) (rest := []) (ctr_X0_start (xl X) (xA X) (xC X) (xI X) (xk X) 0 s.2) (by decide +kernel) rfl rfl wd_v_X6_170 rfl (h.room (by first | decide | omega) (by decide)) h.cl (Nat.le_of_ble_eq_true rfl) puV_ok rfl (fun r39 m39 _ => ?_)
    show Go X (Em X puI) 42 [some (.inr (.inr (0, 0))), some (.inl x1), some (.inl x2), o3, some (.inl x4), some (.inl x5), o6, some (.inl s.1)] [] m39 _
    refine go_blk h.1 (is := [.aload_n 0, .getfield 28, .getfield 138, .iload_n 1, .dup2]) (pc' := 51) (ls' := [some (.inr (.inr (0, 0))), some (.inl x1), some (.inl x2), o3, some (.inl x4), some (.inl x5), o6, some (.inl s.1)]) (st' := [.inl x1, .inr (.inr (10, 0)), .inl x1, .inr (.inr (10, 0))]) (m' := m39) (by decide +kernel) rfl ?_
    refine go_iald h.1 (by decide +kernel) rfl rfl (fun b51 => ?_)
    show Go X (Em X puI) 52 [some (.inr (.inr (0, 0))), some (.inl x1), some (.inl x2), o3, some (.inl x4), some (.inl x5), o6, some (.inl s.1)] [.inl (m39 10 0 (ix x1)), .inl x1, .inr (.inr (10, 0))] m39 _
    refine go_blk h.1 (is := [.iload 7, .iadd]) (pc' := 55) (ls' := [some (.inr (.inr (0, 0))), some (.inl x1), some (.inl x2), o3, some (.inl x4), some (.inl x5), o6, some (.inl s.1)]) (st' := [.inl ((m39 10 0 (ix x1)) + s.1), .inl x1, .inr (.inr (10, 0))]) (m' := m39) (by decide +kernel) rfl ?_
    refine go_iast h.1 (by decide +kernel) rfl rfl (fun b55 => ?_)
    refine go_blk h.1 (is := [.aload_n 0, .getfield 28, .aload_n 0, .getfield 13, .iload_n 2]) (pc' := 65) (ls' := [some (.inr (.inr (0, 0))), some (.inl x1), some (.inl x2), o3, some (.inl x4), some (.inl x5), o6, some (.inl s.1)]) (st' := [.inl x2, .inr (.inr (1, 0)), .inr (.inr (7, 0))]) (m' := (mset m39 10 0 (ix x1) ((m39 10 0 (ix x1)) + s.1))) (by decide +kernel) rfl ?_
    refine go_aald h.1 (kd := 0) (z := (2, (ix x2))) (by decide +kernel) rfl rfl (by decide) rfl (fun b65 => ?_)
    refine go_blk h.1 (is := [.iload 4, .iload 5]) (pc' := 70) (ls' := [some (.inr (.inr (0, 0))), some (.inl x1), some (.inl x2), o3, some (.inl x4), some (.inl x5), o6, some (.inl s.1)]) (st' := [.inl x5, .inl x4, .inr (.inr (2, (ix x2))), .inr (.inr (7, 0))]) (m' := (mset m39 10 0 (ix x1) ((m39 10 0 (ix x1)) + s.1))) (by decide +kernel) rfl ?_
    refine go_callV h.1 (index := 174) (n := 3) (t := 7) (i := 0) (ci := 0) (nf := 14) (cz := (RX0, TX0, 14)) (as := [.inr (.inr (2, (ix x2))), .inl x4, .inl x5]) (rest := []) (ctr_X0_walk (xl X) (xA X) (xC X) (xI X) (xk X) 0 (ix x2) x4 x5 (mset m39 10 0 (ix x1) ((m39 10 0 (ix x1)) + s.1))) (by decide +kernel) rfl rfl wd_v_X6_174 rfl (h.room (by first | decide | omega) (by decide)) h.cl (Nat.le_of_ble_eq_true rfl) puI_ok rfl (fun r70 m70 _ => ?_)
    show Go X (Em X puI) 73 [some (.inr (.inr (0, 0))), some (.inl x1), some (.inl x2), o3, some (.inl x4), some (.inl x5), o6, some (.inl s.1)] [.inl r70] m70 _
    refine go_blk h.1 (is := [.bipush (-9)]) (pc' := 75) (ls' := [some (.inr (.inr (0, 0))), some (.inl x1), some (.inl x2), o3, some (.inl x4), some (.inl x5), o6, some (.inl s.1)]) (st' := [.inl (-9 : Int32), .inl r70]) (m' := m70) (by decide +kernel) rfl ?_
    refine go_icmpne h.1 (off := 6) 81 (by decide +kernel) (by decide) (fun c75 => ?_) (fun c75 => ?_)
    · refine go_blk h.1 (is := [.iinc 7 1]) (pc' := 84) (ls' := [some (.inr (.inr (0, 0))), some (.inl x1), some (.inl x2), o3, some (.inl x4), some (.inl x5), (clrL o6), some (.inl (s.1 + (1 : Int32)))]) (st' := []) (m' := m70) (by decide +kernel) rfl ?_
      refine go_goto h.1 (off := -60) 24 (by decide +kernel) (by decide) ?_
      exact hn (s.1 + (1 : Int32)) m70 (o3) ((clrL o6))
    · refine go_blk h.1 (is := [.iload 7]) (pc' := 80) (ls' := [some (.inr (.inr (0, 0))), some (.inl x1), some (.inl x2), o3, some (.inl x4), some (.inl x5), o6, some (.inl s.1)]) (st' := [.inl s.1]) (m' := m70) (by decide +kernel) rfl ?_
      exact go_iret h.1 h.2.2.2.2 (by decide +kernel)

def f_X6_wants (x1 : Int32) (x2 : Int32) (x3 : Int32) (x4 : Int32) (x5 : Int32) (m : Mem) : Option (Int32 × Mem) :=
  bnd (f_X6_refusalWithFish x1 x2 x3 x4 x5 m) (fun r8 m8 =>
    if r8 = 0 then
      lpk (f_X6_wants_b24 x1 x2 x4 x5) fuelN ((0 : Int32), m8) (fun t24 =>
        some ((-9 : Int32), t24))
    else
      some (r8, m8))
theorem g_X6_wants {X : XT} (h : MX X prog_1_method_12_code P_X6 5 (some .int)) (x1 : Int32) (x2 : Int32) (x3 : Int32) (x4 : Int32) (x5 : Int32) (m : Mem) : Go X (Em X puI) 0 [some (.inr (.inr (0, 0))), some (.inl x1), some (.inl x2), some (.inl x3), some (.inl x4), some (.inl x5), none, none] [] m (f_X6_wants x1 x2 x3 x4 x5 m) := by
  unfold f_X6_wants
  refine go_blk h.1 (is := [.aload_n 0, .iload_n 1, .iload_n 2, .iload_n 3, .iload 4, .iload 5]) (pc' := 8) (ls' := [some (.inr (.inr (0, 0))), some (.inl x1), some (.inl x2), some (.inl x3), some (.inl x4), some (.inl x5), none, none]) (st' := [.inl x5, .inl x4, .inl x3, .inl x2, .inl x1, .inr (.inr (0, 0))]) (m' := m) (by decide +kernel) rfl ?_
  refine go_callV h.1 (index := 141) (n := 5) (t := 0) (i := 0) (ci := 6) (nf := 7) (cz := (RX6, TX6, 7)) (as := [.inl x1, .inl x2, .inl x3, .inl x4, .inl x5]) (rest := []) (ctr_X6_refusalWithFish (xl X) (xA X) (xC X) (xI X) (xk X) x1 x2 x3 x4 x5 m) (by decide +kernel) rfl rfl wd_v_X6_141 rfl (h.room (by first | decide | omega) (by decide)) h.cl (Nat.le_of_ble_eq_true rfl) puI_ok rfl (fun r8 m8 _ => ?_)
  show Go X (Em X puI) 11 [some (.inr (.inr (0, 0))), some (.inl x1), some (.inl x2), some (.inl x3), some (.inl x4), some (.inl x5), none, none] [.inl r8] m8 _
  refine go_blk h.1 (is := [.istore 6, .iload 6]) (pc' := 15) (ls' := [some (.inr (.inr (0, 0))), some (.inl x1), some (.inl x2), some (.inl x3), some (.inl x4), some (.inl x5), some (.inl r8), none]) (st' := [.inl r8]) (m' := m8) (by decide +kernel) rfl ?_
  refine go_ifeq h.1 (off := 6) 21 (by decide +kernel) (by decide) (fun c15 => ?_) (fun c15 => ?_)
  · refine go_blk h.1 (is := [.iconst 0, .istore 7]) (pc' := 24) (ls' := [some (.inr (.inr (0, 0))), some (.inl x1), some (.inl x2), some (.inl x3), some (.inl x4), some (.inl x5), some (.inl r8), some (.inl (0 : Int32))]) (st' := []) (m' := m8) (by decide +kernel) rfl ?_
    refine go_lp1 (hd := fun (y7 : Int32) (n : Mem) o => ∀ (o3 : Option AV) (o6 : Option AV), Go X (Em X puI) 24 [some (.inr (.inr (0, 0))), some (.inl x1), some (.inl x2), o3, some (.inl x4), some (.inl x5), o6, some (.inl y7)] [] n o) (fun _ _ _ _ => go_none) (fun y7 n nx_ hn_ => g_X6_wants_b24 h x1 x2 x4 x5 nx_ _ hn_ (fun z_24 o0_24 o1_24 o2_24 o3_24 o4_24 o5_24 o6_24 o7_24 => ?_) (y7, n)) fuelN (0 : Int32) m8 (some (.inl x3)) (some (.inl r8))
    refine go_blk h.1 (is := [.bipush (-9)]) (pc' := 89) (ls' := [o0_24, o1_24, o2_24, o3_24, o4_24, o5_24, o6_24, o7_24]) (st' := [.inl (-9 : Int32)]) (m' := z_24) (by decide +kernel) rfl ?_
    exact go_iret h.1 h.2.2.2.2 (by decide +kernel)
  · refine go_blk h.1 (is := [.iload 6]) (pc' := 20) (ls' := [some (.inr (.inr (0, 0))), some (.inl x1), some (.inl x2), some (.inl x3), some (.inl x4), some (.inl x5), some (.inl r8), none]) (st' := [.inl r8]) (m' := m8) (by decide +kernel) rfl ?_
    exact go_iret h.1 h.2.2.2.2 (by decide +kernel)
theorem ctr_X6_wants (l : Launch) (A : AR → Nat) (dC : Nat → ClassId) (dI : Nat → Nat → Nat) (cs : Nat → ClassId) (x1 : Int32) (x2 : Int32) (x3 : Int32) (x4 : Int32) (x5 : Int32) (m : Mem) : Ctr l A dC dI cs yX6_wants prog_1_method_12_code 8 (some .int) 5 puI [.inr (.inr (0, 0)), .inl x1, .inl x2, .inl x3, .inl x4, .inl x5] m (f_X6_wants x1 x2 x3 x4 x5 m) :=
  ctr_of (P := P_X6) (by decide +kernel) rfl pt_X6 rfl rfl (fun X hC _ _ _ _ _ hR h0 h1 hr => g_X6_wants ⟨hC, hR, h0, h1, hr⟩ x1 x2 x3 x4 x5 m)

def f_X2_add (x1 : Int32) (x2 : Int32) (m : Mem) : Option (Int32 × Mem) :=
  if (m 20 0 2) < (8 : Int32) then
    if inB (m 20 0 2) 8 = true then
      if inB (m 20 0 2) 8 = true then
        some ((((mset (mset (mset m 21 0 (ix (m 20 0 2)) x1) 22 0 (ix (m 20 0 2)) x2) 20 0 2 ((m 20 0 2) + (1 : Int32))) 20 0 2) - (1 : Int32)), (mset (mset (mset m 21 0 (ix (m 20 0 2)) x1) 22 0 (ix (m 20 0 2)) x2) 20 0 2 ((m 20 0 2) + (1 : Int32))))
      else none
    else none
  else
    some ((-4 : Int32), m)
theorem g_X2_add {X : XT} (h : MX X prog_4_method_2_code P_X2 0 (some .int)) (x1 : Int32) (x2 : Int32) (m : Mem) : Go X (Em X puI) 0 [some (.inr (.inr (20, 0))), some (.inl x1), some (.inl x2)] [] m (f_X2_add x1 x2 m) := by
  unfold f_X2_add
  refine go_blk h.1 (is := [.aload_n 0, .getfield 18, .bipush 8]) (pc' := 6) (ls' := [some (.inr (.inr (20, 0))), some (.inl x1), some (.inl x2)]) (st' := [.inl (8 : Int32), .inl (m 20 0 2)]) (m' := m) (by decide +kernel) rfl ?_
  refine go_icmplt h.1 (off := 6) 12 (by decide +kernel) (by decide) (fun c6 => ?_) (fun c6 => ?_)
  · refine go_blk h.1 (is := [.aload_n 0, .getfield 9, .aload_n 0, .getfield 18, .iload_n 1]) (pc' := 21) (ls' := [some (.inr (.inr (20, 0))), some (.inl x1), some (.inl x2)]) (st' := [.inl x1, .inl (m 20 0 2), .inr (.inr (21, 0))]) (m' := m) (by decide +kernel) rfl ?_
    refine go_iast h.1 (by decide +kernel) rfl rfl (fun b21 => ?_)
    refine go_blk h.1 (is := [.aload_n 0, .getfield 15, .aload_n 0, .getfield 18, .iload_n 2]) (pc' := 31) (ls' := [some (.inr (.inr (20, 0))), some (.inl x1), some (.inl x2)]) (st' := [.inl x2, .inl (m 20 0 2), .inr (.inr (22, 0))]) (m' := (mset m 21 0 (ix (m 20 0 2)) x1)) (by decide +kernel) rfl ?_
    refine go_iast h.1 (by decide +kernel) rfl rfl (fun b31 => ?_)
    refine go_blk h.1 (is := [.aload_n 0, .dup, .getfield 18, .iconst 1, .iadd, .putfield 18, .aload_n 0, .getfield 18, .iconst 1, .isub]) (pc' := 48) (ls' := [some (.inr (.inr (20, 0))), some (.inl x1), some (.inl x2)]) (st' := [.inl (((mset (mset (mset m 21 0 (ix (m 20 0 2)) x1) 22 0 (ix (m 20 0 2)) x2) 20 0 2 ((m 20 0 2) + (1 : Int32))) 20 0 2) - (1 : Int32))]) (m' := (mset (mset (mset m 21 0 (ix (m 20 0 2)) x1) 22 0 (ix (m 20 0 2)) x2) 20 0 2 ((m 20 0 2) + (1 : Int32)))) (by decide +kernel) rfl ?_
    exact go_iret h.1 h.2.2.2.2 (by decide +kernel)
  · refine go_blk h.1 (is := [.bipush (-4)]) (pc' := 11) (ls' := [some (.inr (.inr (20, 0))), some (.inl x1), some (.inl x2)]) (st' := [.inl (-4 : Int32)]) (m' := m) (by decide +kernel) rfl ?_
    exact go_iret h.1 h.2.2.2.2 (by decide +kernel)
theorem ctr_X2_add (l : Launch) (A : AR → Nat) (dC : Nat → ClassId) (dI : Nat → Nat → Nat) (cs : Nat → ClassId) (x1 : Int32) (x2 : Int32) (m : Mem) : Ctr l A dC dI cs yX2_add prog_4_method_2_code 3 (some .int) 0 puI [.inr (.inr (20, 0)), .inl x1, .inl x2] m (f_X2_add x1 x2 m) :=
  ctr_of (P := P_X2) (by decide +kernel) rfl pt_X2 rfl rfl (fun X hC _ _ _ _ _ hR h0 h1 hr => g_X2_add ⟨hC, hR, h0, h1, hr⟩ x1 x2 m)

def f_X6_reading (x1 : Int32) (x2 : Int32) (m : Mem) : Option (Int32 × Mem) :=
  bnd (f_X5_has x1 m) (fun r5 m5 =>
    if r5 = 0 then
      some ((-1 : Int32), m5)
    else
      bnd (f_X6_isWithin x2 (0 : Int32) (99 : Int32) m5) (fun r17 m17 =>
        if r17 = 0 then
          some ((-2 : Int32), m17)
        else
          bnd (f_X2_add x1 x2 m17) (fun r32 m32 =>
            some (r32, m32))))
theorem g_X6_reading {X : XT} (h : MX X prog_1_method_13_code P_X6 1 (some .int)) (x1 : Int32) (x2 : Int32) (m : Mem) : Go X (Em X puI) 0 [some (.inr (.inr (0, 0))), some (.inl x1), some (.inl x2)] [] m (f_X6_reading x1 x2 m) := by
  unfold f_X6_reading
  refine go_blk h.1 (is := [.aload_n 0, .getfield 21, .iload_n 1]) (pc' := 5) (ls' := [some (.inr (.inr (0, 0))), some (.inl x1), some (.inl x2)]) (st' := [.inl x1, .inr (.inr (4, 0))]) (m' := m) (by decide +kernel) rfl ?_
  refine go_callV h.1 (index := 83) (n := 1) (t := 4) (i := 0) (ci := 5) (nf := 4) (cz := (RX5, TX5, 4)) (as := [.inl x1]) (rest := []) (ctr_X5_has (xl X) (xA X) (xC X) (xI X) (xk X) x1 m) (by decide +kernel) rfl rfl wd_v_X6_83 rfl (h.room (by first | decide | omega) (by decide)) h.cl (Nat.le_of_ble_eq_true rfl) puI_ok rfl (fun r5 m5 _ => ?_)
  show Go X (Em X puI) 8 [some (.inr (.inr (0, 0))), some (.inl x1), some (.inl x2)] [.inl r5] m5 _
  refine go_ifne h.1 (off := 5) 13 (by decide +kernel) (by decide) (fun c8 => ?_) (fun c8 => ?_)
  · refine go_blk h.1 (is := [.iload_n 2, .iconst 0, .bipush 99]) (pc' := 17) (ls' := [some (.inr (.inr (0, 0))), some (.inl x1), some (.inl x2)]) (st' := [.inl (99 : Int32), .inl (0 : Int32), .inl x2]) (m' := m5) (by decide +kernel) rfl ?_
    refine go_callS h.1 (index := 111) (n := 3) (as := [.inl x2, .inl (0 : Int32), .inl (99 : Int32)]) (rest := []) (ctr_X6_isWithin (xl X) (xA X) (xC X) (xI X) (xk X) x2 (0 : Int32) (99 : Int32) m5) (by decide +kernel) wd_s_X6_111 rfl (h.room (by first | decide | omega) (by decide)) h.cl (Nat.le_of_ble_eq_true rfl) puI_ok rfl (fun r17 m17 _ => ?_)
    show Go X (Em X puI) 20 [some (.inr (.inr (0, 0))), some (.inl x1), some (.inl x2)] [.inl r17] m17 _
    refine go_ifne h.1 (off := 6) 26 (by decide +kernel) (by decide) (fun c20 => ?_) (fun c20 => ?_)
    · refine go_blk h.1 (is := [.aload_n 0, .getfield 42, .iload_n 1, .iload_n 2]) (pc' := 32) (ls' := [some (.inr (.inr (0, 0))), some (.inl x1), some (.inl x2)]) (st' := [.inl x2, .inl x1, .inr (.inr (20, 0))]) (m' := m17) (by decide +kernel) rfl ?_
      refine go_callV h.1 (index := 177) (n := 2) (t := 20) (i := 0) (ci := 2) (nf := 3) (cz := (RX2, TX2, 3)) (as := [.inl x1, .inl x2]) (rest := []) (ctr_X2_add (xl X) (xA X) (xC X) (xI X) (xk X) x1 x2 m17) (by decide +kernel) rfl rfl wd_v_X6_177 rfl (h.room (by first | decide | omega) (by decide)) h.cl (Nat.le_of_ble_eq_true rfl) puI_ok rfl (fun r32 m32 _ => ?_)
      show Go X (Em X puI) 35 [some (.inr (.inr (0, 0))), some (.inl x1), some (.inl x2)] [.inl r32] m32 _
      exact go_iret h.1 h.2.2.2.2 (by decide +kernel)
    · refine go_blk h.1 (is := [.bipush (-2)]) (pc' := 25) (ls' := [some (.inr (.inr (0, 0))), some (.inl x1), some (.inl x2)]) (st' := [.inl (-2 : Int32)]) (m' := m17) (by decide +kernel) rfl ?_
      exact go_iret h.1 h.2.2.2.2 (by decide +kernel)
  · refine go_blk h.1 (is := [.iconst (-1)]) (pc' := 12) (ls' := [some (.inr (.inr (0, 0))), some (.inl x1), some (.inl x2)]) (st' := [.inl (-1 : Int32)]) (m' := m5) (by decide +kernel) rfl ?_
    exact go_iret h.1 h.2.2.2.2 (by decide +kernel)
theorem ctr_X6_reading (l : Launch) (A : AR → Nat) (dC : Nat → ClassId) (dI : Nat → Nat → Nat) (cs : Nat → ClassId) (x1 : Int32) (x2 : Int32) (m : Mem) : Ctr l A dC dI cs yX6_reading prog_1_method_13_code 3 (some .int) 1 puI [.inr (.inr (0, 0)), .inl x1, .inl x2] m (f_X6_reading x1 x2 m) :=
  ctr_of (P := P_X6) (by decide +kernel) rfl pt_X6 rfl rfl (fun X hC _ _ _ _ _ hR h0 h1 hr => g_X6_reading ⟨hC, hR, h0, h1, hr⟩ x1 x2 m)

def f_X6_back (x1 : Int32) (m : Mem) : Option (Int32 × Mem) :=
  bnd (f_X6_isWithin x1 (0 : Int32) (m 20 0 2) m) (fun r9 m9 =>
    if r9 = 0 then
      some ((-2 : Int32), m9)
    else
      some (((mset m9 20 0 2 ((m9 20 0 2) - x1)) 20 0 2), (mset m9 20 0 2 ((m9 20 0 2) - x1))))
theorem g_X6_back {X : XT} (h : MX X prog_1_method_14_code P_X6 1 (some .int)) (x1 : Int32) (m : Mem) : Go X (Em X puI) 0 [some (.inr (.inr (0, 0))), some (.inl x1)] [] m (f_X6_back x1 m) := by
  unfold f_X6_back
  refine go_blk h.1 (is := [.iload_n 1, .iconst 0, .aload_n 0, .getfield 42, .getfield 76]) (pc' := 9) (ls' := [some (.inr (.inr (0, 0))), some (.inl x1)]) (st' := [.inl (m 20 0 2), .inl (0 : Int32), .inl x1]) (m' := m) (by decide +kernel) rfl ?_
  refine go_callS h.1 (index := 111) (n := 3) (as := [.inl x1, .inl (0 : Int32), .inl (m 20 0 2)]) (rest := []) (ctr_X6_isWithin (xl X) (xA X) (xC X) (xI X) (xk X) x1 (0 : Int32) (m 20 0 2) m) (by decide +kernel) wd_s_X6_111 rfl (h.room (by first | decide | omega) (by decide)) h.cl (Nat.le_of_ble_eq_true rfl) puI_ok rfl (fun r9 m9 _ => ?_)
  show Go X (Em X puI) 12 [some (.inr (.inr (0, 0))), some (.inl x1)] [.inl r9] m9 _
  refine go_ifne h.1 (off := 6) 18 (by decide +kernel) (by decide) (fun c12 => ?_) (fun c12 => ?_)
  · refine go_blk h.1 (is := [.aload_n 0, .getfield 42, .dup, .getfield 76, .iload_n 1, .isub, .putfield 76, .aload_n 0, .getfield 42, .getfield 76]) (pc' := 38) (ls' := [some (.inr (.inr (0, 0))), some (.inl x1)]) (st' := [.inl ((mset m9 20 0 2 ((m9 20 0 2) - x1)) 20 0 2)]) (m' := (mset m9 20 0 2 ((m9 20 0 2) - x1))) (by decide +kernel) rfl ?_
    exact go_iret h.1 h.2.2.2.2 (by decide +kernel)
  · refine go_blk h.1 (is := [.bipush (-2)]) (pc' := 17) (ls' := [some (.inr (.inr (0, 0))), some (.inl x1)]) (st' := [.inl (-2 : Int32)]) (m' := m9) (by decide +kernel) rfl ?_
    exact go_iret h.1 h.2.2.2.2 (by decide +kernel)
theorem ctr_X6_back (l : Launch) (A : AR → Nat) (dC : Nat → ClassId) (dI : Nat → Nat → Nat) (cs : Nat → ClassId) (x1 : Int32) (m : Mem) : Ctr l A dC dI cs yX6_back prog_1_method_14_code 2 (some .int) 1 puI [.inr (.inr (0, 0)), .inl x1] m (f_X6_back x1 m) :=
  ctr_of (P := P_X6) (by decide +kernel) rfl pt_X6 rfl rfl (fun X hC _ _ _ _ _ hR h0 h1 hr => g_X6_back ⟨hC, hR, h0, h1, hr⟩ x1 m)

def f_X2_areSo_b2 (w : Nat) (next : Int32 × Mem → Option (Int32 × Mem)) (exit : Mem → Option (Int32 × Mem)) (s : Int32 × Mem) : Option (Int32 × Mem) :=
  if (s.2 20 0 2) ≤ s.1 then
    exit (s.2)
  else
    if inB s.1 8 = true then
      if inB (s.2 21 0 (ix s.1)) 5 = true then
        if inB s.1 8 = true then
          if (s.2 10 w (ix (s.2 21 0 (ix s.1)))) = (s.2 22 0 (ix s.1)) then
            next ((s.1 + (1 : Int32)), s.2)
          else
            some ((0 : Int32), s.2)
        else none
      else none
    else none
theorem g_X2_areSo_b2 {X : XT} (h : MX X prog_4_method_3_code P_X2 0 (some .boolean)) (w : Nat) (next : Int32 × Mem → Option (Int32 × Mem)) (exit : Mem → Option (Int32 × Mem)) (hn : ∀ (y2 : Int32) (n : Mem), Go X (Em X puI) 2 [some (.inr (.inr (20, 0))), some (.inr (.inr (7, w))), some (.inl y2)] [] n (next (y2, n))) (hx : ∀ (n : Mem) (o0 : Option AV) (o1 : Option AV) (o2 : Option AV), Go X (Em X puI) 38 [o0, o1, o2] [] n (exit (n))) (s : Int32 × Mem) : Go X (Em X puI) 2 [some (.inr (.inr (20, 0))), some (.inr (.inr (7, w))), some (.inl s.1)] [] s.2 (f_X2_areSo_b2 w next exit s) := by
  unfold f_X2_areSo_b2
  refine go_blk h.1 (is := [.iload_n 2, .aload_n 0, .getfield 18]) (pc' := 7) (ls' := [some (.inr (.inr (20, 0))), some (.inr (.inr (7, w))), some (.inl s.1)]) (st' := [.inl (s.2 20 0 2), .inl s.1]) (m' := s.2) (by decide +kernel) rfl ?_
  refine go_icmpge h.1 (off := 31) 38 (by decide +kernel) (by decide) (fun c7 => ?_) (fun c7 => ?_)
  · exact hx s.2 (some (.inr (.inr (20, 0)))) (some (.inr (.inr (7, w)))) (some (.inl s.1))
  · refine go_blk h.1 (is := [.aload_n 1, .getfield 22, .aload_n 0, .getfield 9, .iload_n 2]) (pc' := 19) (ls' := [some (.inr (.inr (20, 0))), some (.inr (.inr (7, w))), some (.inl s.1)]) (st' := [.inl s.1, .inr (.inr (21, 0)), .inr (.inr (10, w))]) (m' := s.2) (by decide +kernel) rfl ?_
    refine go_iald h.1 (by decide +kernel) rfl rfl (fun b19 => ?_)
    show Go X (Em X puI) 20 [some (.inr (.inr (20, 0))), some (.inr (.inr (7, w))), some (.inl s.1)] [.inl (s.2 21 0 (ix s.1)), .inr (.inr (10, w))] s.2 _
    refine go_iald h.1 (by decide +kernel) rfl rfl (fun b20 => ?_)
    show Go X (Em X puI) 21 [some (.inr (.inr (20, 0))), some (.inr (.inr (7, w))), some (.inl s.1)] [.inl (s.2 10 w (ix (s.2 21 0 (ix s.1))))] s.2 _
    refine go_blk h.1 (is := [.aload_n 0, .getfield 15, .iload_n 2]) (pc' := 26) (ls' := [some (.inr (.inr (20, 0))), some (.inr (.inr (7, w))), some (.inl s.1)]) (st' := [.inl s.1, .inr (.inr (22, 0)), .inl (s.2 10 w (ix (s.2 21 0 (ix s.1))))]) (m' := s.2) (by decide +kernel) rfl ?_
    refine go_iald h.1 (by decide +kernel) rfl rfl (fun b26 => ?_)
    show Go X (Em X puI) 27 [some (.inr (.inr (20, 0))), some (.inr (.inr (7, w))), some (.inl s.1)] [.inl (s.2 22 0 (ix s.1)), .inl (s.2 10 w (ix (s.2 21 0 (ix s.1))))] s.2 _
    refine go_icmpeq h.1 (off := 5) 32 (by decide +kernel) (by decide) (fun c27 => ?_) (fun c27 => ?_)
    · refine go_blk h.1 (is := [.iinc 2 1]) (pc' := 35) (ls' := [some (.inr (.inr (20, 0))), some (.inr (.inr (7, w))), some (.inl (s.1 + (1 : Int32)))]) (st' := []) (m' := s.2) (by decide +kernel) rfl ?_
      refine go_goto h.1 (off := -33) 2 (by decide +kernel) (by decide) ?_
      exact hn (s.1 + (1 : Int32)) s.2
    · refine go_blk h.1 (is := [.iconst 0]) (pc' := 31) (ls' := [some (.inr (.inr (20, 0))), some (.inr (.inr (7, w))), some (.inl s.1)]) (st' := [.inl (0 : Int32)]) (m' := s.2) (by decide +kernel) rfl ?_
      exact go_zret h.1 h.2.2.2.2 (Or.inl rfl) (by decide +kernel)

def f_X2_areSo (w : Nat) (m : Mem) : Option (Int32 × Mem) :=
  lpk (f_X2_areSo_b2 w) fuelN ((0 : Int32), m) (fun t2 =>
    some ((1 : Int32), t2))
theorem g_X2_areSo {X : XT} (h : MX X prog_4_method_3_code P_X2 0 (some .boolean)) (w : Nat) (m : Mem) : Go X (Em X puI) 0 [some (.inr (.inr (20, 0))), some (.inr (.inr (7, w))), none] [] m (f_X2_areSo w m) := by
  unfold f_X2_areSo
  refine go_blk h.1 (is := [.iconst 0, .istore_n 2]) (pc' := 2) (ls' := [some (.inr (.inr (20, 0))), some (.inr (.inr (7, w))), some (.inl (0 : Int32))]) (st' := []) (m' := m) (by decide +kernel) rfl ?_
  refine go_lp1 (hd := fun (y2 : Int32) (n : Mem) o => Go X (Em X puI) 2 [some (.inr (.inr (20, 0))), some (.inr (.inr (7, w))), some (.inl y2)] [] n o) (fun _ _ => go_none) (fun y2 n nx_ hn_ => g_X2_areSo_b2 h w nx_ _ hn_ (fun z_2 o0_2 o1_2 o2_2 => ?_) (y2, n)) fuelN (0 : Int32) m
  refine go_blk h.1 (is := [.iconst 1]) (pc' := 39) (ls' := [o0_2, o1_2, o2_2]) (st' := [.inl (1 : Int32)]) (m' := z_2) (by decide +kernel) rfl ?_
  exact go_zret h.1 h.2.2.2.2 (Or.inr rfl) (by decide +kernel)
theorem ctr_X2_areSo (l : Launch) (A : AR → Nat) (dC : Nat → ClassId) (dI : Nat → Nat → Nat) (cs : Nat → ClassId) (w : Nat) (m : Mem) : Ctr l A dC dI cs yX2_areSo prog_4_method_3_code 3 (some .boolean) 0 puI [.inr (.inr (20, 0)), .inr (.inr (7, w))] m (f_X2_areSo w m) :=
  ctr_of (P := P_X2) (by decide +kernel) rfl pt_X2 rfl rfl (fun X hC _ _ _ _ _ hR h0 h1 hr => g_X2_areSo ⟨hC, hR, h0, h1, hr⟩ w m)

def f_X6_fits (x1 : Int32) (x2 : Int32) (x3 : Int32) (m : Mem) : Option (Int32 × Mem) :=
  if inB x1 4 = true then
    bnd (f_X0_walk 0 (ix x1) x2 x3 m) (fun r12 m12 =>
      if r12 = (-9 : Int32) then
        bnd (f_X2_areSo 0 m12) (fun r28 m28 =>
          if r28 = 0 then
            some ((0 : Int32), m28)
          else
            some ((1 : Int32), m28))
      else
        some ((0 : Int32), m12))
  else none
theorem g_X6_fits {X : XT} (h : MX X prog_1_method_41_code P_X6 5 (some .boolean)) (x1 : Int32) (x2 : Int32) (x3 : Int32) (m : Mem) : Go X (Em X puI) 0 [some (.inr (.inr (0, 0))), some (.inl x1), some (.inl x2), some (.inl x3)] [] m (f_X6_fits x1 x2 x3 m) := by
  unfold f_X6_fits
  refine go_blk h.1 (is := [.aload_n 0, .getfield 28, .aload_n 0, .getfield 13, .iload_n 1]) (pc' := 9) (ls' := [some (.inr (.inr (0, 0))), some (.inl x1), some (.inl x2), some (.inl x3)]) (st' := [.inl x1, .inr (.inr (1, 0)), .inr (.inr (7, 0))]) (m' := m) (by decide +kernel) rfl ?_
  refine go_aald h.1 (kd := 0) (z := (2, (ix x1))) (by decide +kernel) rfl rfl (by decide) rfl (fun b9 => ?_)
  refine go_blk h.1 (is := [.iload_n 2, .iload_n 3]) (pc' := 12) (ls' := [some (.inr (.inr (0, 0))), some (.inl x1), some (.inl x2), some (.inl x3)]) (st' := [.inl x3, .inl x2, .inr (.inr (2, (ix x1))), .inr (.inr (7, 0))]) (m' := m) (by decide +kernel) rfl ?_
  refine go_callV h.1 (index := 174) (n := 3) (t := 7) (i := 0) (ci := 0) (nf := 14) (cz := (RX0, TX0, 14)) (as := [.inr (.inr (2, (ix x1))), .inl x2, .inl x3]) (rest := []) (ctr_X0_walk (xl X) (xA X) (xC X) (xI X) (xk X) 0 (ix x1) x2 x3 m) (by decide +kernel) rfl rfl wd_v_X6_174 rfl (h.room (by first | decide | omega) (by decide)) h.cl (Nat.le_of_ble_eq_true rfl) puI_ok rfl (fun r12 m12 _ => ?_)
  show Go X (Em X puI) 15 [some (.inr (.inr (0, 0))), some (.inl x1), some (.inl x2), some (.inl x3)] [.inl r12] m12 _
  refine go_blk h.1 (is := [.bipush (-9)]) (pc' := 17) (ls' := [some (.inr (.inr (0, 0))), some (.inl x1), some (.inl x2), some (.inl x3)]) (st' := [.inl (-9 : Int32), .inl r12]) (m' := m12) (by decide +kernel) rfl ?_
  refine go_icmpne h.1 (off := 21) 38 (by decide +kernel) (by decide) (fun c17 => ?_) (fun c17 => ?_)
  · refine go_blk h.1 (is := [.iconst 0]) (pc' := 39) (ls' := [some (.inr (.inr (0, 0))), some (.inl x1), some (.inl x2), some (.inl x3)]) (st' := [.inl (0 : Int32)]) (m' := m12) (by decide +kernel) rfl ?_
    exact go_zret h.1 h.2.2.2.2 (Or.inl rfl) (by decide +kernel)
  · refine go_blk h.1 (is := [.aload_n 0, .getfield 42, .aload_n 0, .getfield 28]) (pc' := 28) (ls' := [some (.inr (.inr (0, 0))), some (.inl x1), some (.inl x2), some (.inl x3)]) (st' := [.inr (.inr (7, 0)), .inr (.inr (20, 0))]) (m' := m12) (by decide +kernel) rfl ?_
    refine go_callV h.1 (index := 236) (n := 1) (t := 20) (i := 0) (ci := 2) (nf := 3) (cz := (RX2, TX2, 3)) (as := [.inr (.inr (7, 0))]) (rest := []) (ctr_X2_areSo (xl X) (xA X) (xC X) (xI X) (xk X) 0 m12) (by decide +kernel) rfl rfl wd_v_X6_236 rfl (h.room (by first | decide | omega) (by decide)) h.cl (Nat.le_of_ble_eq_true rfl) puI_ok rfl (fun r28 m28 _ => ?_)
    show Go X (Em X puI) 31 [some (.inr (.inr (0, 0))), some (.inl x1), some (.inl x2), some (.inl x3)] [.inl r28] m28 _
    refine go_ifeq h.1 (off := 7) 38 (by decide +kernel) (by decide) (fun c31 => ?_) (fun c31 => ?_)
    · refine go_blk h.1 (is := [.iconst 0]) (pc' := 39) (ls' := [some (.inr (.inr (0, 0))), some (.inl x1), some (.inl x2), some (.inl x3)]) (st' := [.inl (0 : Int32)]) (m' := m28) (by decide +kernel) rfl ?_
      exact go_zret h.1 h.2.2.2.2 (Or.inl rfl) (by decide +kernel)
    · refine go_blk h.1 (is := [.iconst 1]) (pc' := 35) (ls' := [some (.inr (.inr (0, 0))), some (.inl x1), some (.inl x2), some (.inl x3)]) (st' := [.inl (1 : Int32)]) (m' := m28) (by decide +kernel) rfl ?_
      refine go_goto h.1 (off := 4) 39 (by decide +kernel) (by decide) ?_
      exact go_zret h.1 h.2.2.2.2 (Or.inr rfl) (by decide +kernel)
theorem ctr_X6_fits (l : Launch) (A : AR → Nat) (dC : Nat → ClassId) (dI : Nat → Nat → Nat) (cs : Nat → ClassId) (x1 : Int32) (x2 : Int32) (x3 : Int32) (m : Mem) : Ctr l A dC dI cs yX6_fits prog_1_method_41_code 4 (some .boolean) 5 puI [.inr (.inr (0, 0)), .inl x1, .inl x2, .inl x3] m (f_X6_fits x1 x2 x3 m) :=
  ctr_of (P := P_X6) (by decide +kernel) rfl pt_X6 rfl rfl (fun X hC _ _ _ _ _ hR h0 h1 hr => g_X6_fits ⟨hC, hR, h0, h1, hr⟩ x1 x2 x3 m)

def f_X6_bitIf (x0 : Int32) (x1 : Int32) (m : Mem) : Option (Int32 × Mem) :=
  if x0 = 0 then
    some ((0 : Int32), m)
  else
    some (((1 : Int32) <<< (x1 &&& 31)), m)
theorem g_X6_bitIf {X : XT} (h : MX X prog_1_method_34_code P_X6 0 (some .int)) (x0 : Int32) (x1 : Int32) (m : Mem) : Go X (Em X puI) 0 [some (.inl x0), some (.inl x1)] [] m (f_X6_bitIf x0 x1 m) := by
  unfold f_X6_bitIf
  refine go_blk h.1 (is := [.iload_n 0]) (pc' := 1) (ls' := [some (.inl x0), some (.inl x1)]) (st' := [.inl x0]) (m' := m) (by decide +kernel) rfl ?_
  refine go_ifeq h.1 (off := 9) 10 (by decide +kernel) (by decide) (fun c1 => ?_) (fun c1 => ?_)
  · refine go_blk h.1 (is := [.iconst 0]) (pc' := 11) (ls' := [some (.inl x0), some (.inl x1)]) (st' := [.inl (0 : Int32)]) (m' := m) (by decide +kernel) rfl ?_
    exact go_iret h.1 h.2.2.2.2 (by decide +kernel)
  · refine go_blk h.1 (is := [.iconst 1, .iload_n 1, .ishl]) (pc' := 7) (ls' := [some (.inl x0), some (.inl x1)]) (st' := [.inl ((1 : Int32) <<< (x1 &&& 31))]) (m' := m) (by decide +kernel) rfl ?_
    refine go_goto h.1 (off := 4) 11 (by decide +kernel) (by decide) ?_
    exact go_iret h.1 h.2.2.2.2 (by decide +kernel)
theorem ctr_X6_bitIf (l : Launch) (A : AR → Nat) (dC : Nat → ClassId) (dI : Nat → Nat → Nat) (cs : Nat → ClassId) (x0 : Int32) (x1 : Int32) (m : Mem) : Ctr l A dC dI cs yX6_bitIf prog_1_method_34_code 2 (some .int) 0 puI [.inl x0, .inl x1] m (f_X6_bitIf x0 x1 m) :=
  ctr_of (P := P_X6) (by decide +kernel) rfl pt_X6 rfl rfl (fun X hC _ _ _ _ _ hR h0 h1 hr => g_X6_bitIf ⟨hC, hR, h0, h1, hr⟩ x0 x1 m)

def f_X6_had_b27 (x1 : Int32) (x2 : Int32) (x4 : Int32) (x5 : Int32) (next : Int32 × Int32 × Mem → Option (Int32 × Mem)) (exit : Int32 × Mem → Option (Int32 × Mem)) (s : Int32 × Int32 × Mem) : Option (Int32 × Mem) :=
  if (9 : Int32) < s.2.1 then
    exit (s.1, s.2.2)
  else
    bnd (f_X0_start 0 s.2.2) (fun _ m42 =>
      if inB x1 5 = true then
        bnd (f_X6_fits x2 x4 x5 (mset m42 10 0 (ix x1) s.2.1)) (fun r64 m64 =>
          bnd (f_X6_bitIf r64 s.2.1 m64) (fun r69 m69 =>
            next ((s.1 ||| r69), (s.2.1 + (1 : Int32)), m69)))
      else none)
theorem g_X6_had_b27 {X : XT} (h : MX X prog_1_method_15_code P_X6 6 (some .int)) (x1 : Int32) (x2 : Int32) (x4 : Int32) (x5 : Int32) (next : Int32 × Int32 × Mem → Option (Int32 × Mem)) (exit : Int32 × Mem → Option (Int32 × Mem)) (hn : ∀ (y7 : Int32) (y8 : Int32) (n : Mem) (o3 : Option AV) (o6 : Option AV), Go X (Em X puI) 27 [some (.inr (.inr (0, 0))), some (.inl x1), some (.inl x2), o3, some (.inl x4), some (.inl x5), o6, some (.inl y7), some (.inl y8)] [] n (next (y7, y8, n))) (hx : ∀ (y7 : Int32) (n : Mem) (o0 : Option AV) (o1 : Option AV) (o2 : Option AV) (o3 : Option AV) (o4 : Option AV) (o5 : Option AV) (o6 : Option AV) (o8 : Option AV), Go X (Em X puI) 81 [o0, o1, o2, o3, o4, o5, o6, some (.inl y7), o8] [] n (exit (y7, n))) (s : Int32 × Int32 × Mem) (o3 : Option AV) (o6 : Option AV) : Go X (Em X puI) 27 [some (.inr (.inr (0, 0))), some (.inl x1), some (.inl x2), o3, some (.inl x4), some (.inl x5), o6, some (.inl s.1), some (.inl s.2.1)] [] s.2.2 (f_X6_had_b27 x1 x2 x4 x5 next exit s) := by
  unfold f_X6_had_b27
  refine go_blk h.1 (is := [.iload 8, .bipush 9]) (pc' := 31) (ls' := [some (.inr (.inr (0, 0))), some (.inl x1), some (.inl x2), o3, some (.inl x4), some (.inl x5), o6, some (.inl s.1), some (.inl s.2.1)]) (st' := [.inl (9 : Int32), .inl s.2.1]) (m' := s.2.2) (by decide +kernel) rfl ?_
  refine go_icmpgt h.1 (off := 50) 81 (by decide +kernel) (by decide) (fun c31 => ?_) (fun c31 => ?_)
  · exact hx s.1 s.2.2 (some (.inr (.inr (0, 0)))) (some (.inl x1)) (some (.inl x2)) (o3) (some (.inl x4)) (some (.inl x5)) (o6) (some (.inl s.2.1))
  · refine go_blk h.1 (is := [.aload_n 0, .getfield 28, .aload_n 0, .getfield 21]) (pc' := 42) (ls' := [some (.inr (.inr (0, 0))), some (.inl x1), some (.inl x2), o3, some (.inl x4), some (.inl x5), o6, some (.inl s.1), some (.inl s.2.1)]) (st' := [.inr (.inr (4, 0)), .inr (.inr (7, 0))]) (m' := s.2.2) (by decide +kernel) rfl ?_
    refine go_callV h.1 (index := 170) (n := 1) (t := 7) (i := 0) (ci := 0) (nf := 14) (cz := (RX0, TX0, 14)) (as := [.inr (.inr (4, 0))]) (rest := []) (ctr_X0_start (xl X) (xA X) (xC X) (xI X) (xk X) 0 s.2.2) (by decide +kernel) rfl rfl wd_v_X6_170 rfl (h.room (by first | decide | omega) (by decide)) h.cl (Nat.le_of_ble_eq_true rfl) puV_ok rfl (fun r42 m42 _ => ?_)
    show Go X (Em X puI) 45 [some (.inr (.inr (0, 0))), some (.inl x1), some (.inl x2), o3, some (.inl x4), some (.inl x5), o6, some (.inl s.1), some (.inl s.2.1)] [] m42 _
    refine go_blk h.1 (is := [.aload_n 0, .getfield 28, .getfield 138, .iload_n 1, .iload 8]) (pc' := 55) (ls' := [some (.inr (.inr (0, 0))), some (.inl x1), some (.inl x2), o3, some (.inl x4), some (.inl x5), o6, some (.inl s.1), some (.inl s.2.1)]) (st' := [.inl s.2.1, .inl x1, .inr (.inr (10, 0))]) (m' := m42) (by decide +kernel) rfl ?_
    refine go_iast h.1 (by decide +kernel) rfl rfl (fun b55 => ?_)
    refine go_blk h.1 (is := [.iload 7, .aload_n 0, .iload_n 2, .iload 4, .iload 5]) (pc' := 64) (ls' := [some (.inr (.inr (0, 0))), some (.inl x1), some (.inl x2), o3, some (.inl x4), some (.inl x5), o6, some (.inl s.1), some (.inl s.2.1)]) (st' := [.inl x5, .inl x4, .inl x2, .inr (.inr (0, 0)), .inl s.1]) (m' := (mset m42 10 0 (ix x1) s.2.1)) (by decide +kernel) rfl ?_
    refine go_callV h.1 (index := 180) (n := 3) (t := 0) (i := 0) (ci := 6) (nf := 7) (cz := (RX6, TX6, 7)) (as := [.inl x2, .inl x4, .inl x5]) (rest := [.inl s.1]) (ctr_X6_fits (xl X) (xA X) (xC X) (xI X) (xk X) x2 x4 x5 (mset m42 10 0 (ix x1) s.2.1)) (by decide +kernel) rfl rfl wd_v_X6_180 rfl (h.room (by first | decide | omega) (by decide)) h.cl (Nat.le_of_ble_eq_true rfl) puI_ok rfl (fun r64 m64 _ => ?_)
    show Go X (Em X puI) 67 [some (.inr (.inr (0, 0))), some (.inl x1), some (.inl x2), o3, some (.inl x4), some (.inl x5), o6, some (.inl s.1), some (.inl s.2.1)] [.inl r64, .inl s.1] m64 _
    refine go_blk h.1 (is := [.iload 8]) (pc' := 69) (ls' := [some (.inr (.inr (0, 0))), some (.inl x1), some (.inl x2), o3, some (.inl x4), some (.inl x5), o6, some (.inl s.1), some (.inl s.2.1)]) (st' := [.inl s.2.1, .inl r64, .inl s.1]) (m' := m64) (by decide +kernel) rfl ?_
    refine go_callS h.1 (index := 183) (n := 2) (as := [.inl r64, .inl s.2.1]) (rest := [.inl s.1]) (ctr_X6_bitIf (xl X) (xA X) (xC X) (xI X) (xk X) r64 s.2.1 m64) (by decide +kernel) wd_s_X6_183 rfl (h.room (by first | decide | omega) (by decide)) h.cl (Nat.le_of_ble_eq_true rfl) puI_ok rfl (fun r69 m69 _ => ?_)
    show Go X (Em X puI) 72 [some (.inr (.inr (0, 0))), some (.inl x1), some (.inl x2), o3, some (.inl x4), some (.inl x5), o6, some (.inl s.1), some (.inl s.2.1)] [.inl r69, .inl s.1] m69 _
    refine go_blk h.1 (is := [.ior, .istore 7, .iinc 8 1]) (pc' := 78) (ls' := [some (.inr (.inr (0, 0))), some (.inl x1), some (.inl x2), o3, some (.inl x4), some (.inl x5), (clrL o6), some (.inl (s.1 ||| r69)), some (.inl (s.2.1 + (1 : Int32)))]) (st' := []) (m' := m69) (by decide +kernel) rfl ?_
    refine go_goto h.1 (off := -51) 27 (by decide +kernel) (by decide) ?_
    exact hn (s.1 ||| r69) (s.2.1 + (1 : Int32)) m69 (o3) ((clrL o6))

def f_X6_had (x1 : Int32) (x2 : Int32) (x3 : Int32) (x4 : Int32) (x5 : Int32) (m : Mem) : Option (Int32 × Mem) :=
  bnd (f_X6_refusalWithFish x1 x2 x3 x4 x5 m) (fun r8 m8 =>
    if r8 = 0 then
      lpk (f_X6_had_b27 x1 x2 x4 x5) fuelN ((0 : Int32), (0 : Int32), m8) (fun t27 =>
        some (t27.1, t27.2))
    else
      some (r8, m8))
theorem g_X6_had {X : XT} (h : MX X prog_1_method_15_code P_X6 6 (some .int)) (x1 : Int32) (x2 : Int32) (x3 : Int32) (x4 : Int32) (x5 : Int32) (m : Mem) : Go X (Em X puI) 0 [some (.inr (.inr (0, 0))), some (.inl x1), some (.inl x2), some (.inl x3), some (.inl x4), some (.inl x5), none, none, none] [] m (f_X6_had x1 x2 x3 x4 x5 m) := by
  unfold f_X6_had
  refine go_blk h.1 (is := [.aload_n 0, .iload_n 1, .iload_n 2, .iload_n 3, .iload 4, .iload 5]) (pc' := 8) (ls' := [some (.inr (.inr (0, 0))), some (.inl x1), some (.inl x2), some (.inl x3), some (.inl x4), some (.inl x5), none, none, none]) (st' := [.inl x5, .inl x4, .inl x3, .inl x2, .inl x1, .inr (.inr (0, 0))]) (m' := m) (by decide +kernel) rfl ?_
  refine go_callV h.1 (index := 141) (n := 5) (t := 0) (i := 0) (ci := 6) (nf := 7) (cz := (RX6, TX6, 7)) (as := [.inl x1, .inl x2, .inl x3, .inl x4, .inl x5]) (rest := []) (ctr_X6_refusalWithFish (xl X) (xA X) (xC X) (xI X) (xk X) x1 x2 x3 x4 x5 m) (by decide +kernel) rfl rfl wd_v_X6_141 rfl (h.room (by first | decide | omega) (by decide)) h.cl (Nat.le_of_ble_eq_true rfl) puI_ok rfl (fun r8 m8 _ => ?_)
  show Go X (Em X puI) 11 [some (.inr (.inr (0, 0))), some (.inl x1), some (.inl x2), some (.inl x3), some (.inl x4), some (.inl x5), none, none, none] [.inl r8] m8 _
  refine go_blk h.1 (is := [.istore 6, .iload 6]) (pc' := 15) (ls' := [some (.inr (.inr (0, 0))), some (.inl x1), some (.inl x2), some (.inl x3), some (.inl x4), some (.inl x5), some (.inl r8), none, none]) (st' := [.inl r8]) (m' := m8) (by decide +kernel) rfl ?_
  refine go_ifeq h.1 (off := 6) 21 (by decide +kernel) (by decide) (fun c15 => ?_) (fun c15 => ?_)
  · refine go_blk h.1 (is := [.iconst 0, .istore 7, .iconst 0, .istore 8]) (pc' := 27) (ls' := [some (.inr (.inr (0, 0))), some (.inl x1), some (.inl x2), some (.inl x3), some (.inl x4), some (.inl x5), some (.inl r8), some (.inl (0 : Int32)), some (.inl (0 : Int32))]) (st' := []) (m' := m8) (by decide +kernel) rfl ?_
    refine go_lp2 (hd := fun (y7 : Int32) (y8 : Int32) (n : Mem) o => ∀ (o3 : Option AV) (o6 : Option AV), Go X (Em X puI) 27 [some (.inr (.inr (0, 0))), some (.inl x1), some (.inl x2), o3, some (.inl x4), some (.inl x5), o6, some (.inl y7), some (.inl y8)] [] n o) (fun _ _ _ _ _ => go_none) (fun y7 y8 n nx_ hn_ => g_X6_had_b27 h x1 x2 x4 x5 nx_ _ hn_ (fun z7_27 z_27 o0_27 o1_27 o2_27 o3_27 o4_27 o5_27 o6_27 o8_27 => ?_) (y7, y8, n)) fuelN (0 : Int32) (0 : Int32) m8 (some (.inl x3)) (some (.inl r8))
    refine go_blk h.1 (is := [.iload 7]) (pc' := 83) (ls' := [o0_27, o1_27, o2_27, o3_27, o4_27, o5_27, o6_27, some (.inl z7_27), o8_27]) (st' := [.inl z7_27]) (m' := z_27) (by decide +kernel) rfl ?_
    exact go_iret h.1 h.2.2.2.2 (by decide +kernel)
  · refine go_blk h.1 (is := [.iload 6]) (pc' := 20) (ls' := [some (.inr (.inr (0, 0))), some (.inl x1), some (.inl x2), some (.inl x3), some (.inl x4), some (.inl x5), some (.inl r8), none, none]) (st' := [.inl r8]) (m' := m8) (by decide +kernel) rfl ?_
    exact go_iret h.1 h.2.2.2.2 (by decide +kernel)
theorem ctr_X6_had (l : Launch) (A : AR → Nat) (dC : Nat → ClassId) (dI : Nat → Nat → Nat) (cs : Nat → ClassId) (x1 : Int32) (x2 : Int32) (x3 : Int32) (x4 : Int32) (x5 : Int32) (m : Mem) : Ctr l A dC dI cs yX6_had prog_1_method_15_code 9 (some .int) 6 puI [.inr (.inr (0, 0)), .inl x1, .inl x2, .inl x3, .inl x4, .inl x5] m (f_X6_had x1 x2 x3 x4 x5 m) :=
  ctr_of (P := P_X6) (by decide +kernel) rfl pt_X6 rfl rfl (fun X hC _ _ _ _ _ hR h0 h1 hr => g_X6_had ⟨hC, hR, h0, h1, hr⟩ x1 x2 x3 x4 x5 m)

def f_X6_dears_b26 (x1 : Int32) (x3 : Int32) (x4 : Int32) (next : Int32 × Int32 × Mem → Option (Int32 × Mem)) (exit : Int32 × Mem → Option (Int32 × Mem)) (s : Int32 × Int32 × Mem) : Option (Int32 × Mem) :=
  if (9 : Int32) < s.2.1 then
    exit (s.1, s.2.2)
  else
    bnd (f_X0_start 0 s.2.2) (fun _ m41 =>
      bnd (f_X6_fits x1 x3 x4 (mset m41 7 0 9 s.2.1)) (fun r60 m60 =>
        bnd (f_X6_bitIf r60 s.2.1 m60) (fun r65 m65 =>
          next ((s.1 ||| r65), (s.2.1 + (1 : Int32)), m65))))
theorem g_X6_dears_b26 {X : XT} (h : MX X prog_1_method_16_code P_X6 6 (some .int)) (x1 : Int32) (x3 : Int32) (x4 : Int32) (next : Int32 × Int32 × Mem → Option (Int32 × Mem)) (exit : Int32 × Mem → Option (Int32 × Mem)) (hn : ∀ (y6 : Int32) (y7 : Int32) (n : Mem) (o2 : Option AV) (o5 : Option AV), Go X (Em X puI) 26 [some (.inr (.inr (0, 0))), some (.inl x1), o2, some (.inl x3), some (.inl x4), o5, some (.inl y6), some (.inl y7)] [] n (next (y6, y7, n))) (hx : ∀ (y6 : Int32) (n : Mem) (o0 : Option AV) (o1 : Option AV) (o2 : Option AV) (o3 : Option AV) (o4 : Option AV) (o5 : Option AV) (o7 : Option AV), Go X (Em X puI) 77 [o0, o1, o2, o3, o4, o5, some (.inl y6), o7] [] n (exit (y6, n))) (s : Int32 × Int32 × Mem) (o2 : Option AV) (o5 : Option AV) : Go X (Em X puI) 26 [some (.inr (.inr (0, 0))), some (.inl x1), o2, some (.inl x3), some (.inl x4), o5, some (.inl s.1), some (.inl s.2.1)] [] s.2.2 (f_X6_dears_b26 x1 x3 x4 next exit s) := by
  unfold f_X6_dears_b26
  refine go_blk h.1 (is := [.iload 7, .bipush 9]) (pc' := 30) (ls' := [some (.inr (.inr (0, 0))), some (.inl x1), o2, some (.inl x3), some (.inl x4), o5, some (.inl s.1), some (.inl s.2.1)]) (st' := [.inl (9 : Int32), .inl s.2.1]) (m' := s.2.2) (by decide +kernel) rfl ?_
  refine go_icmpgt h.1 (off := 47) 77 (by decide +kernel) (by decide) (fun c30 => ?_) (fun c30 => ?_)
  · exact hx s.1 s.2.2 (some (.inr (.inr (0, 0)))) (some (.inl x1)) (o2) (some (.inl x3)) (some (.inl x4)) (o5) (some (.inl s.2.1))
  · refine go_blk h.1 (is := [.aload_n 0, .getfield 28, .aload_n 0, .getfield 21]) (pc' := 41) (ls' := [some (.inr (.inr (0, 0))), some (.inl x1), o2, some (.inl x3), some (.inl x4), o5, some (.inl s.1), some (.inl s.2.1)]) (st' := [.inr (.inr (4, 0)), .inr (.inr (7, 0))]) (m' := s.2.2) (by decide +kernel) rfl ?_
    refine go_callV h.1 (index := 170) (n := 1) (t := 7) (i := 0) (ci := 0) (nf := 14) (cz := (RX0, TX0, 14)) (as := [.inr (.inr (4, 0))]) (rest := []) (ctr_X0_start (xl X) (xA X) (xC X) (xI X) (xk X) 0 s.2.2) (by decide +kernel) rfl rfl wd_v_X6_170 rfl (h.room (by first | decide | omega) (by decide)) h.cl (Nat.le_of_ble_eq_true rfl) puV_ok rfl (fun r41 m41 _ => ?_)
    show Go X (Em X puI) 44 [some (.inr (.inr (0, 0))), some (.inl x1), o2, some (.inl x3), some (.inl x4), o5, some (.inl s.1), some (.inl s.2.1)] [] m41 _
    refine go_blk h.1 (is := [.aload_n 0, .getfield 28, .iload 7, .putfield 187, .iload 6, .aload_n 0, .iload_n 1, .iload_n 3, .iload 4]) (pc' := 60) (ls' := [some (.inr (.inr (0, 0))), some (.inl x1), o2, some (.inl x3), some (.inl x4), o5, some (.inl s.1), some (.inl s.2.1)]) (st' := [.inl x4, .inl x3, .inl x1, .inr (.inr (0, 0)), .inl s.1]) (m' := (mset m41 7 0 9 s.2.1)) (by decide +kernel) rfl ?_
    refine go_callV h.1 (index := 180) (n := 3) (t := 0) (i := 0) (ci := 6) (nf := 7) (cz := (RX6, TX6, 7)) (as := [.inl x1, .inl x3, .inl x4]) (rest := [.inl s.1]) (ctr_X6_fits (xl X) (xA X) (xC X) (xI X) (xk X) x1 x3 x4 (mset m41 7 0 9 s.2.1)) (by decide +kernel) rfl rfl wd_v_X6_180 rfl (h.room (by first | decide | omega) (by decide)) h.cl (Nat.le_of_ble_eq_true rfl) puI_ok rfl (fun r60 m60 _ => ?_)
    show Go X (Em X puI) 63 [some (.inr (.inr (0, 0))), some (.inl x1), o2, some (.inl x3), some (.inl x4), o5, some (.inl s.1), some (.inl s.2.1)] [.inl r60, .inl s.1] m60 _
    refine go_blk h.1 (is := [.iload 7]) (pc' := 65) (ls' := [some (.inr (.inr (0, 0))), some (.inl x1), o2, some (.inl x3), some (.inl x4), o5, some (.inl s.1), some (.inl s.2.1)]) (st' := [.inl s.2.1, .inl r60, .inl s.1]) (m' := m60) (by decide +kernel) rfl ?_
    refine go_callS h.1 (index := 183) (n := 2) (as := [.inl r60, .inl s.2.1]) (rest := [.inl s.1]) (ctr_X6_bitIf (xl X) (xA X) (xC X) (xI X) (xk X) r60 s.2.1 m60) (by decide +kernel) wd_s_X6_183 rfl (h.room (by first | decide | omega) (by decide)) h.cl (Nat.le_of_ble_eq_true rfl) puI_ok rfl (fun r65 m65 _ => ?_)
    show Go X (Em X puI) 68 [some (.inr (.inr (0, 0))), some (.inl x1), o2, some (.inl x3), some (.inl x4), o5, some (.inl s.1), some (.inl s.2.1)] [.inl r65, .inl s.1] m65 _
    refine go_blk h.1 (is := [.ior, .istore 6, .iinc 7 1]) (pc' := 74) (ls' := [some (.inr (.inr (0, 0))), some (.inl x1), o2, some (.inl x3), some (.inl x4), (clrL o5), some (.inl (s.1 ||| r65)), some (.inl (s.2.1 + (1 : Int32)))]) (st' := []) (m' := m65) (by decide +kernel) rfl ?_
    refine go_goto h.1 (off := -48) 26 (by decide +kernel) (by decide) ?_
    exact hn (s.1 ||| r65) (s.2.1 + (1 : Int32)) m65 (o2) ((clrL o5))

def f_X6_dears (x1 : Int32) (x2 : Int32) (x3 : Int32) (x4 : Int32) (m : Mem) : Option (Int32 × Mem) :=
  bnd (f_X6_refusalOf x1 x2 x3 x4 (1 : Int32) m) (fun r7 m7 =>
    if r7 = 0 then
      lpk (f_X6_dears_b26 x1 x3 x4) fuelN ((0 : Int32), (0 : Int32), m7) (fun t26 =>
        some (t26.1, t26.2))
    else
      some (r7, m7))
theorem g_X6_dears {X : XT} (h : MX X prog_1_method_16_code P_X6 6 (some .int)) (x1 : Int32) (x2 : Int32) (x3 : Int32) (x4 : Int32) (m : Mem) : Go X (Em X puI) 0 [some (.inr (.inr (0, 0))), some (.inl x1), some (.inl x2), some (.inl x3), some (.inl x4), none, none, none] [] m (f_X6_dears x1 x2 x3 x4 m) := by
  unfold f_X6_dears
  refine go_blk h.1 (is := [.aload_n 0, .iload_n 1, .iload_n 2, .iload_n 3, .iload 4, .iconst 1]) (pc' := 7) (ls' := [some (.inr (.inr (0, 0))), some (.inl x1), some (.inl x2), some (.inl x3), some (.inl x4), none, none, none]) (st' := [.inl (1 : Int32), .inl x4, .inl x3, .inl x2, .inl x1, .inr (.inr (0, 0))]) (m' := m) (by decide +kernel) rfl ?_
  refine go_callV h.1 (index := 121) (n := 5) (t := 0) (i := 0) (ci := 6) (nf := 7) (cz := (RX6, TX6, 7)) (as := [.inl x1, .inl x2, .inl x3, .inl x4, .inl (1 : Int32)]) (rest := []) (ctr_X6_refusalOf (xl X) (xA X) (xC X) (xI X) (xk X) x1 x2 x3 x4 (1 : Int32) m) (by decide +kernel) rfl rfl wd_v_X6_121 rfl (h.room (by first | decide | omega) (by decide)) h.cl (Nat.le_of_ble_eq_true rfl) puI_ok rfl (fun r7 m7 _ => ?_)
  show Go X (Em X puI) 10 [some (.inr (.inr (0, 0))), some (.inl x1), some (.inl x2), some (.inl x3), some (.inl x4), none, none, none] [.inl r7] m7 _
  refine go_blk h.1 (is := [.istore 5, .iload 5]) (pc' := 14) (ls' := [some (.inr (.inr (0, 0))), some (.inl x1), some (.inl x2), some (.inl x3), some (.inl x4), some (.inl r7), none, none]) (st' := [.inl r7]) (m' := m7) (by decide +kernel) rfl ?_
  refine go_ifeq h.1 (off := 6) 20 (by decide +kernel) (by decide) (fun c14 => ?_) (fun c14 => ?_)
  · refine go_blk h.1 (is := [.iconst 0, .istore 6, .iconst 0, .istore 7]) (pc' := 26) (ls' := [some (.inr (.inr (0, 0))), some (.inl x1), some (.inl x2), some (.inl x3), some (.inl x4), some (.inl r7), some (.inl (0 : Int32)), some (.inl (0 : Int32))]) (st' := []) (m' := m7) (by decide +kernel) rfl ?_
    refine go_lp2 (hd := fun (y6 : Int32) (y7 : Int32) (n : Mem) o => ∀ (o2 : Option AV) (o5 : Option AV), Go X (Em X puI) 26 [some (.inr (.inr (0, 0))), some (.inl x1), o2, some (.inl x3), some (.inl x4), o5, some (.inl y6), some (.inl y7)] [] n o) (fun _ _ _ _ _ => go_none) (fun y6 y7 n nx_ hn_ => g_X6_dears_b26 h x1 x3 x4 nx_ _ hn_ (fun z6_26 z_26 o0_26 o1_26 o2_26 o3_26 o4_26 o5_26 o7_26 => ?_) (y6, y7, n)) fuelN (0 : Int32) (0 : Int32) m7 (some (.inl x2)) (some (.inl r7))
    refine go_blk h.1 (is := [.iload 6]) (pc' := 79) (ls' := [o0_26, o1_26, o2_26, o3_26, o4_26, o5_26, some (.inl z6_26), o7_26]) (st' := [.inl z6_26]) (m' := z_26) (by decide +kernel) rfl ?_
    exact go_iret h.1 h.2.2.2.2 (by decide +kernel)
  · refine go_blk h.1 (is := [.iload 5]) (pc' := 19) (ls' := [some (.inr (.inr (0, 0))), some (.inl x1), some (.inl x2), some (.inl x3), some (.inl x4), some (.inl r7), none, none]) (st' := [.inl r7]) (m' := m7) (by decide +kernel) rfl ?_
    exact go_iret h.1 h.2.2.2.2 (by decide +kernel)
theorem ctr_X6_dears (l : Launch) (A : AR → Nat) (dC : Nat → ClassId) (dI : Nat → Nat → Nat) (cs : Nat → ClassId) (x1 : Int32) (x2 : Int32) (x3 : Int32) (x4 : Int32) (m : Mem) : Ctr l A dC dI cs yX6_dears prog_1_method_16_code 8 (some .int) 6 puI [.inr (.inr (0, 0)), .inl x1, .inl x2, .inl x3, .inl x4] m (f_X6_dears x1 x2 x3 x4 m) :=
  ctr_of (P := P_X6) (by decide +kernel) rfl pt_X6 rfl rfl (fun X hC _ _ _ _ _ hR h0 h1 hr => g_X6_dears ⟨hC, hR, h0, h1, hr⟩ x1 x2 x3 x4 m)

