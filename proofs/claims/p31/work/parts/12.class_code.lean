/-! ===== printed by wip/p31/tr.py out of the listing ===== -/
def f_X6_refusalOf_b85 (x1 : Int32) (x3 : Int32) (x4 : Int32) (next : Int32 × Mem → Option (Int32 × Mem)) (exit : Mem → Option (Int32 × Mem)) (s : Int32 × Mem) : Option (Int32 × Mem) :=
  if x4 ≤ s.1 then
    exit (s.2)
  else
    if inB x1 4 = true then
      bnd (f_X4_at (ix x1) (x3 + ((2 : Int32) * s.1)) s.2) (fun r108 m108 =>
        bnd (f_X5_has r108 m108) (fun r111 m111 =>
          if r111 = 0 then
            some ((-1 : Int32), m111)
          else
            if inB x1 4 = true then
              bnd (f_X4_at (ix x1) ((x3 + ((2 : Int32) * s.1)) + (1 : Int32)) m111) (fun r133 m133 =>
                bnd (f_X6_isWithin r133 (0 : Int32) (3 : Int32) m133) (fun r138 m138 =>
                  if r138 = 0 then
                    some ((-2 : Int32), m138)
                  else
                    next ((s.1 + (1 : Int32)), m138)))
            else none))
    else none
theorem g_X6_refusalOf_b85 {X : XT} (h : MX X prog_1_method_39_code P_X6 2 (some .int)) (x1 : Int32) (x3 : Int32) (x4 : Int32) (next : Int32 × Mem → Option (Int32 × Mem)) (exit : Mem → Option (Int32 × Mem)) (hn : ∀ (y7 : Int32) (n : Mem) (o2 : Option AV) (o5 : Option AV) (o6 : Option AV), Go X (Em X puI) 85 [some (.inr (.inr (0, 0))), some (.inl x1), o2, some (.inl x3), some (.inl x4), o5, o6, some (.inl y7)] [] n (next (y7, n))) (hx : ∀ (n : Mem) (o0 : Option AV) (o1 : Option AV) (o2 : Option AV) (o3 : Option AV) (o4 : Option AV) (o5 : Option AV) (o6 : Option AV) (o7 : Option AV), Go X (Em X puI) 153 [o0, o1, o2, o3, o4, o5, o6, o7] [] n (exit (n))) (s : Int32 × Mem) (o2 : Option AV) (o5 : Option AV) (o6 : Option AV) : Go X (Em X puI) 85 [some (.inr (.inr (0, 0))), some (.inl x1), o2, some (.inl x3), some (.inl x4), o5, o6, some (.inl s.1)] [] s.2 (f_X6_refusalOf_b85 x1 x3 x4 next exit s) := by
  unfold f_X6_refusalOf_b85
  refine go_blk h.1 (is := [.iload 7, .iload 4]) (pc' := 89) (ls' := [some (.inr (.inr (0, 0))), some (.inl x1), o2, some (.inl x3), some (.inl x4), o5, o6, some (.inl s.1)]) (st' := [.inl x4, .inl s.1]) (m' := s.2) (by decide +kernel) rfl ?_
  refine go_icmpge h.1 (off := 64) 153 (by decide +kernel) (by decide) (fun c89 => ?_) (fun c89 => ?_)
  · exact hx s.2 (some (.inr (.inr (0, 0)))) (some (.inl x1)) (o2) (some (.inl x3)) (some (.inl x4)) (o5) (o6) (some (.inl s.1))
  · refine go_blk h.1 (is := [.aload_n 0, .getfield 21, .aload_n 0, .getfield 13, .iload_n 1]) (pc' := 101) (ls' := [some (.inr (.inr (0, 0))), some (.inl x1), o2, some (.inl x3), some (.inl x4), o5, o6, some (.inl s.1)]) (st' := [.inl x1, .inr (.inr (1, 0)), .inr (.inr (4, 0))]) (m' := s.2) (by decide +kernel) rfl ?_
    refine go_aald h.1 (kd := 0) (z := (2, (ix x1))) (by decide +kernel) rfl rfl (by decide) rfl (fun b101 => ?_)
    refine go_blk h.1 (is := [.iload_n 3, .iconst 2, .iload 7, .imul, .iadd]) (pc' := 108) (ls' := [some (.inr (.inr (0, 0))), some (.inl x1), o2, some (.inl x3), some (.inl x4), o5, o6, some (.inl s.1)]) (st' := [.inl (x3 + ((2 : Int32) * s.1)), .inr (.inr (2, (ix x1))), .inr (.inr (4, 0))]) (m' := s.2) (by decide +kernel) rfl ?_
    refine go_callV h.1 (index := 207) (n := 1) (t := 2) (i := (ix x1)) (ci := 4) (nf := 4) (cz := (RX4, TX4, 4)) (as := [.inl (x3 + ((2 : Int32) * s.1))]) (rest := [.inr (.inr (4, 0))]) (ctr_X4_at (xZ X) (ix x1) (x3 + ((2 : Int32) * s.1)) s.2) (by decide +kernel) rfl rfl wd_v_X6_207 rfl (h.room (by first | decide | omega) (by decide)) h.cl (Nat.le_of_ble_eq_true rfl) puI_ok rfl (fun r108 m108 _ => ?_)
    show Go X (Em X puI) 111 [some (.inr (.inr (0, 0))), some (.inl x1), o2, some (.inl x3), some (.inl x4), o5, o6, some (.inl s.1)] [.inl r108, .inr (.inr (4, 0))] m108 _
    refine go_callV h.1 (index := 83) (n := 1) (t := 4) (i := 0) (ci := 5) (nf := 4) (cz := (RX5, TX5, 4)) (as := [.inl r108]) (rest := []) (ctr_X5_has (xZ X) r108 m108) (by decide +kernel) rfl rfl wd_v_X6_83 rfl (h.room (by first | decide | omega) (by decide)) h.cl (Nat.le_of_ble_eq_true rfl) puI_ok rfl (fun r111 m111 _ => ?_)
    show Go X (Em X puI) 114 [some (.inr (.inr (0, 0))), some (.inl x1), o2, some (.inl x3), some (.inl x4), o5, o6, some (.inl s.1)] [.inl r111] m111 _
    refine go_ifne h.1 (off := 5) 119 (by decide +kernel) (by decide) (fun c114 => ?_) (fun c114 => ?_)
    · refine go_blk h.1 (is := [.aload_n 0, .getfield 13, .iload_n 1]) (pc' := 124) (ls' := [some (.inr (.inr (0, 0))), some (.inl x1), o2, some (.inl x3), some (.inl x4), o5, o6, some (.inl s.1)]) (st' := [.inl x1, .inr (.inr (1, 0))]) (m' := m111) (by decide +kernel) rfl ?_
      refine go_aald h.1 (kd := 0) (z := (2, (ix x1))) (by decide +kernel) rfl rfl (by decide) rfl (fun b124 => ?_)
      refine go_blk h.1 (is := [.iload_n 3, .iconst 2, .iload 7, .imul, .iadd, .iconst 1, .iadd]) (pc' := 133) (ls' := [some (.inr (.inr (0, 0))), some (.inl x1), o2, some (.inl x3), some (.inl x4), o5, o6, some (.inl s.1)]) (st' := [.inl ((x3 + ((2 : Int32) * s.1)) + (1 : Int32)), .inr (.inr (2, (ix x1)))]) (m' := m111) (by decide +kernel) rfl ?_
      refine go_callV h.1 (index := 207) (n := 1) (t := 2) (i := (ix x1)) (ci := 4) (nf := 4) (cz := (RX4, TX4, 4)) (as := [.inl ((x3 + ((2 : Int32) * s.1)) + (1 : Int32))]) (rest := []) (ctr_X4_at (xZ X) (ix x1) ((x3 + ((2 : Int32) * s.1)) + (1 : Int32)) m111) (by decide +kernel) rfl rfl wd_v_X6_207 rfl (h.room (by first | decide | omega) (by decide)) h.cl (Nat.le_of_ble_eq_true rfl) puI_ok rfl (fun r133 m133 _ => ?_)
      show Go X (Em X puI) 136 [some (.inr (.inr (0, 0))), some (.inl x1), o2, some (.inl x3), some (.inl x4), o5, o6, some (.inl s.1)] [.inl r133] m133 _
      refine go_blk h.1 (is := [.iconst 0, .iconst 3]) (pc' := 138) (ls' := [some (.inr (.inr (0, 0))), some (.inl x1), o2, some (.inl x3), some (.inl x4), o5, o6, some (.inl s.1)]) (st' := [.inl (3 : Int32), .inl (0 : Int32), .inl r133]) (m' := m133) (by decide +kernel) rfl ?_
      refine go_callS h.1 (index := 111) (n := 3) (as := [.inl r133, .inl (0 : Int32), .inl (3 : Int32)]) (rest := []) (ctr_X6_isWithin (xZ X) r133 (0 : Int32) (3 : Int32) m133) (by decide +kernel) wd_s_X6_111 rfl (h.room (by first | decide | omega) (by decide)) h.cl (Nat.le_of_ble_eq_true rfl) puI_ok rfl (fun r138 m138 _ => ?_)
      show Go X (Em X puI) 141 [some (.inr (.inr (0, 0))), some (.inl x1), o2, some (.inl x3), some (.inl x4), o5, o6, some (.inl s.1)] [.inl r138] m138 _
      refine go_ifne h.1 (off := 6) 147 (by decide +kernel) (by decide) (fun c141 => ?_) (fun c141 => ?_)
      · refine go_blk h.1 (is := [.iinc 7 1]) (pc' := 150) (ls' := [some (.inr (.inr (0, 0))), some (.inl x1), o2, some (.inl x3), some (.inl x4), o5, (clrL o6), some (.inl (s.1 + (1 : Int32)))]) (st' := []) (m' := m138) (by decide +kernel) rfl ?_
        refine go_goto h.1 (off := -65) 85 (by decide +kernel) (by decide) ?_
        exact hn (s.1 + (1 : Int32)) m138 (o2) (o5) ((clrL o6))
      · refine go_blk h.1 (is := [.bipush (-2)]) (pc' := 146) (ls' := [some (.inr (.inr (0, 0))), some (.inl x1), o2, some (.inl x3), some (.inl x4), o5, o6, some (.inl s.1)]) (st' := [.inl (-2 : Int32)]) (m' := m138) (by decide +kernel) rfl ?_
        exact go_iret h.1 h.2.2.2.2 (by decide +kernel)
    · refine go_blk h.1 (is := [.iconst (-1)]) (pc' := 118) (ls' := [some (.inr (.inr (0, 0))), some (.inl x1), o2, some (.inl x3), some (.inl x4), o5, o6, some (.inl s.1)]) (st' := [.inl (-1 : Int32)]) (m' := m111) (by decide +kernel) rfl ?_
      exact go_iret h.1 h.2.2.2.2 (by decide +kernel)

def f_X6_refusalOf (x1 : Int32) (x2 : Int32) (x3 : Int32) (x4 : Int32) (x5 : Int32) (m : Mem) : Option (Int32 × Mem) :=
  bnd (f_X6_isSheet x1 (mset m 0 0 6 (0 : Int32))) (fun r6 m6 =>
    if r6 = 0 then
      some ((-1 : Int32), m6)
    else
      bnd (f_X6_isLane x2 m6) (fun r15 m15 =>
        if r15 = 0 then
          some ((-2 : Int32), m15)
        else
          bnd (f_X6_isWithin x4 (0 : Int32) (20 : Int32) m15) (fun r26 m26 =>
            if r26 = 0 then
              some ((-2 : Int32), m26)
            else
              if x5 = 0 then
                some ((-2 : Int32), m26)
              else
                if inB x1 4 = true then
                  bnd (f_X4_faultAt (ix x1) x2 x3 ((2 : Int32) * x4) m26) (fun r52 m52 =>
                    if r52 = 0 then
                      if (m52 4 0 1) = 0 then
                        some ((-3 : Int32), m52)
                      else
                        lpk (f_X6_refusalOf_b85 x1 x3 x4) fuelN ((0 : Int32), m52) (fun t85 =>
                          some ((0 : Int32), t85))
                    else
                      bnd (f_X6_faulty r52 m52) (fun r65 m65 =>
                        some (r65, m65)))
                else none)))
theorem g_X6_refusalOf {X : XT} (h : MX X prog_1_method_39_code P_X6 2 (some .int)) (x1 : Int32) (x2 : Int32) (x3 : Int32) (x4 : Int32) (x5 : Int32) (m : Mem) : Go X (Em X puI) 0 [some (.inr (.inr (0, 0))), some (.inl x1), some (.inl x2), some (.inl x3), some (.inl x4), some (.inl x5), none, none] [] m (f_X6_refusalOf x1 x2 x3 x4 x5 m) := by
  unfold f_X6_refusalOf
  refine go_blk h.1 (is := [.aload_n 0, .iconst 0, .putfield 50, .iload_n 1]) (pc' := 6) (ls' := [some (.inr (.inr (0, 0))), some (.inl x1), some (.inl x2), some (.inl x3), some (.inl x4), some (.inl x5), none, none]) (st' := [.inl x1]) (m' := (mset m 0 0 6 (0 : Int32))) (by decide +kernel) rfl ?_
  refine go_callS h.1 (index := 53) (n := 1) (as := [.inl x1]) (rest := []) (ctr_X6_isSheet (xZ X) x1 (mset m 0 0 6 (0 : Int32))) (by decide +kernel) wd_s_X6_53 rfl (h.room (by first | decide | omega) (by decide)) h.cl (Nat.le_of_ble_eq_true rfl) puI_ok rfl (fun r6 m6 _ => ?_)
  show Go X (Em X puI) 9 [some (.inr (.inr (0, 0))), some (.inl x1), some (.inl x2), some (.inl x3), some (.inl x4), some (.inl x5), none, none] [.inl r6] m6 _
  refine go_ifne h.1 (off := 5) 14 (by decide +kernel) (by decide) (fun c9 => ?_) (fun c9 => ?_)
  · refine go_blk h.1 (is := [.iload_n 2]) (pc' := 15) (ls' := [some (.inr (.inr (0, 0))), some (.inl x1), some (.inl x2), some (.inl x3), some (.inl x4), some (.inl x5), none, none]) (st' := [.inl x2]) (m' := m6) (by decide +kernel) rfl ?_
    refine go_callS h.1 (index := 57) (n := 1) (as := [.inl x2]) (rest := []) (ctr_X6_isLane (xZ X) x2 m6) (by decide +kernel) wd_s_X6_57 rfl (h.room (by first | decide | omega) (by decide)) h.cl (Nat.le_of_ble_eq_true rfl) puI_ok rfl (fun r15 m15 _ => ?_)
    show Go X (Em X puI) 18 [some (.inr (.inr (0, 0))), some (.inl x1), some (.inl x2), some (.inl x3), some (.inl x4), some (.inl x5), none, none] [.inl r15] m15 _
    refine go_ifeq h.1 (off := 19) 37 (by decide +kernel) (by decide) (fun c18 => ?_) (fun c18 => ?_)
    · refine go_blk h.1 (is := [.bipush (-2)]) (pc' := 39) (ls' := [some (.inr (.inr (0, 0))), some (.inl x1), some (.inl x2), some (.inl x3), some (.inl x4), some (.inl x5), none, none]) (st' := [.inl (-2 : Int32)]) (m' := m15) (by decide +kernel) rfl ?_
      exact go_iret h.1 h.2.2.2.2 (by decide +kernel)
    · refine go_blk h.1 (is := [.iload 4, .iconst 0, .bipush 20]) (pc' := 26) (ls' := [some (.inr (.inr (0, 0))), some (.inl x1), some (.inl x2), some (.inl x3), some (.inl x4), some (.inl x5), none, none]) (st' := [.inl (20 : Int32), .inl (0 : Int32), .inl x4]) (m' := m15) (by decide +kernel) rfl ?_
      refine go_callS h.1 (index := 111) (n := 3) (as := [.inl x4, .inl (0 : Int32), .inl (20 : Int32)]) (rest := []) (ctr_X6_isWithin (xZ X) x4 (0 : Int32) (20 : Int32) m15) (by decide +kernel) wd_s_X6_111 rfl (h.room (by first | decide | omega) (by decide)) h.cl (Nat.le_of_ble_eq_true rfl) puI_ok rfl (fun r26 m26 _ => ?_)
      show Go X (Em X puI) 29 [some (.inr (.inr (0, 0))), some (.inl x1), some (.inl x2), some (.inl x3), some (.inl x4), some (.inl x5), none, none] [.inl r26] m26 _
      refine go_ifeq h.1 (off := 8) 37 (by decide +kernel) (by decide) (fun c29 => ?_) (fun c29 => ?_)
      · refine go_blk h.1 (is := [.bipush (-2)]) (pc' := 39) (ls' := [some (.inr (.inr (0, 0))), some (.inl x1), some (.inl x2), some (.inl x3), some (.inl x4), some (.inl x5), none, none]) (st' := [.inl (-2 : Int32)]) (m' := m26) (by decide +kernel) rfl ?_
        exact go_iret h.1 h.2.2.2.2 (by decide +kernel)
      · refine go_blk h.1 (is := [.iload 5]) (pc' := 34) (ls' := [some (.inr (.inr (0, 0))), some (.inl x1), some (.inl x2), some (.inl x3), some (.inl x4), some (.inl x5), none, none]) (st' := [.inl x5]) (m' := m26) (by decide +kernel) rfl ?_
        refine go_ifne h.1 (off := 6) 40 (by decide +kernel) (by decide) (fun c34 => ?_) (fun c34 => ?_)
        · refine go_blk h.1 (is := [.aload_n 0, .getfield 13, .iload_n 1]) (pc' := 45) (ls' := [some (.inr (.inr (0, 0))), some (.inl x1), some (.inl x2), some (.inl x3), some (.inl x4), some (.inl x5), none, none]) (st' := [.inl x1, .inr (.inr (1, 0))]) (m' := m26) (by decide +kernel) rfl ?_
          refine go_aald h.1 (kd := 0) (z := (2, (ix x1))) (by decide +kernel) rfl rfl (by decide) rfl (fun b45 => ?_)
          refine go_blk h.1 (is := [.iload_n 2, .iload_n 3, .iconst 2, .iload 4, .imul]) (pc' := 52) (ls' := [some (.inr (.inr (0, 0))), some (.inl x1), some (.inl x2), some (.inl x3), some (.inl x4), some (.inl x5), none, none]) (st' := [.inl ((2 : Int32) * x4), .inl x3, .inl x2, .inr (.inr (2, (ix x1)))]) (m' := m26) (by decide +kernel) rfl ?_
          refine go_callV h.1 (index := 60) (n := 3) (t := 2) (i := (ix x1)) (ci := 4) (nf := 4) (cz := (RX4, TX4, 4)) (as := [.inl x2, .inl x3, .inl ((2 : Int32) * x4)]) (rest := []) (ctr_X4_faultAt (xZ X) (ix x1) x2 x3 ((2 : Int32) * x4) m26) (by decide +kernel) rfl rfl wd_v_X6_60 rfl (h.room (by first | decide | omega) (by decide)) h.cl (Nat.le_of_ble_eq_true rfl) puI_ok rfl (fun r52 m52 _ => ?_)
          show Go X (Em X puI) 55 [some (.inr (.inr (0, 0))), some (.inl x1), some (.inl x2), some (.inl x3), some (.inl x4), some (.inl x5), none, none] [.inl r52] m52 _
          refine go_blk h.1 (is := [.istore 6, .iload 6]) (pc' := 59) (ls' := [some (.inr (.inr (0, 0))), some (.inl x1), some (.inl x2), some (.inl x3), some (.inl x4), some (.inl x5), some (.inl r52), none]) (st' := [.inl r52]) (m' := m52) (by decide +kernel) rfl ?_
          refine go_ifeq h.1 (off := 10) 69 (by decide +kernel) (by decide) (fun c59 => ?_) (fun c59 => ?_)
          · refine go_blk h.1 (is := [.aload_n 0, .getfield 21, .getfield 82]) (pc' := 76) (ls' := [some (.inr (.inr (0, 0))), some (.inl x1), some (.inl x2), some (.inl x3), some (.inl x4), some (.inl x5), some (.inl r52), none]) (st' := [.inl (m52 4 0 1)]) (m' := m52) (by decide +kernel) rfl ?_
            refine go_ifne h.1 (off := 6) 82 (by decide +kernel) (by decide) (fun c76 => ?_) (fun c76 => ?_)
            · refine go_blk h.1 (is := [.iconst 0, .istore 7]) (pc' := 85) (ls' := [some (.inr (.inr (0, 0))), some (.inl x1), some (.inl x2), some (.inl x3), some (.inl x4), some (.inl x5), some (.inl r52), some (.inl (0 : Int32))]) (st' := []) (m' := m52) (by decide +kernel) rfl ?_
              refine go_lp1 (hd := fun (y7 : Int32) (n : Mem) o => ∀ (o2 : Option AV) (o5 : Option AV) (o6 : Option AV), Go X (Em X puI) 85 [some (.inr (.inr (0, 0))), some (.inl x1), o2, some (.inl x3), some (.inl x4), o5, o6, some (.inl y7)] [] n o) (fun _ _ _ _ _ => go_none) (fun y7 n nx_ hn_ => g_X6_refusalOf_b85 h x1 x3 x4 nx_ _ hn_ (fun z_85 o0_85 o1_85 o2_85 o3_85 o4_85 o5_85 o6_85 o7_85 => ?_) (y7, n)) fuelN (0 : Int32) m52 (some (.inl x2)) (some (.inl x5)) (some (.inl r52))
              refine go_blk h.1 (is := [.iconst 0]) (pc' := 154) (ls' := [o0_85, o1_85, o2_85, o3_85, o4_85, o5_85, o6_85, o7_85]) (st' := [.inl (0 : Int32)]) (m' := z_85) (by decide +kernel) rfl ?_
              exact go_iret h.1 h.2.2.2.2 (by decide +kernel)
            · refine go_blk h.1 (is := [.bipush (-3)]) (pc' := 81) (ls' := [some (.inr (.inr (0, 0))), some (.inl x1), some (.inl x2), some (.inl x3), some (.inl x4), some (.inl x5), some (.inl r52), none]) (st' := [.inl (-3 : Int32)]) (m' := m52) (by decide +kernel) rfl ?_
              exact go_iret h.1 h.2.2.2.2 (by decide +kernel)
          · refine go_blk h.1 (is := [.aload_n 0, .iload 6]) (pc' := 65) (ls' := [some (.inr (.inr (0, 0))), some (.inl x1), some (.inl x2), some (.inl x3), some (.inl x4), some (.inl x5), some (.inl r52), none]) (st' := [.inl r52, .inr (.inr (0, 0))]) (m' := m52) (by decide +kernel) rfl ?_
            refine go_callV h.1 (index := 64) (n := 1) (t := 0) (i := 0) (ci := 6) (nf := 7) (cz := (RX6, TX6, 7)) (as := [.inl r52]) (rest := []) (ctr_X6_faulty (xZ X) r52 m52) (by decide +kernel) rfl rfl wd_v_X6_64 rfl (h.room (by first | decide | omega) (by decide)) h.cl (Nat.le_of_ble_eq_true rfl) puI_ok rfl (fun r65 m65 _ => ?_)
            show Go X (Em X puI) 68 [some (.inr (.inr (0, 0))), some (.inl x1), some (.inl x2), some (.inl x3), some (.inl x4), some (.inl x5), some (.inl r52), none] [.inl r65] m65 _
            exact go_iret h.1 h.2.2.2.2 (by decide +kernel)
        · refine go_blk h.1 (is := [.bipush (-2)]) (pc' := 39) (ls' := [some (.inr (.inr (0, 0))), some (.inl x1), some (.inl x2), some (.inl x3), some (.inl x4), some (.inl x5), none, none]) (st' := [.inl (-2 : Int32)]) (m' := m26) (by decide +kernel) rfl ?_
          exact go_iret h.1 h.2.2.2.2 (by decide +kernel)
  · refine go_blk h.1 (is := [.iconst (-1)]) (pc' := 13) (ls' := [some (.inr (.inr (0, 0))), some (.inl x1), some (.inl x2), some (.inl x3), some (.inl x4), some (.inl x5), none, none]) (st' := [.inl (-1 : Int32)]) (m' := m6) (by decide +kernel) rfl ?_
    exact go_iret h.1 h.2.2.2.2 (by decide +kernel)
theorem ctr_X6_refusalOf (Z : ZT) (x1 : Int32) (x2 : Int32) (x3 : Int32) (x4 : Int32) (x5 : Int32) (m : Mem) : Ctr Z yX6_refusalOf prog_1_method_39_code 8 (some .int) 2 puI [.inr (.inr (0, 0)), .inl x1, .inl x2, .inl x3, .inl x4, .inl x5] m (f_X6_refusalOf x1 x2 x3 x4 x5 m) :=
  ctr_of (P := P_X6) (by decide +kernel) rfl pt_X6 rfl rfl (fun X hC hZ hR h0 h1 hr => by subst hZ; exact g_X6_refusalOf ⟨hC, hR, h0, h1, hr⟩ x1 x2 x3 x4 x5 m)

def f_J7_fill_53178_t14_b5 (w : Nat) (x1 : Int32) (x3 : Int32) (next : Int32 × Mem → Option (Unit × Mem)) (exit : Mem → Option (Unit × Mem)) (s : Int32 × Mem) : Option (Unit × Mem) :=
  if x3 ≤ s.1 then
    exit (s.2)
  else
    if inB s.1 5 = true then
      next ((s.1 + (1 : Int32)), (mset s.2 14 w (ix s.1) x1))
    else none
theorem g_J7_fill_53178_t14_b5 {X : XT} (h : MX X prog_11_method_103_code P_J7 0 none) (w : Nat) (x1 : Int32) (x3 : Int32) (next : Int32 × Mem → Option (Unit × Mem)) (exit : Mem → Option (Unit × Mem)) (hn : ∀ (y2 : Int32) (n : Mem), Go X (Em X puV) 5 [some (.inr (.inr (14, w))), some (.inl x1), some (.inl y2), some (.inl x3)] [] n (next (y2, n))) (hx : ∀ (n : Mem) (o0 : Option AV) (o1 : Option AV) (o2 : Option AV) (o3 : Option AV), Go X (Em X puV) 20 [o0, o1, o2, o3] [] n (exit (n))) (s : Int32 × Mem) : Go X (Em X puV) 5 [some (.inr (.inr (14, w))), some (.inl x1), some (.inl s.1), some (.inl x3)] [] s.2 (f_J7_fill_53178_t14_b5 w x1 x3 next exit s) := by
  unfold f_J7_fill_53178_t14_b5
  refine go_blk h.1 (is := [.iload_n 2, .iload_n 3]) (pc' := 7) (ls' := [some (.inr (.inr (14, w))), some (.inl x1), some (.inl s.1), some (.inl x3)]) (st' := [.inl x3, .inl s.1]) (m' := s.2) (by decide +kernel) rfl ?_
  refine go_icmpge h.1 (off := 13) 20 (by decide +kernel) (by decide) (fun c7 => ?_) (fun c7 => ?_)
  · exact hx s.2 (some (.inr (.inr (14, w)))) (some (.inl x1)) (some (.inl s.1)) (some (.inl x3))
  · refine go_blk h.1 (is := [.aload_n 0, .iload_n 2, .iload_n 1]) (pc' := 13) (ls' := [some (.inr (.inr (14, w))), some (.inl x1), some (.inl s.1), some (.inl x3)]) (st' := [.inl x1, .inl s.1, .inr (.inr (14, w))]) (m' := s.2) (by decide +kernel) rfl ?_
    refine go_iast h.1 (by decide +kernel) rfl rfl (fun b13 => ?_)
    refine go_blk h.1 (is := [.iinc 2 1]) (pc' := 17) (ls' := [some (.inr (.inr (14, w))), some (.inl x1), some (.inl (s.1 + (1 : Int32))), some (.inl x3)]) (st' := []) (m' := (mset s.2 14 w (ix s.1) x1)) (by decide +kernel) rfl ?_
    refine go_goto h.1 (off := -12) 5 (by decide +kernel) (by decide) ?_
    exact hn (s.1 + (1 : Int32)) (mset s.2 14 w (ix s.1) x1)

def f_J7_fill_53178_t14 (w : Nat) (x1 : Int32) (m : Mem) : Option (Unit × Mem) :=
  lpk (f_J7_fill_53178_t14_b5 w x1 (5 : Int32)) fuelN ((0 : Int32), m) (fun t5 =>
    some ((), t5))
theorem g_J7_fill_53178_t14 {X : XT} (h : MX X prog_11_method_103_code P_J7 0 none) (w : Nat) (x1 : Int32) (m : Mem) : Go X (Em X puV) 0 [some (.inr (.inr (14, w))), some (.inl x1), none, none] [] m (f_J7_fill_53178_t14 w x1 m) := by
  unfold f_J7_fill_53178_t14
  refine go_blk h.1 (is := [.iconst 0, .istore_n 2, .aload_n 0]) (pc' := 3) (ls' := [some (.inr (.inr (14, w))), some (.inl x1), some (.inl (0 : Int32)), none]) (st' := [.inr (.inr (14, w))]) (m' := m) (by decide +kernel) rfl ?_
  refine go_alen h.1 (by decide +kernel) rfl rfl ?_
  show Go X (Em X puV) 4 [some (.inr (.inr (14, w))), some (.inl x1), some (.inl (0 : Int32)), none] [.inl (5 : Int32)] m _
  refine go_blk h.1 (is := [.istore_n 3]) (pc' := 5) (ls' := [some (.inr (.inr (14, w))), some (.inl x1), some (.inl (0 : Int32)), some (.inl (5 : Int32))]) (st' := []) (m' := m) (by decide +kernel) rfl ?_
  refine go_lp1 (hd := fun (y2 : Int32) (n : Mem) o => Go X (Em X puV) 5 [some (.inr (.inr (14, w))), some (.inl x1), some (.inl y2), some (.inl (5 : Int32))] [] n o) (fun _ _ => go_none) (fun y2 n nx_ hn_ => g_J7_fill_53178_t14_b5 h w x1 (5 : Int32) nx_ _ hn_ (fun z_5 o0_5 o1_5 o2_5 o3_5 => ?_) (y2, n)) fuelN (0 : Int32) m
  exact go_vret h.1 h.2.2.2.2 (by decide +kernel)
theorem ctr_J7_fill_53178_t14 (Z : ZT) (w : Nat) (x1 : Int32) (m : Mem) : Ctr Z yJ7_fill_53178 prog_11_method_103_code 4 none 0 puV [.inr (.inr (14, w)), .inl x1] m (f_J7_fill_53178_t14 w x1 m) :=
  ctr_of (P := P_J7) (by decide +kernel) rfl pt_J7 rfl rfl (fun X hC hZ hR h0 h1 hr => by subst hZ; exact g_J7_fill_53178_t14 ⟨hC, hR, h0, h1, hr⟩ w x1 m)

def f_X0_start_b41 (w : Nat) (next : Int32 × Mem → Option (Unit × Mem)) (exit : Mem → Option (Unit × Mem)) (s : Int32 × Mem) : Option (Unit × Mem) :=
  if (s.2 7 w 8) ≤ s.1 then
    exit (s.2)
  else
    if inB s.1 5 = true then
      if inB s.1 5 = true then
        if inB s.1 5 = true then
          if inB s.1 5 = true then
            if inB s.1 5 = true then
              if inB s.1 5 = true then
                if inB s.1 5 = true then
                  bnd (f_J7_fill_53178_t14 (5 * w + (ix s.1)) (0 : Int32) (mset (mset (mset (mset (mset s.2 8 w (ix s.1) (s.2 6 (ix s.1) 0)) 9 w (ix s.1) (s.2 6 (ix s.1) 1)) 10 w (ix s.1) (s.2 6 (ix s.1) 2)) 11 w (ix s.1) (s.2 6 (ix s.1) 3)) 12 w (ix s.1) (s.2 6 (ix s.1) 4))) (fun _ m113 =>
                    next ((s.1 + (1 : Int32)), m113))
                else none
              else none
            else none
          else none
        else none
      else none
    else none
theorem g_X0_start_b41 {X : XT} (h : MX X prog_2_method_2_code P_X0 1 none) (w : Nat) (next : Int32 × Mem → Option (Unit × Mem)) (exit : Mem → Option (Unit × Mem)) (hn : ∀ (y2 : Int32) (n : Mem) (o3 : Option AV), Go X (Em X puV) 41 [some (.inr (.inr (7, w))), some (.inr (.inr (4, 0))), some (.inl y2), o3] [] n (next (y2, n))) (hx : ∀ (n : Mem) (o0 : Option AV) (o1 : Option AV) (o2 : Option AV) (o3 : Option AV), Go X (Em X puV) 122 [o0, o1, o2, o3] [] n (exit (n))) (s : Int32 × Mem) (o3 : Option AV) : Go X (Em X puV) 41 [some (.inr (.inr (7, w))), some (.inr (.inr (4, 0))), some (.inl s.1), o3] [] s.2 (f_X0_start_b41 w next exit s) := by
  unfold f_X0_start_b41
  refine go_blk h.1 (is := [.iload_n 2, .aload_n 0, .getfield 44]) (pc' := 46) (ls' := [some (.inr (.inr (7, w))), some (.inr (.inr (4, 0))), some (.inl s.1), o3]) (st' := [.inl (s.2 7 w 8), .inl s.1]) (m' := s.2) (by decide +kernel) rfl ?_
  refine go_icmpge h.1 (off := 76) 122 (by decide +kernel) (by decide) (fun c46 => ?_) (fun c46 => ?_)
  · exact hx s.2 (some (.inr (.inr (7, w)))) (some (.inr (.inr (4, 0)))) (some (.inl s.1)) (o3)
  · refine go_blk h.1 (is := [.aload_n 1, .getfield 62, .iload_n 2]) (pc' := 54) (ls' := [some (.inr (.inr (7, w))), some (.inr (.inr (4, 0))), some (.inl s.1), o3]) (st' := [.inl s.1, .inr (.inr (5, 0))]) (m' := s.2) (by decide +kernel) rfl ?_
    refine go_aald h.1 (kd := 1) (z := (6, (ix s.1))) (by decide +kernel) rfl rfl (by decide) rfl (fun b54 => ?_)
    refine go_blk h.1 (is := [.astore_n 3, .aload_n 0, .getfield 9, .iload_n 2, .aload_n 3, .getfield 66]) (pc' := 65) (ls' := [some (.inr (.inr (7, w))), some (.inr (.inr (4, 0))), some (.inl s.1), some (.inr (.inr (6, (ix s.1))))]) (st' := [.inl (s.2 6 (ix s.1) 0), .inl s.1, .inr (.inr (8, w))]) (m' := s.2) (by decide +kernel) rfl ?_
    refine go_iast h.1 (by decide +kernel) rfl rfl (fun b65 => ?_)
    refine go_blk h.1 (is := [.aload_n 0, .getfield 15, .iload_n 2, .aload_n 3, .getfield 70]) (pc' := 75) (ls' := [some (.inr (.inr (7, w))), some (.inr (.inr (4, 0))), some (.inl s.1), some (.inr (.inr (6, (ix s.1))))]) (st' := [.inl (s.2 6 (ix s.1) 1), .inl s.1, .inr (.inr (9, w))]) (m' := (mset s.2 8 w (ix s.1) (s.2 6 (ix s.1) 0))) (by decide +kernel) rfl ?_
    refine go_iast h.1 (by decide +kernel) rfl rfl (fun b75 => ?_)
    refine go_blk h.1 (is := [.aload_n 0, .getfield 18, .iload_n 2, .aload_n 3, .getfield 72]) (pc' := 85) (ls' := [some (.inr (.inr (7, w))), some (.inr (.inr (4, 0))), some (.inl s.1), some (.inr (.inr (6, (ix s.1))))]) (st' := [.inl (s.2 6 (ix s.1) 2), .inl s.1, .inr (.inr (10, w))]) (m' := (mset (mset s.2 8 w (ix s.1) (s.2 6 (ix s.1) 0)) 9 w (ix s.1) (s.2 6 (ix s.1) 1))) (by decide +kernel) rfl ?_
    refine go_iast h.1 (by decide +kernel) rfl rfl (fun b85 => ?_)
    refine go_blk h.1 (is := [.aload_n 0, .getfield 21, .iload_n 2, .aload_n 3, .getfield 74]) (pc' := 95) (ls' := [some (.inr (.inr (7, w))), some (.inr (.inr (4, 0))), some (.inl s.1), some (.inr (.inr (6, (ix s.1))))]) (st' := [.inl (s.2 6 (ix s.1) 3), .inl s.1, .inr (.inr (11, w))]) (m' := (mset (mset (mset s.2 8 w (ix s.1) (s.2 6 (ix s.1) 0)) 9 w (ix s.1) (s.2 6 (ix s.1) 1)) 10 w (ix s.1) (s.2 6 (ix s.1) 2))) (by decide +kernel) rfl ?_
    refine go_iast h.1 (by decide +kernel) rfl rfl (fun b95 => ?_)
    refine go_blk h.1 (is := [.aload_n 0, .getfield 24, .iload_n 2, .aload_n 3, .getfield 76]) (pc' := 105) (ls' := [some (.inr (.inr (7, w))), some (.inr (.inr (4, 0))), some (.inl s.1), some (.inr (.inr (6, (ix s.1))))]) (st' := [.inl (s.2 6 (ix s.1) 4), .inl s.1, .inr (.inr (12, w))]) (m' := (mset (mset (mset (mset s.2 8 w (ix s.1) (s.2 6 (ix s.1) 0)) 9 w (ix s.1) (s.2 6 (ix s.1) 1)) 10 w (ix s.1) (s.2 6 (ix s.1) 2)) 11 w (ix s.1) (s.2 6 (ix s.1) 3))) (by decide +kernel) rfl ?_
    refine go_iast h.1 (by decide +kernel) rfl rfl (fun b105 => ?_)
    refine go_blk h.1 (is := [.aload_n 0, .getfield 29, .iload_n 2]) (pc' := 111) (ls' := [some (.inr (.inr (7, w))), some (.inr (.inr (4, 0))), some (.inl s.1), some (.inr (.inr (6, (ix s.1))))]) (st' := [.inl s.1, .inr (.inr (13, w))]) (m' := (mset (mset (mset (mset (mset s.2 8 w (ix s.1) (s.2 6 (ix s.1) 0)) 9 w (ix s.1) (s.2 6 (ix s.1) 1)) 10 w (ix s.1) (s.2 6 (ix s.1) 2)) 11 w (ix s.1) (s.2 6 (ix s.1) 3)) 12 w (ix s.1) (s.2 6 (ix s.1) 4))) (by decide +kernel) rfl ?_
    refine go_aald h.1 (kd := 2) (z := (14, (5 * w + (ix s.1)))) (by decide +kernel) rfl rfl (by decide) rfl (fun b111 => ?_)
    refine go_blk h.1 (is := [.iconst 0]) (pc' := 113) (ls' := [some (.inr (.inr (7, w))), some (.inr (.inr (4, 0))), some (.inl s.1), some (.inr (.inr (6, (ix s.1))))]) (st' := [.inl (0 : Int32), .inr (.inr (14, (5 * w + (ix s.1))))]) (m' := (mset (mset (mset (mset (mset s.2 8 w (ix s.1) (s.2 6 (ix s.1) 0)) 9 w (ix s.1) (s.2 6 (ix s.1) 1)) 10 w (ix s.1) (s.2 6 (ix s.1) 2)) 11 w (ix s.1) (s.2 6 (ix s.1) 3)) 12 w (ix s.1) (s.2 6 (ix s.1) 4))) (by decide +kernel) rfl ?_
    refine go_callS h.1 (index := 78) (n := 2) (as := [.inr (.inr (14, (5 * w + (ix s.1)))), .inl (0 : Int32)]) (rest := []) (ctr_J7_fill_53178_t14 (xZ X) (5 * w + (ix s.1)) (0 : Int32) (mset (mset (mset (mset (mset s.2 8 w (ix s.1) (s.2 6 (ix s.1) 0)) 9 w (ix s.1) (s.2 6 (ix s.1) 1)) 10 w (ix s.1) (s.2 6 (ix s.1) 2)) 11 w (ix s.1) (s.2 6 (ix s.1) 3)) 12 w (ix s.1) (s.2 6 (ix s.1) 4))) (by decide +kernel) wd_s_X0_78 rfl (h.room (by first | decide | omega) (by decide)) h.cl (Nat.le_of_ble_eq_true rfl) puV_ok rfl (fun r113 m113 _ => ?_)
    show Go X (Em X puV) 116 [some (.inr (.inr (7, w))), some (.inr (.inr (4, 0))), some (.inl s.1), some (.inr (.inr (6, (ix s.1))))] [] m113 _
    refine go_blk h.1 (is := [.iinc 2 1]) (pc' := 119) (ls' := [some (.inr (.inr (7, w))), some (.inr (.inr (4, 0))), some (.inl (s.1 + (1 : Int32))), some (.inr (.inr (6, (ix s.1))))]) (st' := []) (m' := m113) (by decide +kernel) rfl ?_
    refine go_goto h.1 (off := -78) 41 (by decide +kernel) (by decide) ?_
    exact hn (s.1 + (1 : Int32)) m113 (some (.inr (.inr (6, (ix s.1)))))

def f_X0_start (w : Nat) (m : Mem) : Option (Unit × Mem) :=
  lpk (f_X0_start_b41 w) fuelN ((0 : Int32), (mset (mset (mset (mset (mset (mset m 7 w 8 (m 4 0 1)) 7 w 9 (m 4 0 2)) 7 w 10 (m 4 0 3)) 7 w 11 (0 : Int32)) 7 w 12 (0 : Int32)) 7 w 13 (0 : Int32))) (fun t41 =>
    some ((), t41))
theorem g_X0_start {X : XT} (h : MX X prog_2_method_2_code P_X0 1 none) (w : Nat) (m : Mem) : Go X (Em X puV) 0 [some (.inr (.inr (7, w))), some (.inr (.inr (4, 0))), none, none] [] m (f_X0_start w m) := by
  unfold f_X0_start
  refine go_blk h.1 (is := [.aload_n 0, .aload_n 1, .getfield 38, .putfield 44, .aload_n 0, .aload_n 1, .getfield 45, .putfield 48, .aload_n 0, .aload_n 1, .getfield 49, .putfield 52, .aload_n 0, .iconst 0, .putfield 53, .aload_n 0, .iconst 0, .putfield 56, .aload_n 0, .iconst 0, .putfield 59, .iconst 0, .istore_n 2]) (pc' := 41) (ls' := [some (.inr (.inr (7, w))), some (.inr (.inr (4, 0))), some (.inl (0 : Int32)), none]) (st' := []) (m' := (mset (mset (mset (mset (mset (mset m 7 w 8 (m 4 0 1)) 7 w 9 (m 4 0 2)) 7 w 10 (m 4 0 3)) 7 w 11 (0 : Int32)) 7 w 12 (0 : Int32)) 7 w 13 (0 : Int32))) (by decide +kernel) rfl ?_
  refine go_lp1 (hd := fun (y2 : Int32) (n : Mem) o => ∀ (o3 : Option AV), Go X (Em X puV) 41 [some (.inr (.inr (7, w))), some (.inr (.inr (4, 0))), some (.inl y2), o3] [] n o) (fun _ _ _ => go_none) (fun y2 n nx_ hn_ => g_X0_start_b41 h w nx_ _ hn_ (fun z_41 o0_41 o1_41 o2_41 o3_41 => ?_) (y2, n)) fuelN (0 : Int32) (mset (mset (mset (mset (mset (mset m 7 w 8 (m 4 0 1)) 7 w 9 (m 4 0 2)) 7 w 10 (m 4 0 3)) 7 w 11 (0 : Int32)) 7 w 12 (0 : Int32)) 7 w 13 (0 : Int32)) (none)
  exact go_vret h.1 h.2.2.2.2 (by decide +kernel)
theorem ctr_X0_start (Z : ZT) (w : Nat) (m : Mem) : Ctr Z yX0_start prog_2_method_2_code 4 none 1 puV [.inr (.inr (7, w)), .inr (.inr (4, 0))] m (f_X0_start w m) :=
  ctr_of (P := P_X0) (by decide +kernel) rfl pt_X0 rfl rfl (fun X hC hZ hR h0 h1 hr => by subst hZ; exact g_X0_start ⟨hC, hR, h0, h1, hr⟩ w m)

def f_X0_isBelow (w : Nat) (x1 : Int32) (m : Mem) : Option (Int32 × Mem) :=
  if (((m 7 w 12) >>> (x1 &&& 31)) &&& (1 : Int32)) = 0 then
    some ((1 : Int32), m)
  else
    some ((0 : Int32), m)
theorem g_X0_isBelow {X : XT} (h : MX X prog_2_method_13_code P_X0 0 (some .boolean)) (w : Nat) (x1 : Int32) (m : Mem) : Go X (Em X puI) 0 [some (.inr (.inr (7, w))), some (.inl x1)] [] m (f_X0_isBelow w x1 m) := by
  unfold f_X0_isBelow
  refine go_blk h.1 (is := [.aload_n 0, .getfield 56, .iload_n 1, .ishr, .iconst 1, .iand]) (pc' := 8) (ls' := [some (.inr (.inr (7, w))), some (.inl x1)]) (st' := [.inl (((m 7 w 12) >>> (x1 &&& 31)) &&& (1 : Int32))]) (m' := m) (by decide +kernel) rfl ?_
  refine go_ifne h.1 (off := 7) 15 (by decide +kernel) (by decide) (fun c8 => ?_) (fun c8 => ?_)
  · refine go_blk h.1 (is := [.iconst 0]) (pc' := 16) (ls' := [some (.inr (.inr (7, w))), some (.inl x1)]) (st' := [.inl (0 : Int32)]) (m' := m) (by decide +kernel) rfl ?_
    exact go_zret h.1 h.2.2.2.2 (Or.inl rfl) (by decide +kernel)
  · refine go_blk h.1 (is := [.iconst 1]) (pc' := 12) (ls' := [some (.inr (.inr (7, w))), some (.inl x1)]) (st' := [.inl (1 : Int32)]) (m' := m) (by decide +kernel) rfl ?_
    refine go_goto h.1 (off := 4) 16 (by decide +kernel) (by decide) ?_
    exact go_zret h.1 h.2.2.2.2 (Or.inr rfl) (by decide +kernel)
theorem ctr_X0_isBelow (Z : ZT) (w : Nat) (x1 : Int32) (m : Mem) : Ctr Z yX0_isBelow prog_2_method_13_code 2 (some .boolean) 0 puI [.inr (.inr (7, w)), .inl x1] m (f_X0_isBelow w x1 m) :=
  ctr_of (P := P_X0) (by decide +kernel) rfl pt_X0 rfl rfl (fun X hC hZ hR h0 h1 hr => by subst hZ; exact g_X0_isBelow ⟨hC, hR, h0, h1, hr⟩ w x1 m)

def f_X0_tollOf_j31 (w : Nat) (s0 : Int32) (s1 : Int32) (x1 : Int32) (m : Mem) : Option (Int32 × Mem) :=
  if (((m 7 w 11) >>> (x1 &&& 31)) &&& (1 : Int32)) = (1 : Int32) then
    some (((2 : Int32) * (s1 + s0)), m)
  else
    some ((s1 + s0), m)
theorem g_X0_tollOf_j31 {X : XT} (h : MX X prog_2_method_12_code P_X0 1 (some .int)) (w : Nat) (s0 : Int32) (s1 : Int32) (x1 : Int32) (m : Mem) (o2 : Option AV) : Go X (Em X puI) 31 [some (.inr (.inr (7, w))), some (.inl x1), o2] [.inl s0, .inl s1] m (f_X0_tollOf_j31 w s0 s1 x1 m) := by
  unfold f_X0_tollOf_j31
  refine go_blk h.1 (is := [.iadd, .istore_n 2, .aload_n 0, .getfield 53, .iload_n 1, .ishr, .iconst 1, .iand, .iconst 1]) (pc' := 42) (ls' := [some (.inr (.inr (7, w))), some (.inl x1), some (.inl (s1 + s0))]) (st' := [.inl (1 : Int32), .inl (((m 7 w 11) >>> (x1 &&& 31)) &&& (1 : Int32))]) (m' := m) (by decide +kernel) rfl ?_
  refine go_icmpne h.1 (off := 9) 51 (by decide +kernel) (by decide) (fun c42 => ?_) (fun c42 => ?_)
  · refine go_blk h.1 (is := [.iload_n 2]) (pc' := 52) (ls' := [some (.inr (.inr (7, w))), some (.inl x1), some (.inl (s1 + s0))]) (st' := [.inl (s1 + s0)]) (m' := m) (by decide +kernel) rfl ?_
    exact go_iret h.1 h.2.2.2.2 (by decide +kernel)
  · refine go_blk h.1 (is := [.iconst 2, .iload_n 2, .imul]) (pc' := 48) (ls' := [some (.inr (.inr (7, w))), some (.inl x1), some (.inl (s1 + s0))]) (st' := [.inl ((2 : Int32) * (s1 + s0))]) (m' := m) (by decide +kernel) rfl ?_
    refine go_goto h.1 (off := 4) 52 (by decide +kernel) (by decide) ?_
    exact go_iret h.1 h.2.2.2.2 (by decide +kernel)

def f_X0_tollOf (w : Nat) (x1 : Int32) (m : Mem) : Option (Int32 × Mem) :=
  if inB x1 5 = true then
    if inB x1 5 = true then
      bnd (f_X6_shareOf (m 8 w (ix x1)) (m 9 w (ix x1)) m) (fun r12 m12 =>
        bnd (f_X0_isBelow w x1 m12) (fun r17 m17 =>
          if r17 = 0 then
            f_X0_tollOf_j31 w (0 : Int32) r12 x1 m17
          else
            f_X0_tollOf_j31 w (m17 7 w 9) r12 x1 m17))
    else none
  else none
theorem g_X0_tollOf {X : XT} (h : MX X prog_2_method_12_code P_X0 1 (some .int)) (w : Nat) (x1 : Int32) (m : Mem) : Go X (Em X puI) 0 [some (.inr (.inr (7, w))), some (.inl x1), none] [] m (f_X0_tollOf w x1 m) := by
  unfold f_X0_tollOf
  refine go_blk h.1 (is := [.aload_n 0, .getfield 9, .iload_n 1]) (pc' := 5) (ls' := [some (.inr (.inr (7, w))), some (.inl x1), none]) (st' := [.inl x1, .inr (.inr (8, w))]) (m' := m) (by decide +kernel) rfl ?_
  refine go_iald h.1 (by decide +kernel) rfl rfl (fun b5 => ?_)
  show Go X (Em X puI) 6 [some (.inr (.inr (7, w))), some (.inl x1), none] [.inl (m 8 w (ix x1))] m _
  refine go_blk h.1 (is := [.aload_n 0, .getfield 15, .iload_n 1]) (pc' := 11) (ls' := [some (.inr (.inr (7, w))), some (.inl x1), none]) (st' := [.inl x1, .inr (.inr (9, w)), .inl (m 8 w (ix x1))]) (m' := m) (by decide +kernel) rfl ?_
  refine go_iald h.1 (by decide +kernel) rfl rfl (fun b11 => ?_)
  show Go X (Em X puI) 12 [some (.inr (.inr (7, w))), some (.inl x1), none] [.inl (m 9 w (ix x1)), .inl (m 8 w (ix x1))] m _
  refine go_callN h.1 (index := 118) (n := 2) (as := [.inl (m 8 w (ix x1)), .inl (m 9 w (ix x1))]) (rest := []) (ctr_X6_shareOf (xZ X) (m 8 w (ix x1)) (m 9 w (ix x1)) m) (by decide +kernel) wd_n_X0_118 rfl (h.room (by first | decide | omega) (by decide)) h.cl (Nat.le_of_ble_eq_true rfl) puI_ok rfl (fun r12 m12 _ => ?_)
  show Go X (Em X puI) 15 [some (.inr (.inr (7, w))), some (.inl x1), none] [.inl r12] m12 _
  refine go_blk h.1 (is := [.aload_n 0, .iload_n 1]) (pc' := 17) (ls' := [some (.inr (.inr (7, w))), some (.inl x1), none]) (st' := [.inl x1, .inr (.inr (7, w)), .inl r12]) (m' := m12) (by decide +kernel) rfl ?_
  refine go_callV h.1 (index := 121) (n := 1) (t := 7) (i := w) (ci := 0) (nf := 14) (cz := (RX0, TX0, 14)) (as := [.inl x1]) (rest := [.inl r12]) (ctr_X0_isBelow (xZ X) w x1 m12) (by decide +kernel) rfl rfl wd_v_X0_121 rfl (h.room (by first | decide | omega) (by decide)) h.cl (Nat.le_of_ble_eq_true rfl) puI_ok rfl (fun r17 m17 _ => ?_)
  show Go X (Em X puI) 20 [some (.inr (.inr (7, w))), some (.inl x1), none] [.inl r17, .inl r12] m17 _
  refine go_ifeq h.1 (off := 10) 30 (by decide +kernel) (by decide) (fun c20 => ?_) (fun c20 => ?_)
  · refine go_blk h.1 (is := [.iconst 0]) (pc' := 31) (ls' := [some (.inr (.inr (7, w))), some (.inl x1), none]) (st' := [.inl (0 : Int32), .inl r12]) (m' := m17) (by decide +kernel) rfl ?_
    exact g_X0_tollOf_j31 h w (0 : Int32) r12 x1 m17 (none)
  · refine go_blk h.1 (is := [.aload_n 0, .getfield 48]) (pc' := 27) (ls' := [some (.inr (.inr (7, w))), some (.inl x1), none]) (st' := [.inl (m17 7 w 9), .inl r12]) (m' := m17) (by decide +kernel) rfl ?_
    refine go_goto h.1 (off := 4) 31 (by decide +kernel) (by decide) ?_
    exact g_X0_tollOf_j31 h w (m17 7 w 9) r12 x1 m17 (none)
theorem ctr_X0_tollOf (Z : ZT) (w : Nat) (x1 : Int32) (m : Mem) : Ctr Z yX0_tollOf prog_2_method_12_code 3 (some .int) 1 puI [.inr (.inr (7, w)), .inl x1] m (f_X0_tollOf w x1 m) :=
  ctr_of (P := P_X0) (by decide +kernel) rfl pt_X0 rfl rfl (fun X hC hZ hR h0 h1 hr => by subst hZ; exact g_X0_tollOf ⟨hC, hR, h0, h1, hr⟩ w x1 m)

def f_X0_hasNewSong (w : Nat) (x1 : Int32) (m : Mem) : Option (Int32 × Mem) :=
  if inB x1 5 = true then
    if (6 : Int32) ≤ (m 11 w (ix x1)) then
      some ((0 : Int32), m)
    else
      if inB x1 5 = true then
        if (((m 7 w 10) >>> ((m 11 w (ix x1)) &&& 31)) &&& (1 : Int32)) = 0 then
          some ((1 : Int32), m)
        else
          some ((0 : Int32), m)
      else none
  else none
theorem g_X0_hasNewSong {X : XT} (h : MX X prog_2_method_9_code P_X0 0 (some .boolean)) (w : Nat) (x1 : Int32) (m : Mem) : Go X (Em X puI) 0 [some (.inr (.inr (7, w))), some (.inl x1)] [] m (f_X0_hasNewSong w x1 m) := by
  unfold f_X0_hasNewSong
  refine go_blk h.1 (is := [.aload_n 0, .getfield 21, .iload_n 1]) (pc' := 5) (ls' := [some (.inr (.inr (7, w))), some (.inl x1)]) (st' := [.inl x1, .inr (.inr (11, w))]) (m' := m) (by decide +kernel) rfl ?_
  refine go_iald h.1 (by decide +kernel) rfl rfl (fun b5 => ?_)
  show Go X (Em X puI) 6 [some (.inr (.inr (7, w))), some (.inl x1)] [.inl (m 11 w (ix x1))] m _
  refine go_blk h.1 (is := [.bipush 6]) (pc' := 8) (ls' := [some (.inr (.inr (7, w))), some (.inl x1)]) (st' := [.inl (6 : Int32), .inl (m 11 w (ix x1))]) (m' := m) (by decide +kernel) rfl ?_
  refine go_icmpge h.1 (off := 23) 31 (by decide +kernel) (by decide) (fun c8 => ?_) (fun c8 => ?_)
  · refine go_blk h.1 (is := [.iconst 0]) (pc' := 32) (ls' := [some (.inr (.inr (7, w))), some (.inl x1)]) (st' := [.inl (0 : Int32)]) (m' := m) (by decide +kernel) rfl ?_
    exact go_zret h.1 h.2.2.2.2 (Or.inl rfl) (by decide +kernel)
  · refine go_blk h.1 (is := [.aload_n 0, .getfield 52, .aload_n 0, .getfield 21, .iload_n 1]) (pc' := 20) (ls' := [some (.inr (.inr (7, w))), some (.inl x1)]) (st' := [.inl x1, .inr (.inr (11, w)), .inl (m 7 w 10)]) (m' := m) (by decide +kernel) rfl ?_
    refine go_iald h.1 (by decide +kernel) rfl rfl (fun b20 => ?_)
    show Go X (Em X puI) 21 [some (.inr (.inr (7, w))), some (.inl x1)] [.inl (m 11 w (ix x1)), .inl (m 7 w 10)] m _
    refine go_blk h.1 (is := [.ishr, .iconst 1, .iand]) (pc' := 24) (ls' := [some (.inr (.inr (7, w))), some (.inl x1)]) (st' := [.inl (((m 7 w 10) >>> ((m 11 w (ix x1)) &&& 31)) &&& (1 : Int32))]) (m' := m) (by decide +kernel) rfl ?_
    refine go_ifne h.1 (off := 7) 31 (by decide +kernel) (by decide) (fun c24 => ?_) (fun c24 => ?_)
    · refine go_blk h.1 (is := [.iconst 0]) (pc' := 32) (ls' := [some (.inr (.inr (7, w))), some (.inl x1)]) (st' := [.inl (0 : Int32)]) (m' := m) (by decide +kernel) rfl ?_
      exact go_zret h.1 h.2.2.2.2 (Or.inl rfl) (by decide +kernel)
    · refine go_blk h.1 (is := [.iconst 1]) (pc' := 28) (ls' := [some (.inr (.inr (7, w))), some (.inl x1)]) (st' := [.inl (1 : Int32)]) (m' := m) (by decide +kernel) rfl ?_
      refine go_goto h.1 (off := 4) 32 (by decide +kernel) (by decide) ?_
      exact go_zret h.1 h.2.2.2.2 (Or.inr rfl) (by decide +kernel)
theorem ctr_X0_hasNewSong (Z : ZT) (w : Nat) (x1 : Int32) (m : Mem) : Ctr Z yX0_hasNewSong prog_2_method_9_code 2 (some .boolean) 0 puI [.inr (.inr (7, w)), .inl x1] m (f_X0_hasNewSong w x1 m) :=
  ctr_of (P := P_X0) (by decide +kernel) rfl pt_X0 rfl rfl (fun X hC hZ hR h0 h1 hr => by subst hZ; exact g_X0_hasNewSong ⟨hC, hR, h0, h1, hr⟩ w x1 m)

def f_X0_hasSecret (w : Nat) (x1 : Int32) (m : Mem) : Option (Int32 × Mem) :=
  if inB x1 5 = true then
    if (m 12 w (ix x1)) = x1 then
      some ((0 : Int32), m)
    else
      if inB x1 5 = true then
        if (m 7 w 8) ≤ (m 12 w (ix x1)) then
          some ((0 : Int32), m)
        else
          if inB x1 5 = true then
            if (((m 7 w 11) >>> ((m 12 w (ix x1)) &&& 31)) &&& (1 : Int32)) = 0 then
              some ((1 : Int32), m)
            else
              some ((0 : Int32), m)
          else none
      else none
  else none
theorem g_X0_hasSecret {X : XT} (h : MX X prog_2_method_10_code P_X0 0 (some .boolean)) (w : Nat) (x1 : Int32) (m : Mem) : Go X (Em X puI) 0 [some (.inr (.inr (7, w))), some (.inl x1)] [] m (f_X0_hasSecret w x1 m) := by
  unfold f_X0_hasSecret
  refine go_blk h.1 (is := [.aload_n 0, .getfield 24, .iload_n 1]) (pc' := 5) (ls' := [some (.inr (.inr (7, w))), some (.inl x1)]) (st' := [.inl x1, .inr (.inr (12, w))]) (m' := m) (by decide +kernel) rfl ?_
  refine go_iald h.1 (by decide +kernel) rfl rfl (fun b5 => ?_)
  show Go X (Em X puI) 6 [some (.inr (.inr (7, w))), some (.inl x1)] [.inl (m 12 w (ix x1))] m _
  refine go_blk h.1 (is := [.iload_n 1]) (pc' := 7) (ls' := [some (.inr (.inr (7, w))), some (.inl x1)]) (st' := [.inl x1, .inl (m 12 w (ix x1))]) (m' := m) (by decide +kernel) rfl ?_
  refine go_icmpeq h.1 (off := 36) 43 (by decide +kernel) (by decide) (fun c7 => ?_) (fun c7 => ?_)
  · refine go_blk h.1 (is := [.iconst 0]) (pc' := 44) (ls' := [some (.inr (.inr (7, w))), some (.inl x1)]) (st' := [.inl (0 : Int32)]) (m' := m) (by decide +kernel) rfl ?_
    exact go_zret h.1 h.2.2.2.2 (Or.inl rfl) (by decide +kernel)
  · refine go_blk h.1 (is := [.aload_n 0, .getfield 24, .iload_n 1]) (pc' := 15) (ls' := [some (.inr (.inr (7, w))), some (.inl x1)]) (st' := [.inl x1, .inr (.inr (12, w))]) (m' := m) (by decide +kernel) rfl ?_
    refine go_iald h.1 (by decide +kernel) rfl rfl (fun b15 => ?_)
    show Go X (Em X puI) 16 [some (.inr (.inr (7, w))), some (.inl x1)] [.inl (m 12 w (ix x1))] m _
    refine go_blk h.1 (is := [.aload_n 0, .getfield 44]) (pc' := 20) (ls' := [some (.inr (.inr (7, w))), some (.inl x1)]) (st' := [.inl (m 7 w 8), .inl (m 12 w (ix x1))]) (m' := m) (by decide +kernel) rfl ?_
    refine go_icmpge h.1 (off := 23) 43 (by decide +kernel) (by decide) (fun c20 => ?_) (fun c20 => ?_)
    · refine go_blk h.1 (is := [.iconst 0]) (pc' := 44) (ls' := [some (.inr (.inr (7, w))), some (.inl x1)]) (st' := [.inl (0 : Int32)]) (m' := m) (by decide +kernel) rfl ?_
      exact go_zret h.1 h.2.2.2.2 (Or.inl rfl) (by decide +kernel)
    · refine go_blk h.1 (is := [.aload_n 0, .getfield 53, .aload_n 0, .getfield 24, .iload_n 1]) (pc' := 32) (ls' := [some (.inr (.inr (7, w))), some (.inl x1)]) (st' := [.inl x1, .inr (.inr (12, w)), .inl (m 7 w 11)]) (m' := m) (by decide +kernel) rfl ?_
      refine go_iald h.1 (by decide +kernel) rfl rfl (fun b32 => ?_)
      show Go X (Em X puI) 33 [some (.inr (.inr (7, w))), some (.inl x1)] [.inl (m 12 w (ix x1)), .inl (m 7 w 11)] m _
      refine go_blk h.1 (is := [.ishr, .iconst 1, .iand]) (pc' := 36) (ls' := [some (.inr (.inr (7, w))), some (.inl x1)]) (st' := [.inl (((m 7 w 11) >>> ((m 12 w (ix x1)) &&& 31)) &&& (1 : Int32))]) (m' := m) (by decide +kernel) rfl ?_
      refine go_ifne h.1 (off := 7) 43 (by decide +kernel) (by decide) (fun c36 => ?_) (fun c36 => ?_)
      · refine go_blk h.1 (is := [.iconst 0]) (pc' := 44) (ls' := [some (.inr (.inr (7, w))), some (.inl x1)]) (st' := [.inl (0 : Int32)]) (m' := m) (by decide +kernel) rfl ?_
        exact go_zret h.1 h.2.2.2.2 (Or.inl rfl) (by decide +kernel)
      · refine go_blk h.1 (is := [.iconst 1]) (pc' := 40) (ls' := [some (.inr (.inr (7, w))), some (.inl x1)]) (st' := [.inl (1 : Int32)]) (m' := m) (by decide +kernel) rfl ?_
        refine go_goto h.1 (off := 4) 44 (by decide +kernel) (by decide) ?_
        exact go_zret h.1 h.2.2.2.2 (Or.inr rfl) (by decide +kernel)
theorem ctr_X0_hasSecret (Z : ZT) (w : Nat) (x1 : Int32) (m : Mem) : Ctr Z yX0_hasSecret prog_2_method_10_code 2 (some .boolean) 0 puI [.inr (.inr (7, w)), .inl x1] m (f_X0_hasSecret w x1 m) :=
  ctr_of (P := P_X0) (by decide +kernel) rfl pt_X0 rfl rfl (fun X hC hZ hR h0 h1 hr => by subst hZ; exact g_X0_hasSecret ⟨hC, hR, h0, h1, hr⟩ w x1 m)

def f_X0_lenderFor_j36 (w : Nat) (next : Int32 × Mem → Option (Int32 × Mem)) (exit : Mem → Option (Int32 × Mem)) (x1 : Int32) (x2 : Int32) (x3 : Int32) (m : Mem) : Option (Int32 × Mem) :=
  next ((x3 + (1 : Int32)), m)
theorem g_X0_lenderFor_j36 {X : XT} (h : MX X prog_2_method_11_code P_X0 0 (some .int)) (w : Nat) (next : Int32 × Mem → Option (Int32 × Mem)) (exit : Mem → Option (Int32 × Mem)) (x1 : Int32) (x2 : Int32) (x3 : Int32) (m : Mem) (hn : ∀ (y3 : Int32) (n : Mem), Go X (Em X puI) 2 [some (.inr (.inr (7, w))), some (.inl x1), some (.inl x2), some (.inl y3)] [] n (next (y3, n))) (hx : ∀ (n : Mem) (o0 : Option AV) (o1 : Option AV) (o2 : Option AV) (o3 : Option AV), Go X (Em X puI) 42 [o0, o1, o2, o3] [] n (exit (n))) : Go X (Em X puI) 36 [some (.inr (.inr (7, w))), some (.inl x1), some (.inl x2), some (.inl x3)] [] m (f_X0_lenderFor_j36 w next exit x1 x2 x3 m) := by
  unfold f_X0_lenderFor_j36
  refine go_blk h.1 (is := [.iinc 3 1]) (pc' := 39) (ls' := [some (.inr (.inr (7, w))), some (.inl x1), some (.inl x2), some (.inl (x3 + (1 : Int32)))]) (st' := []) (m' := m) (by decide +kernel) rfl ?_
  refine go_goto h.1 (off := -37) 2 (by decide +kernel) (by decide) ?_
  exact hn (x3 + (1 : Int32)) m

def f_X0_lenderFor_b2 (w : Nat) (x1 : Int32) (x2 : Int32) (next : Int32 × Mem → Option (Int32 × Mem)) (exit : Mem → Option (Int32 × Mem)) (s : Int32 × Mem) : Option (Int32 × Mem) :=
  if (s.2 7 w 8) ≤ s.1 then
    exit (s.2)
  else
    if s.1 = x1 then
      f_X0_lenderFor_j36 w next exit x1 x2 s.1 s.2
    else
      if inB s.1 5 = true then
        if (s.2 8 w (ix s.1)) = 0 then
          f_X0_lenderFor_j36 w next exit x1 x2 s.1 s.2
        else
          if inB s.1 5 = true then
            if (s.2 10 w (ix s.1)) < x2 then
              f_X0_lenderFor_j36 w next exit x1 x2 s.1 s.2
            else
              some (s.1, s.2)
          else none
      else none
theorem g_X0_lenderFor_b2 {X : XT} (h : MX X prog_2_method_11_code P_X0 0 (some .int)) (w : Nat) (x1 : Int32) (x2 : Int32) (next : Int32 × Mem → Option (Int32 × Mem)) (exit : Mem → Option (Int32 × Mem)) (hn : ∀ (y3 : Int32) (n : Mem), Go X (Em X puI) 2 [some (.inr (.inr (7, w))), some (.inl x1), some (.inl x2), some (.inl y3)] [] n (next (y3, n))) (hx : ∀ (n : Mem) (o0 : Option AV) (o1 : Option AV) (o2 : Option AV) (o3 : Option AV), Go X (Em X puI) 42 [o0, o1, o2, o3] [] n (exit (n))) (s : Int32 × Mem) : Go X (Em X puI) 2 [some (.inr (.inr (7, w))), some (.inl x1), some (.inl x2), some (.inl s.1)] [] s.2 (f_X0_lenderFor_b2 w x1 x2 next exit s) := by
  unfold f_X0_lenderFor_b2
  refine go_blk h.1 (is := [.iload_n 3, .aload_n 0, .getfield 44]) (pc' := 7) (ls' := [some (.inr (.inr (7, w))), some (.inl x1), some (.inl x2), some (.inl s.1)]) (st' := [.inl (s.2 7 w 8), .inl s.1]) (m' := s.2) (by decide +kernel) rfl ?_
  refine go_icmpge h.1 (off := 35) 42 (by decide +kernel) (by decide) (fun c7 => ?_) (fun c7 => ?_)
  · exact hx s.2 (some (.inr (.inr (7, w)))) (some (.inl x1)) (some (.inl x2)) (some (.inl s.1))
  · refine go_blk h.1 (is := [.iload_n 3, .iload_n 1]) (pc' := 12) (ls' := [some (.inr (.inr (7, w))), some (.inl x1), some (.inl x2), some (.inl s.1)]) (st' := [.inl x1, .inl s.1]) (m' := s.2) (by decide +kernel) rfl ?_
    refine go_icmpeq h.1 (off := 24) 36 (by decide +kernel) (by decide) (fun c12 => ?_) (fun c12 => ?_)
    · exact g_X0_lenderFor_j36 h w next exit x1 x2 s.1 s.2 hn hx
    · refine go_blk h.1 (is := [.aload_n 0, .getfield 9, .iload_n 3]) (pc' := 20) (ls' := [some (.inr (.inr (7, w))), some (.inl x1), some (.inl x2), some (.inl s.1)]) (st' := [.inl s.1, .inr (.inr (8, w))]) (m' := s.2) (by decide +kernel) rfl ?_
      refine go_iald h.1 (by decide +kernel) rfl rfl (fun b20 => ?_)
      show Go X (Em X puI) 21 [some (.inr (.inr (7, w))), some (.inl x1), some (.inl x2), some (.inl s.1)] [.inl (s.2 8 w (ix s.1))] s.2 _
      refine go_ifeq h.1 (off := 15) 36 (by decide +kernel) (by decide) (fun c21 => ?_) (fun c21 => ?_)
      · exact g_X0_lenderFor_j36 h w next exit x1 x2 s.1 s.2 hn hx
      · refine go_blk h.1 (is := [.aload_n 0, .getfield 18, .iload_n 3]) (pc' := 29) (ls' := [some (.inr (.inr (7, w))), some (.inl x1), some (.inl x2), some (.inl s.1)]) (st' := [.inl s.1, .inr (.inr (10, w))]) (m' := s.2) (by decide +kernel) rfl ?_
        refine go_iald h.1 (by decide +kernel) rfl rfl (fun b29 => ?_)
        show Go X (Em X puI) 30 [some (.inr (.inr (7, w))), some (.inl x1), some (.inl x2), some (.inl s.1)] [.inl (s.2 10 w (ix s.1))] s.2 _
        refine go_blk h.1 (is := [.iload_n 2]) (pc' := 31) (ls' := [some (.inr (.inr (7, w))), some (.inl x1), some (.inl x2), some (.inl s.1)]) (st' := [.inl x2, .inl (s.2 10 w (ix s.1))]) (m' := s.2) (by decide +kernel) rfl ?_
        refine go_icmplt h.1 (off := 5) 36 (by decide +kernel) (by decide) (fun c31 => ?_) (fun c31 => ?_)
        · exact g_X0_lenderFor_j36 h w next exit x1 x2 s.1 s.2 hn hx
        · refine go_blk h.1 (is := [.iload_n 3]) (pc' := 35) (ls' := [some (.inr (.inr (7, w))), some (.inl x1), some (.inl x2), some (.inl s.1)]) (st' := [.inl s.1]) (m' := s.2) (by decide +kernel) rfl ?_
          exact go_iret h.1 h.2.2.2.2 (by decide +kernel)

def f_X0_lenderFor (w : Nat) (x1 : Int32) (x2 : Int32) (m : Mem) : Option (Int32 × Mem) :=
  lpk (f_X0_lenderFor_b2 w x1 x2) fuelN ((0 : Int32), m) (fun t2 =>
    some ((-2 : Int32), t2))
theorem g_X0_lenderFor {X : XT} (h : MX X prog_2_method_11_code P_X0 0 (some .int)) (w : Nat) (x1 : Int32) (x2 : Int32) (m : Mem) : Go X (Em X puI) 0 [some (.inr (.inr (7, w))), some (.inl x1), some (.inl x2), none] [] m (f_X0_lenderFor w x1 x2 m) := by
  unfold f_X0_lenderFor
  refine go_blk h.1 (is := [.iconst 0, .istore_n 3]) (pc' := 2) (ls' := [some (.inr (.inr (7, w))), some (.inl x1), some (.inl x2), some (.inl (0 : Int32))]) (st' := []) (m' := m) (by decide +kernel) rfl ?_
  refine go_lp1 (hd := fun (y3 : Int32) (n : Mem) o => Go X (Em X puI) 2 [some (.inr (.inr (7, w))), some (.inl x1), some (.inl x2), some (.inl y3)] [] n o) (fun _ _ => go_none) (fun y3 n nx_ hn_ => g_X0_lenderFor_b2 h w x1 x2 nx_ _ hn_ (fun z_2 o0_2 o1_2 o2_2 o3_2 => ?_) (y3, n)) fuelN (0 : Int32) m
  refine go_blk h.1 (is := [.bipush (-2)]) (pc' := 44) (ls' := [o0_2, o1_2, o2_2, o3_2]) (st' := [.inl (-2 : Int32)]) (m' := z_2) (by decide +kernel) rfl ?_
  exact go_iret h.1 h.2.2.2.2 (by decide +kernel)
theorem ctr_X0_lenderFor (Z : ZT) (w : Nat) (x1 : Int32) (x2 : Int32) (m : Mem) : Ctr Z yX0_lenderFor prog_2_method_11_code 4 (some .int) 0 puI [.inr (.inr (7, w)), .inl x1, .inl x2] m (f_X0_lenderFor w x1 x2 m) :=
  ctr_of (P := P_X0) (by decide +kernel) rfl pt_X0 rfl rfl (fun X hC hZ hR h0 h1 hr => by subst hZ; exact g_X0_lenderFor ⟨hC, hR, h0, h1, hr⟩ w x1 x2 m)

def f_X0_payerOf (w : Nat) (x1 : Int32) (x2 : Int32) (m : Mem) : Option (Int32 × Mem) :=
  if x1 < 0 then
    some ((-2 : Int32), m)
  else
    if x1 < (m 7 w 8) then
      bnd (f_X0_tollOf w x1 m) (fun r17 m17 =>
        if x2 = (0 : Int32) then
          if inB x1 5 = true then
            if (m17 10 w (ix x1)) < r17 then
              some ((-2 : Int32), m17)
            else
              some (x1, m17)
          else none
        else
          if x2 = (1 : Int32) then
            bnd (f_X0_hasNewSong w x1 m17) (fun r71 m71 =>
              if r71 = 0 then
                some ((-2 : Int32), m71)
              else
                some ((-1 : Int32), m71))
          else
            if x2 = (2 : Int32) then
              bnd (f_X0_hasSecret w x1 m17) (fun r86 m86 =>
                if r86 = 0 then
                  some ((-2 : Int32), m86)
                else
                  some ((-1 : Int32), m86))
            else
              if x2 = (3 : Int32) then
                bnd (f_X0_lenderFor w x1 r17 m17) (fun r102 m102 =>
                  some (r102, m102))
              else
                some ((-2 : Int32), m17))
    else
      some ((-2 : Int32), m)
theorem g_X0_payerOf {X : XT} (h : MX X prog_2_method_6_code P_X0 2 (some .int)) (w : Nat) (x1 : Int32) (x2 : Int32) (m : Mem) : Go X (Em X puI) 0 [some (.inr (.inr (7, w))), some (.inl x1), some (.inl x2), none] [] m (f_X0_payerOf w x1 x2 m) := by
  unfold f_X0_payerOf
  refine go_blk h.1 (is := [.iload_n 1]) (pc' := 1) (ls' := [some (.inr (.inr (7, w))), some (.inl x1), some (.inl x2), none]) (st' := [.inl x1]) (m' := m) (by decide +kernel) rfl ?_
  refine go_iflt h.1 (off := 11) 12 (by decide +kernel) (by decide) (fun c1 => ?_) (fun c1 => ?_)
  · refine go_blk h.1 (is := [.bipush (-2)]) (pc' := 14) (ls' := [some (.inr (.inr (7, w))), some (.inl x1), some (.inl x2), none]) (st' := [.inl (-2 : Int32)]) (m' := m) (by decide +kernel) rfl ?_
    exact go_iret h.1 h.2.2.2.2 (by decide +kernel)
  · refine go_blk h.1 (is := [.iload_n 1, .aload_n 0, .getfield 44]) (pc' := 9) (ls' := [some (.inr (.inr (7, w))), some (.inl x1), some (.inl x2), none]) (st' := [.inl (m 7 w 8), .inl x1]) (m' := m) (by decide +kernel) rfl ?_
    refine go_icmplt h.1 (off := 6) 15 (by decide +kernel) (by decide) (fun c9 => ?_) (fun c9 => ?_)
    · refine go_blk h.1 (is := [.aload_n 0, .iload_n 1]) (pc' := 17) (ls' := [some (.inr (.inr (7, w))), some (.inl x1), some (.inl x2), none]) (st' := [.inl x1, .inr (.inr (7, w))]) (m' := m) (by decide +kernel) rfl ?_
      refine go_callV h.1 (index := 97) (n := 1) (t := 7) (i := w) (ci := 0) (nf := 14) (cz := (RX0, TX0, 14)) (as := [.inl x1]) (rest := []) (ctr_X0_tollOf (xZ X) w x1 m) (by decide +kernel) rfl rfl wd_v_X0_97 rfl (h.room (by first | decide | omega) (by decide)) h.cl (Nat.le_of_ble_eq_true rfl) puI_ok rfl (fun r17 m17 _ => ?_)
      show Go X (Em X puI) 20 [some (.inr (.inr (7, w))), some (.inl x1), some (.inl x2), none] [.inl r17] m17 _
      refine go_blk h.1 (is := [.istore_n 3, .iload_n 2]) (pc' := 22) (ls' := [some (.inr (.inr (7, w))), some (.inl x1), some (.inl x2), some (.inl r17)]) (st' := [.inl x2]) (m' := m17) (by decide +kernel) rfl ?_
      refine go_ite (fun w22_0 => ?_) (fun w22_0 => ?_)
      · refine go_tsIn h.1 (dflt := 84) (lo := 0) (hi := 3) (offs := #[30, 47, 62, 77]) (len := 30) (off := 30) (0 : Int32) 52 w22_0 (by decide +kernel) (by decide) rfl (by decide) ?_
        refine go_blk h.1 (is := [.aload_n 0, .getfield 18, .iload_n 1]) (pc' := 57) (ls' := [some (.inr (.inr (7, w))), some (.inl x1), some (.inl x2), some (.inl r17)]) (st' := [.inl x1, .inr (.inr (10, w))]) (m' := m17) (by decide +kernel) rfl ?_
        refine go_iald h.1 (by decide +kernel) rfl rfl (fun b57 => ?_)
        show Go X (Em X puI) 58 [some (.inr (.inr (7, w))), some (.inl x1), some (.inl x2), some (.inl r17)] [.inl (m17 10 w (ix x1))] m17 _
        refine go_blk h.1 (is := [.iload_n 3]) (pc' := 59) (ls' := [some (.inr (.inr (7, w))), some (.inl x1), some (.inl x2), some (.inl r17)]) (st' := [.inl r17, .inl (m17 10 w (ix x1))]) (m' := m17) (by decide +kernel) rfl ?_
        refine go_icmplt h.1 (off := 7) 66 (by decide +kernel) (by decide) (fun c59 => ?_) (fun c59 => ?_)
        · refine go_blk h.1 (is := [.bipush (-2)]) (pc' := 68) (ls' := [some (.inr (.inr (7, w))), some (.inl x1), some (.inl x2), some (.inl r17)]) (st' := [.inl (-2 : Int32)]) (m' := m17) (by decide +kernel) rfl ?_
          exact go_iret h.1 h.2.2.2.2 (by decide +kernel)
        · refine go_blk h.1 (is := [.iload_n 1]) (pc' := 63) (ls' := [some (.inr (.inr (7, w))), some (.inl x1), some (.inl x2), some (.inl r17)]) (st' := [.inl x1]) (m' := m17) (by decide +kernel) rfl ?_
          refine go_goto h.1 (off := 5) 68 (by decide +kernel) (by decide) ?_
          exact go_iret h.1 h.2.2.2.2 (by decide +kernel)
      · refine go_ite (fun w22_1 => ?_) (fun w22_1 => ?_)
        · refine go_tsIn h.1 (dflt := 84) (lo := 0) (hi := 3) (offs := #[30, 47, 62, 77]) (len := 30) (off := 47) (1 : Int32) 69 w22_1 (by decide +kernel) (by decide) rfl (by decide) ?_
          refine go_blk h.1 (is := [.aload_n 0, .iload_n 1]) (pc' := 71) (ls' := [some (.inr (.inr (7, w))), some (.inl x1), some (.inl x2), some (.inl r17)]) (st' := [.inl x1, .inr (.inr (7, w))]) (m' := m17) (by decide +kernel) rfl ?_
          refine go_callV h.1 (index := 108) (n := 1) (t := 7) (i := w) (ci := 0) (nf := 14) (cz := (RX0, TX0, 14)) (as := [.inl x1]) (rest := []) (ctr_X0_hasNewSong (xZ X) w x1 m17) (by decide +kernel) rfl rfl wd_v_X0_108 rfl (h.room (by first | decide | omega) (by decide)) h.cl (Nat.le_of_ble_eq_true rfl) puI_ok rfl (fun r71 m71 _ => ?_)
          show Go X (Em X puI) 74 [some (.inr (.inr (7, w))), some (.inl x1), some (.inl x2), some (.inl r17)] [.inl r71] m71 _
          refine go_ifeq h.1 (off := 7) 81 (by decide +kernel) (by decide) (fun c74 => ?_) (fun c74 => ?_)
          · refine go_blk h.1 (is := [.bipush (-2)]) (pc' := 83) (ls' := [some (.inr (.inr (7, w))), some (.inl x1), some (.inl x2), some (.inl r17)]) (st' := [.inl (-2 : Int32)]) (m' := m71) (by decide +kernel) rfl ?_
            exact go_iret h.1 h.2.2.2.2 (by decide +kernel)
          · refine go_blk h.1 (is := [.iconst (-1)]) (pc' := 78) (ls' := [some (.inr (.inr (7, w))), some (.inl x1), some (.inl x2), some (.inl r17)]) (st' := [.inl (-1 : Int32)]) (m' := m71) (by decide +kernel) rfl ?_
            refine go_goto h.1 (off := 5) 83 (by decide +kernel) (by decide) ?_
            exact go_iret h.1 h.2.2.2.2 (by decide +kernel)
        · refine go_ite (fun w22_2 => ?_) (fun w22_2 => ?_)
          · refine go_tsIn h.1 (dflt := 84) (lo := 0) (hi := 3) (offs := #[30, 47, 62, 77]) (len := 30) (off := 62) (2 : Int32) 84 w22_2 (by decide +kernel) (by decide) rfl (by decide) ?_
            refine go_blk h.1 (is := [.aload_n 0, .iload_n 1]) (pc' := 86) (ls' := [some (.inr (.inr (7, w))), some (.inl x1), some (.inl x2), some (.inl r17)]) (st' := [.inl x1, .inr (.inr (7, w))]) (m' := m17) (by decide +kernel) rfl ?_
            refine go_callV h.1 (index := 112) (n := 1) (t := 7) (i := w) (ci := 0) (nf := 14) (cz := (RX0, TX0, 14)) (as := [.inl x1]) (rest := []) (ctr_X0_hasSecret (xZ X) w x1 m17) (by decide +kernel) rfl rfl wd_v_X0_112 rfl (h.room (by first | decide | omega) (by decide)) h.cl (Nat.le_of_ble_eq_true rfl) puI_ok rfl (fun r86 m86 _ => ?_)
            show Go X (Em X puI) 89 [some (.inr (.inr (7, w))), some (.inl x1), some (.inl x2), some (.inl r17)] [.inl r86] m86 _
            refine go_ifeq h.1 (off := 7) 96 (by decide +kernel) (by decide) (fun c89 => ?_) (fun c89 => ?_)
            · refine go_blk h.1 (is := [.bipush (-2)]) (pc' := 98) (ls' := [some (.inr (.inr (7, w))), some (.inl x1), some (.inl x2), some (.inl r17)]) (st' := [.inl (-2 : Int32)]) (m' := m86) (by decide +kernel) rfl ?_
              exact go_iret h.1 h.2.2.2.2 (by decide +kernel)
            · refine go_blk h.1 (is := [.iconst (-1)]) (pc' := 93) (ls' := [some (.inr (.inr (7, w))), some (.inl x1), some (.inl x2), some (.inl r17)]) (st' := [.inl (-1 : Int32)]) (m' := m86) (by decide +kernel) rfl ?_
              refine go_goto h.1 (off := 5) 98 (by decide +kernel) (by decide) ?_
              exact go_iret h.1 h.2.2.2.2 (by decide +kernel)
          · refine go_ite (fun w22_3 => ?_) (fun w22_3 => ?_)
            · refine go_tsIn h.1 (dflt := 84) (lo := 0) (hi := 3) (offs := #[30, 47, 62, 77]) (len := 30) (off := 77) (3 : Int32) 99 w22_3 (by decide +kernel) (by decide) rfl (by decide) ?_
              refine go_blk h.1 (is := [.aload_n 0, .iload_n 1, .iload_n 3]) (pc' := 102) (ls' := [some (.inr (.inr (7, w))), some (.inl x1), some (.inl x2), some (.inl r17)]) (st' := [.inl r17, .inl x1, .inr (.inr (7, w))]) (m' := m17) (by decide +kernel) rfl ?_
              refine go_callV h.1 (index := 115) (n := 2) (t := 7) (i := w) (ci := 0) (nf := 14) (cz := (RX0, TX0, 14)) (as := [.inl x1, .inl r17]) (rest := []) (ctr_X0_lenderFor (xZ X) w x1 r17 m17) (by decide +kernel) rfl rfl wd_v_X0_115 rfl (h.room (by first | decide | omega) (by decide)) h.cl (Nat.le_of_ble_eq_true rfl) puI_ok rfl (fun r102 m102 _ => ?_)
              show Go X (Em X puI) 105 [some (.inr (.inr (7, w))), some (.inl x1), some (.inl x2), some (.inl r17)] [.inl r102] m102 _
              exact go_iret h.1 h.2.2.2.2 (by decide +kernel)
            · refine go_tsOut h.1 (dflt := 84) (lo := 0) (hi := 3) (offs := #[30, 47, 62, 77]) (len := 30) 106 (by decide +kernel) (sw_out (n := 4) (by decide) ((lt_s (lt_s (lt_s (lt_s lt_0 w22_0) w22_1) w22_2) w22_3) : ∀ j : Nat, j < 4 → ¬ x2 = Int32.ofInt (0 + (j : Int)))) (by decide) ?_
              refine go_blk h.1 (is := [.bipush (-2)]) (pc' := 108) (ls' := [some (.inr (.inr (7, w))), some (.inl x1), some (.inl x2), some (.inl r17)]) (st' := [.inl (-2 : Int32)]) (m' := m17) (by decide +kernel) rfl ?_
              exact go_iret h.1 h.2.2.2.2 (by decide +kernel)
    · refine go_blk h.1 (is := [.bipush (-2)]) (pc' := 14) (ls' := [some (.inr (.inr (7, w))), some (.inl x1), some (.inl x2), none]) (st' := [.inl (-2 : Int32)]) (m' := m) (by decide +kernel) rfl ?_
      exact go_iret h.1 h.2.2.2.2 (by decide +kernel)
theorem ctr_X0_payerOf (Z : ZT) (w : Nat) (x1 : Int32) (x2 : Int32) (m : Mem) : Ctr Z yX0_payerOf prog_2_method_6_code 4 (some .int) 2 puI [.inr (.inr (7, w)), .inl x1, .inl x2] m (f_X0_payerOf w x1 x2 m) :=
  ctr_of (P := P_X0) (by decide +kernel) rfl pt_X0 rfl rfl (fun X hC hZ hR h0 h1 hr => by subst hZ; exact g_X0_payerOf ⟨hC, hR, h0, h1, hr⟩ w x1 x2 m)

def f_X0_turnWord (w : Nat) (x1 : Int32) (x2 : Int32) (m : Mem) : Option (Unit × Mem) :=
  if x2 = (1 : Int32) then
    if inB x1 5 = true then
      some ((), (mset m 7 w 10 ((m 7 w 10) ^^^ ((1 : Int32) <<< ((m 11 w (ix x1)) &&& 31)))))
    else none
  else
    if inB x1 5 = true then
      some ((), (mset m 7 w 11 ((m 7 w 11) ^^^ ((1 : Int32) <<< ((m 12 w (ix x1)) &&& 31)))))
    else none
theorem g_X0_turnWord {X : XT} (h : MX X prog_2_method_8_code P_X0 0 none) (w : Nat) (x1 : Int32) (x2 : Int32) (m : Mem) : Go X (Em X puV) 0 [some (.inr (.inr (7, w))), some (.inl x1), some (.inl x2)] [] m (f_X0_turnWord w x1 x2 m) := by
  unfold f_X0_turnWord
  refine go_blk h.1 (is := [.iload_n 2, .iconst 1]) (pc' := 2) (ls' := [some (.inr (.inr (7, w))), some (.inl x1), some (.inl x2)]) (st' := [.inl (1 : Int32), .inl x2]) (m' := m) (by decide +kernel) rfl ?_
  refine go_icmpne h.1 (off := 23) 25 (by decide +kernel) (by decide) (fun c2 => ?_) (fun c2 => ?_)
  · refine go_blk h.1 (is := [.aload_n 0, .dup, .getfield 53, .iconst 1, .aload_n 0, .getfield 24, .iload_n 1]) (pc' := 36) (ls' := [some (.inr (.inr (7, w))), some (.inl x1), some (.inl x2)]) (st' := [.inl x1, .inr (.inr (12, w)), .inl (1 : Int32), .inl (m 7 w 11), .inr (.inr (7, w))]) (m' := m) (by decide +kernel) rfl ?_
    refine go_iald h.1 (by decide +kernel) rfl rfl (fun b36 => ?_)
    show Go X (Em X puV) 37 [some (.inr (.inr (7, w))), some (.inl x1), some (.inl x2)] [.inl (m 12 w (ix x1)), .inl (1 : Int32), .inl (m 7 w 11), .inr (.inr (7, w))] m _
    refine go_blk h.1 (is := [.ishl, .ixor, .putfield 53]) (pc' := 42) (ls' := [some (.inr (.inr (7, w))), some (.inl x1), some (.inl x2)]) (st' := []) (m' := (mset m 7 w 11 ((m 7 w 11) ^^^ ((1 : Int32) <<< ((m 12 w (ix x1)) &&& 31))))) (by decide +kernel) rfl ?_
    exact go_vret h.1 h.2.2.2.2 (by decide +kernel)
  · refine go_blk h.1 (is := [.aload_n 0, .dup, .getfield 52, .iconst 1, .aload_n 0, .getfield 21, .iload_n 1]) (pc' := 16) (ls' := [some (.inr (.inr (7, w))), some (.inl x1), some (.inl x2)]) (st' := [.inl x1, .inr (.inr (11, w)), .inl (1 : Int32), .inl (m 7 w 10), .inr (.inr (7, w))]) (m' := m) (by decide +kernel) rfl ?_
    refine go_iald h.1 (by decide +kernel) rfl rfl (fun b16 => ?_)
    show Go X (Em X puV) 17 [some (.inr (.inr (7, w))), some (.inl x1), some (.inl x2)] [.inl (m 11 w (ix x1)), .inl (1 : Int32), .inl (m 7 w 10), .inr (.inr (7, w))] m _
    refine go_blk h.1 (is := [.ishl, .ixor, .putfield 52]) (pc' := 22) (ls' := [some (.inr (.inr (7, w))), some (.inl x1), some (.inl x2)]) (st' := []) (m' := (mset m 7 w 10 ((m 7 w 10) ^^^ ((1 : Int32) <<< ((m 11 w (ix x1)) &&& 31))))) (by decide +kernel) rfl ?_
    refine go_goto h.1 (off := 20) 42 (by decide +kernel) (by decide) ?_
    exact go_vret h.1 h.2.2.2.2 (by decide +kernel)
theorem ctr_X0_turnWord (Z : ZT) (w : Nat) (x1 : Int32) (x2 : Int32) (m : Mem) : Ctr Z yX0_turnWord prog_2_method_8_code 3 none 0 puV [.inr (.inr (7, w)), .inl x1, .inl x2] m (f_X0_turnWord w x1 x2 m) :=
  ctr_of (P := P_X0) (by decide +kernel) rfl pt_X0 rfl rfl (fun X hC hZ hR h0 h1 hr => by subst hZ; exact g_X0_turnWord ⟨hC, hR, h0, h1, hr⟩ w x1 x2 m)

def f_X0_pay (w : Nat) (x1 : Int32) (x2 : Int32) (x3 : Int32) (m : Mem) : Option (Unit × Mem) :=
  if inB x2 5 = true then
    if inB x2 5 = true then
      if x2 = x1 then
        some ((), (mset (mset m 10 w (ix x2) ((m 10 w (ix x2)) - x3)) 7 w 13 ((m 7 w 13) + x3)))
      else
        if inB x1 5 = true then
          if inB x2 5 = true then
            if inB x2 5 = true then
              some ((), (mset (mset (mset m 10 w (ix x2) ((m 10 w (ix x2)) - x3)) 7 w 13 ((m 7 w 13) + x3)) 14 (5 * w + (ix x1)) (ix x2) ((m 14 (5 * w + (ix x1)) (ix x2)) + x3)))
            else none
          else none
        else none
    else none
  else none
theorem g_X0_pay {X : XT} (h : MX X prog_2_method_7_code P_X0 0 none) (w : Nat) (x1 : Int32) (x2 : Int32) (x3 : Int32) (m : Mem) : Go X (Em X puV) 0 [some (.inr (.inr (7, w))), some (.inl x1), some (.inl x2), some (.inl x3)] [] m (f_X0_pay w x1 x2 x3 m) := by
  unfold f_X0_pay
  refine go_blk h.1 (is := [.aload_n 0, .getfield 18, .iload_n 2, .dup2]) (pc' := 6) (ls' := [some (.inr (.inr (7, w))), some (.inl x1), some (.inl x2), some (.inl x3)]) (st' := [.inl x2, .inr (.inr (10, w)), .inl x2, .inr (.inr (10, w))]) (m' := m) (by decide +kernel) rfl ?_
  refine go_iald h.1 (by decide +kernel) rfl rfl (fun b6 => ?_)
  show Go X (Em X puV) 7 [some (.inr (.inr (7, w))), some (.inl x1), some (.inl x2), some (.inl x3)] [.inl (m 10 w (ix x2)), .inl x2, .inr (.inr (10, w))] m _
  refine go_blk h.1 (is := [.iload_n 3, .isub]) (pc' := 9) (ls' := [some (.inr (.inr (7, w))), some (.inl x1), some (.inl x2), some (.inl x3)]) (st' := [.inl ((m 10 w (ix x2)) - x3), .inl x2, .inr (.inr (10, w))]) (m' := m) (by decide +kernel) rfl ?_
  refine go_iast h.1 (by decide +kernel) rfl rfl (fun b9 => ?_)
  refine go_blk h.1 (is := [.aload_n 0, .dup, .getfield 59, .iload_n 3, .iadd, .putfield 59, .iload_n 2, .iload_n 1]) (pc' := 22) (ls' := [some (.inr (.inr (7, w))), some (.inl x1), some (.inl x2), some (.inl x3)]) (st' := [.inl x1, .inl x2]) (m' := (mset (mset m 10 w (ix x2) ((m 10 w (ix x2)) - x3)) 7 w 13 ((m 7 w 13) + x3))) (by decide +kernel) rfl ?_
  refine go_icmpeq h.1 (off := 15) 37 (by decide +kernel) (by decide) (fun c22 => ?_) (fun c22 => ?_)
  · exact go_vret h.1 h.2.2.2.2 (by decide +kernel)
  · refine go_blk h.1 (is := [.aload_n 0, .getfield 29, .iload_n 1]) (pc' := 30) (ls' := [some (.inr (.inr (7, w))), some (.inl x1), some (.inl x2), some (.inl x3)]) (st' := [.inl x1, .inr (.inr (13, w))]) (m' := (mset (mset m 10 w (ix x2) ((m 10 w (ix x2)) - x3)) 7 w 13 ((m 7 w 13) + x3))) (by decide +kernel) rfl ?_
    refine go_aald h.1 (kd := 2) (z := (14, (5 * w + (ix x1)))) (by decide +kernel) rfl rfl (by decide) rfl (fun b30 => ?_)
    refine go_blk h.1 (is := [.iload_n 2, .dup2]) (pc' := 33) (ls' := [some (.inr (.inr (7, w))), some (.inl x1), some (.inl x2), some (.inl x3)]) (st' := [.inl x2, .inr (.inr (14, (5 * w + (ix x1)))), .inl x2, .inr (.inr (14, (5 * w + (ix x1))))]) (m' := (mset (mset m 10 w (ix x2) ((m 10 w (ix x2)) - x3)) 7 w 13 ((m 7 w 13) + x3))) (by decide +kernel) rfl ?_
    refine go_iald h.1 (by decide +kernel) rfl rfl (fun b33 => ?_)
    show Go X (Em X puV) 34 [some (.inr (.inr (7, w))), some (.inl x1), some (.inl x2), some (.inl x3)] [.inl (m 14 (5 * w + (ix x1)) (ix x2)), .inl x2, .inr (.inr (14, (5 * w + (ix x1))))] (mset (mset m 10 w (ix x2) ((m 10 w (ix x2)) - x3)) 7 w 13 ((m 7 w 13) + x3)) _
    refine go_blk h.1 (is := [.iload_n 3, .iadd]) (pc' := 36) (ls' := [some (.inr (.inr (7, w))), some (.inl x1), some (.inl x2), some (.inl x3)]) (st' := [.inl ((m 14 (5 * w + (ix x1)) (ix x2)) + x3), .inl x2, .inr (.inr (14, (5 * w + (ix x1))))]) (m' := (mset (mset m 10 w (ix x2) ((m 10 w (ix x2)) - x3)) 7 w 13 ((m 7 w 13) + x3))) (by decide +kernel) rfl ?_
    refine go_iast h.1 (by decide +kernel) rfl rfl (fun b36 => ?_)
    exact go_vret h.1 h.2.2.2.2 (by decide +kernel)
theorem ctr_X0_pay (Z : ZT) (w : Nat) (x1 : Int32) (x2 : Int32) (x3 : Int32) (m : Mem) : Ctr Z yX0_pay prog_2_method_7_code 4 none 0 puV [.inr (.inr (7, w)), .inl x1, .inl x2, .inl x3] m (f_X0_pay w x1 x2 x3 m) :=
  ctr_of (P := P_X0) (by decide +kernel) rfl pt_X0 rfl rfl (fun X hC hZ hR h0 h1 hr => by subst hZ; exact g_X0_pay ⟨hC, hR, h0, h1, hr⟩ w x1 x2 x3 m)

def f_X0_pass_j41 (w : Nat) (x1 : Int32) (x3 : Int32) (m : Mem) : Option (Int32 × Mem) :=
  some (x3, (mset m 7 w 12 ((m 7 w 12) ^^^ ((1 : Int32) <<< (x1 &&& 31)))))
theorem g_X0_pass_j41 {X : XT} (h : MX X prog_2_method_4_code P_X0 3 (some .int)) (w : Nat) (x1 : Int32) (x3 : Int32) (m : Mem) (o2 : Option AV) : Go X (Em X puI) 41 [some (.inr (.inr (7, w))), some (.inl x1), o2, some (.inl x3)] [] m (f_X0_pass_j41 w x1 x3 m) := by
  unfold f_X0_pass_j41
  refine go_blk h.1 (is := [.aload_n 0, .dup, .getfield 56, .iconst 1, .iload_n 1, .ishl, .ixor, .putfield 56, .iload_n 3]) (pc' := 54) (ls' := [some (.inr (.inr (7, w))), some (.inl x1), o2, some (.inl x3)]) (st' := [.inl x3]) (m' := (mset m 7 w 12 ((m 7 w 12) ^^^ ((1 : Int32) <<< (x1 &&& 31))))) (by decide +kernel) rfl ?_
  exact go_iret h.1 h.2.2.2.2 (by decide +kernel)

def f_X0_pass (w : Nat) (x1 : Int32) (x2 : Int32) (m : Mem) : Option (Int32 × Mem) :=
  bnd (f_X0_payerOf w x1 x2 m) (fun r3 m3 =>
    if r3 = (-2 : Int32) then
      some ((-2 : Int32), m3)
    else
      if r3 = (-1 : Int32) then
        bnd (f_X0_turnWord w x1 x2 m3) (fun _ m38 =>
          f_X0_pass_j41 w x1 r3 m38)
      else
        bnd (f_X0_tollOf w x1 m3) (fun r26 m26 =>
          bnd (f_X0_pay w x1 r3 r26 m26) (fun _ m29 =>
            f_X0_pass_j41 w x1 r3 m29)))
theorem g_X0_pass {X : XT} (h : MX X prog_2_method_4_code P_X0 3 (some .int)) (w : Nat) (x1 : Int32) (x2 : Int32) (m : Mem) : Go X (Em X puI) 0 [some (.inr (.inr (7, w))), some (.inl x1), some (.inl x2), none] [] m (f_X0_pass w x1 x2 m) := by
  unfold f_X0_pass
  refine go_blk h.1 (is := [.aload_n 0, .iload_n 1, .iload_n 2]) (pc' := 3) (ls' := [some (.inr (.inr (7, w))), some (.inl x1), some (.inl x2), none]) (st' := [.inl x2, .inl x1, .inr (.inr (7, w))]) (m' := m) (by decide +kernel) rfl ?_
  refine go_callV h.1 (index := 94) (n := 2) (t := 7) (i := w) (ci := 0) (nf := 14) (cz := (RX0, TX0, 14)) (as := [.inl x1, .inl x2]) (rest := []) (ctr_X0_payerOf (xZ X) w x1 x2 m) (by decide +kernel) rfl rfl wd_v_X0_94 rfl (h.room (by first | decide | omega) (by decide)) h.cl (Nat.le_of_ble_eq_true rfl) puI_ok rfl (fun r3 m3 _ => ?_)
  show Go X (Em X puI) 6 [some (.inr (.inr (7, w))), some (.inl x1), some (.inl x2), none] [.inl r3] m3 _
  refine go_blk h.1 (is := [.istore_n 3, .iload_n 3, .bipush (-2)]) (pc' := 10) (ls' := [some (.inr (.inr (7, w))), some (.inl x1), some (.inl x2), some (.inl r3)]) (st' := [.inl (-2 : Int32), .inl r3]) (m' := m3) (by decide +kernel) rfl ?_
  refine go_icmpne h.1 (off := 6) 16 (by decide +kernel) (by decide) (fun c10 => ?_) (fun c10 => ?_)
  · refine go_blk h.1 (is := [.iload_n 3, .iconst (-1)]) (pc' := 18) (ls' := [some (.inr (.inr (7, w))), some (.inl x1), some (.inl x2), some (.inl r3)]) (st' := [.inl (-1 : Int32), .inl r3]) (m' := m3) (by decide +kernel) rfl ?_
    refine go_icmpeq h.1 (off := 17) 35 (by decide +kernel) (by decide) (fun c18 => ?_) (fun c18 => ?_)
    · refine go_blk h.1 (is := [.aload_n 0, .iload_n 1, .iload_n 2]) (pc' := 38) (ls' := [some (.inr (.inr (7, w))), some (.inl x1), some (.inl x2), some (.inl r3)]) (st' := [.inl x2, .inl x1, .inr (.inr (7, w))]) (m' := m3) (by decide +kernel) rfl ?_
      refine go_callV h.1 (index := 104) (n := 2) (t := 7) (i := w) (ci := 0) (nf := 14) (cz := (RX0, TX0, 14)) (as := [.inl x1, .inl x2]) (rest := []) (ctr_X0_turnWord (xZ X) w x1 x2 m3) (by decide +kernel) rfl rfl wd_v_X0_104 rfl (h.room (by first | decide | omega) (by decide)) h.cl (Nat.le_of_ble_eq_true rfl) puV_ok rfl (fun r38 m38 _ => ?_)
      show Go X (Em X puI) 41 [some (.inr (.inr (7, w))), some (.inl x1), some (.inl x2), some (.inl r3)] [] m38 _
      exact g_X0_pass_j41 h w x1 r3 m38 (some (.inl x2))
    · refine go_blk h.1 (is := [.aload_n 0, .iload_n 1, .iload_n 3, .aload_n 0, .iload_n 1]) (pc' := 26) (ls' := [some (.inr (.inr (7, w))), some (.inl x1), some (.inl x2), some (.inl r3)]) (st' := [.inl x1, .inr (.inr (7, w)), .inl r3, .inl x1, .inr (.inr (7, w))]) (m' := m3) (by decide +kernel) rfl ?_
      refine go_callV h.1 (index := 97) (n := 1) (t := 7) (i := w) (ci := 0) (nf := 14) (cz := (RX0, TX0, 14)) (as := [.inl x1]) (rest := [.inl r3, .inl x1, .inr (.inr (7, w))]) (ctr_X0_tollOf (xZ X) w x1 m3) (by decide +kernel) rfl rfl wd_v_X0_97 rfl (h.room (by first | decide | omega) (by decide)) h.cl (Nat.le_of_ble_eq_true rfl) puI_ok rfl (fun r26 m26 _ => ?_)
      show Go X (Em X puI) 29 [some (.inr (.inr (7, w))), some (.inl x1), some (.inl x2), some (.inl r3)] [.inl r26, .inl r3, .inl x1, .inr (.inr (7, w))] m26 _
      refine go_callV h.1 (index := 100) (n := 3) (t := 7) (i := w) (ci := 0) (nf := 14) (cz := (RX0, TX0, 14)) (as := [.inl x1, .inl r3, .inl r26]) (rest := []) (ctr_X0_pay (xZ X) w x1 r3 r26 m26) (by decide +kernel) rfl rfl wd_v_X0_100 rfl (h.room (by first | decide | omega) (by decide)) h.cl (Nat.le_of_ble_eq_true rfl) puV_ok rfl (fun r29 m29 _ => ?_)
      show Go X (Em X puI) 32 [some (.inr (.inr (7, w))), some (.inl x1), some (.inl x2), some (.inl r3)] [] m29 _
      refine go_goto h.1 (off := 9) 41 (by decide +kernel) (by decide) ?_
      exact g_X0_pass_j41 h w x1 r3 m29 (some (.inl x2))
  · refine go_blk h.1 (is := [.bipush (-2)]) (pc' := 15) (ls' := [some (.inr (.inr (7, w))), some (.inl x1), some (.inl x2), some (.inl r3)]) (st' := [.inl (-2 : Int32)]) (m' := m3) (by decide +kernel) rfl ?_
    exact go_iret h.1 h.2.2.2.2 (by decide +kernel)
theorem ctr_X0_pass (Z : ZT) (w : Nat) (x1 : Int32) (x2 : Int32) (m : Mem) : Ctr Z yX0_pass prog_2_method_4_code 4 (some .int) 3 puI [.inr (.inr (7, w)), .inl x1, .inl x2] m (f_X0_pass w x1 x2 m) :=
  ctr_of (P := P_X0) (by decide +kernel) rfl pt_X0 rfl rfl (fun X hC hZ hR h0 h1 hr => by subst hZ; exact g_X0_pass ⟨hC, hR, h0, h1, hr⟩ w x1 x2 m)

def f_X0_walk_b3 (w : Nat) (a1 : Nat) (x2 : Int32) (x3 : Int32) (next : Int32 × Mem → Option (Int32 × Mem)) (exit : Mem → Option (Int32 × Mem)) (s : Int32 × Mem) : Option (Int32 × Mem) :=
  if x3 ≤ s.1 then
    exit (s.2)
  else
    bnd (f_X4_at a1 (x2 + ((2 : Int32) * s.1)) s.2) (fun r17 m17 =>
      bnd (f_X4_at a1 ((x2 + ((2 : Int32) * s.1)) + (1 : Int32)) m17) (fun r29 m29 =>
        bnd (f_X0_pass w r17 r29 m29) (fun r32 m32 =>
          if r32 = (-2 : Int32) then
            some (s.1, m32)
          else
            next ((s.1 + (1 : Int32)), m32))))
theorem g_X0_walk_b3 {X : XT} (h : MX X prog_2_method_3_code P_X0 4 (some .int)) (w : Nat) (a1 : Nat) (x2 : Int32) (x3 : Int32) (next : Int32 × Mem → Option (Int32 × Mem)) (exit : Mem → Option (Int32 × Mem)) (hn : ∀ (y4 : Int32) (n : Mem), Go X (Em X puI) 3 [some (.inr (.inr (7, w))), some (.inr (.inr (2, a1))), some (.inl x2), some (.inl x3), some (.inl y4)] [] n (next (y4, n))) (hx : ∀ (n : Mem) (o0 : Option AV) (o1 : Option AV) (o2 : Option AV) (o3 : Option AV) (o4 : Option AV), Go X (Em X puI) 49 [o0, o1, o2, o3, o4] [] n (exit (n))) (s : Int32 × Mem) : Go X (Em X puI) 3 [some (.inr (.inr (7, w))), some (.inr (.inr (2, a1))), some (.inl x2), some (.inl x3), some (.inl s.1)] [] s.2 (f_X0_walk_b3 w a1 x2 x3 next exit s) := by
  unfold f_X0_walk_b3
  refine go_blk h.1 (is := [.iload 4, .iload_n 3]) (pc' := 6) (ls' := [some (.inr (.inr (7, w))), some (.inr (.inr (2, a1))), some (.inl x2), some (.inl x3), some (.inl s.1)]) (st' := [.inl x3, .inl s.1]) (m' := s.2) (by decide +kernel) rfl ?_
  refine go_icmpge h.1 (off := 43) 49 (by decide +kernel) (by decide) (fun c6 => ?_) (fun c6 => ?_)
  · exact hx s.2 (some (.inr (.inr (7, w)))) (some (.inr (.inr (2, a1)))) (some (.inl x2)) (some (.inl x3)) (some (.inl s.1))
  · refine go_blk h.1 (is := [.aload_n 0, .aload_n 1, .iload_n 2, .iconst 2, .iload 4, .imul, .iadd]) (pc' := 17) (ls' := [some (.inr (.inr (7, w))), some (.inr (.inr (2, a1))), some (.inl x2), some (.inl x3), some (.inl s.1)]) (st' := [.inl (x2 + ((2 : Int32) * s.1)), .inr (.inr (2, a1)), .inr (.inr (7, w))]) (m' := s.2) (by decide +kernel) rfl ?_
    refine go_callV h.1 (index := 84) (n := 1) (t := 2) (i := a1) (ci := 4) (nf := 4) (cz := (RX4, TX4, 4)) (as := [.inl (x2 + ((2 : Int32) * s.1))]) (rest := [.inr (.inr (7, w))]) (ctr_X4_at (xZ X) a1 (x2 + ((2 : Int32) * s.1)) s.2) (by decide +kernel) rfl rfl wd_v_X0_84 rfl (h.room (by first | decide | omega) (by decide)) h.cl (Nat.le_of_ble_eq_true rfl) puI_ok rfl (fun r17 m17 _ => ?_)
    show Go X (Em X puI) 20 [some (.inr (.inr (7, w))), some (.inr (.inr (2, a1))), some (.inl x2), some (.inl x3), some (.inl s.1)] [.inl r17, .inr (.inr (7, w))] m17 _
    refine go_blk h.1 (is := [.aload_n 1, .iload_n 2, .iconst 2, .iload 4, .imul, .iadd, .iconst 1, .iadd]) (pc' := 29) (ls' := [some (.inr (.inr (7, w))), some (.inr (.inr (2, a1))), some (.inl x2), some (.inl x3), some (.inl s.1)]) (st' := [.inl ((x2 + ((2 : Int32) * s.1)) + (1 : Int32)), .inr (.inr (2, a1)), .inl r17, .inr (.inr (7, w))]) (m' := m17) (by decide +kernel) rfl ?_
    refine go_callV h.1 (index := 84) (n := 1) (t := 2) (i := a1) (ci := 4) (nf := 4) (cz := (RX4, TX4, 4)) (as := [.inl ((x2 + ((2 : Int32) * s.1)) + (1 : Int32))]) (rest := [.inl r17, .inr (.inr (7, w))]) (ctr_X4_at (xZ X) a1 ((x2 + ((2 : Int32) * s.1)) + (1 : Int32)) m17) (by decide +kernel) rfl rfl wd_v_X0_84 rfl (h.room (by first | decide | omega) (by decide)) h.cl (Nat.le_of_ble_eq_true rfl) puI_ok rfl (fun r29 m29 _ => ?_)
    show Go X (Em X puI) 32 [some (.inr (.inr (7, w))), some (.inr (.inr (2, a1))), some (.inl x2), some (.inl x3), some (.inl s.1)] [.inl r29, .inl r17, .inr (.inr (7, w))] m29 _
    refine go_callV h.1 (index := 90) (n := 2) (t := 7) (i := w) (ci := 0) (nf := 14) (cz := (RX0, TX0, 14)) (as := [.inl r17, .inl r29]) (rest := []) (ctr_X0_pass (xZ X) w r17 r29 m29) (by decide +kernel) rfl rfl wd_v_X0_90 rfl (h.room (by first | decide | omega) (by decide)) h.cl (Nat.le_of_ble_eq_true rfl) puI_ok rfl (fun r32 m32 _ => ?_)
    show Go X (Em X puI) 35 [some (.inr (.inr (7, w))), some (.inr (.inr (2, a1))), some (.inl x2), some (.inl x3), some (.inl s.1)] [.inl r32] m32 _
    refine go_blk h.1 (is := [.bipush (-2)]) (pc' := 37) (ls' := [some (.inr (.inr (7, w))), some (.inr (.inr (2, a1))), some (.inl x2), some (.inl x3), some (.inl s.1)]) (st' := [.inl (-2 : Int32), .inl r32]) (m' := m32) (by decide +kernel) rfl ?_
    refine go_icmpne h.1 (off := 6) 43 (by decide +kernel) (by decide) (fun c37 => ?_) (fun c37 => ?_)
    · refine go_blk h.1 (is := [.iinc 4 1]) (pc' := 46) (ls' := [some (.inr (.inr (7, w))), some (.inr (.inr (2, a1))), some (.inl x2), some (.inl x3), some (.inl (s.1 + (1 : Int32)))]) (st' := []) (m' := m32) (by decide +kernel) rfl ?_
      refine go_goto h.1 (off := -43) 3 (by decide +kernel) (by decide) ?_
      exact hn (s.1 + (1 : Int32)) m32
    · refine go_blk h.1 (is := [.iload 4]) (pc' := 42) (ls' := [some (.inr (.inr (7, w))), some (.inr (.inr (2, a1))), some (.inl x2), some (.inl x3), some (.inl s.1)]) (st' := [.inl s.1]) (m' := m32) (by decide +kernel) rfl ?_
      exact go_iret h.1 h.2.2.2.2 (by decide +kernel)

def f_X0_walk (w : Nat) (a1 : Nat) (x2 : Int32) (x3 : Int32) (m : Mem) : Option (Int32 × Mem) :=
  lpk (f_X0_walk_b3 w a1 x2 x3) fuelN ((0 : Int32), m) (fun t3 =>
    some ((-9 : Int32), t3))
theorem g_X0_walk {X : XT} (h : MX X prog_2_method_3_code P_X0 4 (some .int)) (w : Nat) (a1 : Nat) (x2 : Int32) (x3 : Int32) (m : Mem) : Go X (Em X puI) 0 [some (.inr (.inr (7, w))), some (.inr (.inr (2, a1))), some (.inl x2), some (.inl x3), none] [] m (f_X0_walk w a1 x2 x3 m) := by
  unfold f_X0_walk
  refine go_blk h.1 (is := [.iconst 0, .istore 4]) (pc' := 3) (ls' := [some (.inr (.inr (7, w))), some (.inr (.inr (2, a1))), some (.inl x2), some (.inl x3), some (.inl (0 : Int32))]) (st' := []) (m' := m) (by decide +kernel) rfl ?_
  refine go_lp1 (hd := fun (y4 : Int32) (n : Mem) o => Go X (Em X puI) 3 [some (.inr (.inr (7, w))), some (.inr (.inr (2, a1))), some (.inl x2), some (.inl x3), some (.inl y4)] [] n o) (fun _ _ => go_none) (fun y4 n nx_ hn_ => g_X0_walk_b3 h w a1 x2 x3 nx_ _ hn_ (fun z_3 o0_3 o1_3 o2_3 o3_3 o4_3 => ?_) (y4, n)) fuelN (0 : Int32) m
  refine go_blk h.1 (is := [.bipush (-9)]) (pc' := 51) (ls' := [o0_3, o1_3, o2_3, o3_3, o4_3]) (st' := [.inl (-9 : Int32)]) (m' := z_3) (by decide +kernel) rfl ?_
  exact go_iret h.1 h.2.2.2.2 (by decide +kernel)
theorem ctr_X0_walk (Z : ZT) (w : Nat) (a1 : Nat) (x2 : Int32) (x3 : Int32) (m : Mem) : Ctr Z yX0_walk prog_2_method_3_code 5 (some .int) 4 puI [.inr (.inr (7, w)), .inr (.inr (2, a1)), .inl x2, .inl x3] m (f_X0_walk w a1 x2 x3 m) :=
  ctr_of (P := P_X0) (by decide +kernel) rfl pt_X0 rfl rfl (fun X hC hZ hR h0 h1 hr => by subst hZ; exact g_X0_walk ⟨hC, hR, h0, h1, hr⟩ w a1 x2 x3 m)

def f_X6_walkAsTold (x1 : Int32) (x2 : Int32) (x3 : Int32) (m : Mem) : Option (Int32 × Mem) :=
  bnd (f_X0_start 0 m) (fun _ m8 =>
    if inB x1 4 = true then
      bnd (f_X0_walk 0 (ix x1) x2 x3 m8) (fun r23 m23 =>
        some (r23, m23))
    else none)
theorem g_X6_walkAsTold {X : XT} (h : MX X prog_1_method_40_code P_X6 5 (some .int)) (x1 : Int32) (x2 : Int32) (x3 : Int32) (m : Mem) : Go X (Em X puI) 0 [some (.inr (.inr (0, 0))), some (.inl x1), some (.inl x2), some (.inl x3)] [] m (f_X6_walkAsTold x1 x2 x3 m) := by
  unfold f_X6_walkAsTold
  refine go_blk h.1 (is := [.aload_n 0, .getfield 28, .aload_n 0, .getfield 21]) (pc' := 8) (ls' := [some (.inr (.inr (0, 0))), some (.inl x1), some (.inl x2), some (.inl x3)]) (st' := [.inr (.inr (4, 0)), .inr (.inr (7, 0))]) (m' := m) (by decide +kernel) rfl ?_
  refine go_callV h.1 (index := 170) (n := 1) (t := 7) (i := 0) (ci := 0) (nf := 14) (cz := (RX0, TX0, 14)) (as := [.inr (.inr (4, 0))]) (rest := []) (ctr_X0_start (xZ X) 0 m) (by decide +kernel) rfl rfl wd_v_X6_170 rfl (h.room (by first | decide | omega) (by decide)) h.cl (Nat.le_of_ble_eq_true rfl) puV_ok rfl (fun r8 m8 _ => ?_)
  show Go X (Em X puI) 11 [some (.inr (.inr (0, 0))), some (.inl x1), some (.inl x2), some (.inl x3)] [] m8 _
  refine go_blk h.1 (is := [.aload_n 0, .getfield 28, .aload_n 0, .getfield 13, .iload_n 1]) (pc' := 20) (ls' := [some (.inr (.inr (0, 0))), some (.inl x1), some (.inl x2), some (.inl x3)]) (st' := [.inl x1, .inr (.inr (1, 0)), .inr (.inr (7, 0))]) (m' := m8) (by decide +kernel) rfl ?_
  refine go_aald h.1 (kd := 0) (z := (2, (ix x1))) (by decide +kernel) rfl rfl (by decide) rfl (fun b20 => ?_)
  refine go_blk h.1 (is := [.iload_n 2, .iload_n 3]) (pc' := 23) (ls' := [some (.inr (.inr (0, 0))), some (.inl x1), some (.inl x2), some (.inl x3)]) (st' := [.inl x3, .inl x2, .inr (.inr (2, (ix x1))), .inr (.inr (7, 0))]) (m' := m8) (by decide +kernel) rfl ?_
  refine go_callV h.1 (index := 174) (n := 3) (t := 7) (i := 0) (ci := 0) (nf := 14) (cz := (RX0, TX0, 14)) (as := [.inr (.inr (2, (ix x1))), .inl x2, .inl x3]) (rest := []) (ctr_X0_walk (xZ X) 0 (ix x1) x2 x3 m8) (by decide +kernel) rfl rfl wd_v_X6_174 rfl (h.room (by first | decide | omega) (by decide)) h.cl (Nat.le_of_ble_eq_true rfl) puI_ok rfl (fun r23 m23 _ => ?_)
  show Go X (Em X puI) 26 [some (.inr (.inr (0, 0))), some (.inl x1), some (.inl x2), some (.inl x3)] [.inl r23] m23 _
  exact go_iret h.1 h.2.2.2.2 (by decide +kernel)
theorem ctr_X6_walkAsTold (Z : ZT) (x1 : Int32) (x2 : Int32) (x3 : Int32) (m : Mem) : Ctr Z yX6_walkAsTold prog_1_method_40_code 4 (some .int) 5 puI [.inr (.inr (0, 0)), .inl x1, .inl x2, .inl x3] m (f_X6_walkAsTold x1 x2 x3 m) :=
  ctr_of (P := P_X6) (by decide +kernel) rfl pt_X6 rfl rfl (fun X hC hZ hR h0 h1 hr => by subst hZ; exact g_X6_walkAsTold ⟨hC, hR, h0, h1, hr⟩ x1 x2 x3 m)

