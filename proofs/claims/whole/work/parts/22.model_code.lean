/-! ===== printed by wip/whole/tr.py out of the listing ===== -/
def f_X7_scales (x1 : Int32) (x2 : Int32) (m : Mem) : Option (Int32 × Mem) :=
  bnd (f_X7_isFish x1 m) (fun r2 m2 =>
    if r2 = 0 then
      some ((-1 : Int32), m2)
    else
      bnd (f_X7_within x2 (0 : Int32) (99 : Int32) m2) (fun r14 m14 =>
        if r14 = 0 then
          some ((-2 : Int32), m14)
        else
          if inB x1 5 = true then
            if inB x1 5 = true then
              some ((m14 36 0 (ix x1)), (mset m14 36 0 (ix x1) x2))
            else none
          else none))
theorem g_X7_scales {X : XT} (h : MX X prog_9_method_18_code P_X7 1 (some .int)) (x1 : Int32) (x2 : Int32) (m : Mem) : Go X (Em X puI) 0 [some (.inr (.inr (30, 0))), some (.inl x1), some (.inl x2), none] [] m (f_X7_scales x1 x2 m) := by
  unfold f_X7_scales
  refine go_blk h.1 (is := [.aload_n 0, .iload_n 1]) (pc' := 2) (ls' := [some (.inr (.inr (30, 0))), some (.inl x1), some (.inl x2), none]) (st' := [.inl x1, .inr (.inr (30, 0))]) (m' := m) (by decide +kernel) rfl ?_
  refine go_callV h.1 (index := 128) (n := 1) (t := 30) (i := 0) (ci := 7) (nf := 35) (cz := (RX7, TX7, 35)) (as := [.inl x1]) (rest := []) (ctr_X7_isFish (xl X) (xA X) (xC X) (xI X) (xk X) x1 m) (by decide +kernel) rfl rfl wd_v_X7_128 rfl (h.room (by first | decide | omega) (by decide)) h.cl (Nat.le_of_ble_eq_true rfl) puI_ok rfl (fun r2 m2 _ => ?_)
  show Go X (Em X puI) 5 [some (.inr (.inr (30, 0))), some (.inl x1), some (.inl x2), none] [.inl r2] m2 _
  refine go_ifne h.1 (off := 5) 10 (by decide +kernel) (by decide) (fun c5 => ?_) (fun c5 => ?_)
  · refine go_blk h.1 (is := [.iload_n 2, .iconst 0, .bipush 99]) (pc' := 14) (ls' := [some (.inr (.inr (30, 0))), some (.inl x1), some (.inl x2), none]) (st' := [.inl (99 : Int32), .inl (0 : Int32), .inl x2]) (m' := m2) (by decide +kernel) rfl ?_
    refine go_callS h.1 (index := 70) (n := 3) (as := [.inl x2, .inl (0 : Int32), .inl (99 : Int32)]) (rest := []) (ctr_X7_within (xl X) (xA X) (xC X) (xI X) (xk X) x2 (0 : Int32) (99 : Int32) m2) (by decide +kernel) wd_s_X7_70 rfl (h.room (by first | decide | omega) (by decide)) h.cl (Nat.le_of_ble_eq_true rfl) puI_ok rfl (fun r14 m14 _ => ?_)
    show Go X (Em X puI) 17 [some (.inr (.inr (30, 0))), some (.inl x1), some (.inl x2), none] [.inl r14] m14 _
    refine go_ifne h.1 (off := 6) 23 (by decide +kernel) (by decide) (fun c17 => ?_) (fun c17 => ?_)
    · refine go_blk h.1 (is := [.aload_n 0, .getfield 25, .iload_n 1]) (pc' := 28) (ls' := [some (.inr (.inr (30, 0))), some (.inl x1), some (.inl x2), none]) (st' := [.inl x1, .inr (.inr (36, 0))]) (m' := m14) (by decide +kernel) rfl ?_
      refine go_iald h.1 (by decide +kernel) rfl rfl (fun b28 => ?_)
      show Go X (Em X puI) 29 [some (.inr (.inr (30, 0))), some (.inl x1), some (.inl x2), none] [.inl (m14 36 0 (ix x1))] m14 _
      refine go_blk h.1 (is := [.istore_n 3, .aload_n 0, .getfield 25, .iload_n 1, .iload_n 2]) (pc' := 36) (ls' := [some (.inr (.inr (30, 0))), some (.inl x1), some (.inl x2), some (.inl (m14 36 0 (ix x1)))]) (st' := [.inl x2, .inl x1, .inr (.inr (36, 0))]) (m' := m14) (by decide +kernel) rfl ?_
      refine go_iast h.1 (by decide +kernel) rfl rfl (fun b36 => ?_)
      refine go_blk h.1 (is := [.iload_n 3]) (pc' := 38) (ls' := [some (.inr (.inr (30, 0))), some (.inl x1), some (.inl x2), some (.inl (m14 36 0 (ix x1)))]) (st' := [.inl (m14 36 0 (ix x1))]) (m' := (mset m14 36 0 (ix x1) x2)) (by decide +kernel) rfl ?_
      exact go_iret h.1 h.2.2.2.2 (by decide +kernel)
    · refine go_blk h.1 (is := [.bipush (-2)]) (pc' := 22) (ls' := [some (.inr (.inr (30, 0))), some (.inl x1), some (.inl x2), none]) (st' := [.inl (-2 : Int32)]) (m' := m14) (by decide +kernel) rfl ?_
      exact go_iret h.1 h.2.2.2.2 (by decide +kernel)
  · refine go_blk h.1 (is := [.iconst (-1)]) (pc' := 9) (ls' := [some (.inr (.inr (30, 0))), some (.inl x1), some (.inl x2), none]) (st' := [.inl (-1 : Int32)]) (m' := m2) (by decide +kernel) rfl ?_
    exact go_iret h.1 h.2.2.2.2 (by decide +kernel)
theorem ctr_X7_scales (l : Launch) (A : AR → Nat) (dC : Nat → ClassId) (dI : Nat → Nat → Nat) (cs : Nat → ClassId) (x1 : Int32) (x2 : Int32) (m : Mem) : Ctr l A dC dI cs yX7_scales prog_9_method_18_code 4 (some .int) 1 puI [.inr (.inr (30, 0)), .inl x1, .inl x2] m (f_X7_scales x1 x2 m) :=
  ctr_of (P := P_X7) (by decide +kernel) rfl pt_X7 rfl rfl (fun X hC _ _ _ _ _ hR h0 h1 hr => g_X7_scales ⟨hC, hR, h0, h1, hr⟩ x1 x2 m)

def f_X7_hear (x1 : Int32) (m : Mem) : Option (Int32 × Mem) :=
  bnd (f_X7_within x1 (0 : Int32) (63 : Int32) m) (fun r4 m4 =>
    if r4 = 0 then
      some ((-2 : Int32), m4)
    else
      if (m4 30 0 5) = 0 then
        some ((-3 : Int32), m4)
      else
        some ((m4 30 0 8), (mset m4 30 0 8 x1)))
theorem g_X7_hear {X : XT} (h : MX X prog_9_method_19_code P_X7 1 (some .int)) (x1 : Int32) (m : Mem) : Go X (Em X puI) 0 [some (.inr (.inr (30, 0))), some (.inl x1), none] [] m (f_X7_hear x1 m) := by
  unfold f_X7_hear
  refine go_blk h.1 (is := [.iload_n 1, .iconst 0, .bipush 63]) (pc' := 4) (ls' := [some (.inr (.inr (30, 0))), some (.inl x1), none]) (st' := [.inl (63 : Int32), .inl (0 : Int32), .inl x1]) (m' := m) (by decide +kernel) rfl ?_
  refine go_callS h.1 (index := 70) (n := 3) (as := [.inl x1, .inl (0 : Int32), .inl (63 : Int32)]) (rest := []) (ctr_X7_within (xl X) (xA X) (xC X) (xI X) (xk X) x1 (0 : Int32) (63 : Int32) m) (by decide +kernel) wd_s_X7_70 rfl (h.room (by first | decide | omega) (by decide)) h.cl (Nat.le_of_ble_eq_true rfl) puI_ok rfl (fun r4 m4 _ => ?_)
  show Go X (Em X puI) 7 [some (.inr (.inr (30, 0))), some (.inl x1), none] [.inl r4] m4 _
  refine go_ifne h.1 (off := 6) 13 (by decide +kernel) (by decide) (fun c7 => ?_) (fun c7 => ?_)
  · refine go_blk h.1 (is := [.aload_n 0, .getfield 98]) (pc' := 17) (ls' := [some (.inr (.inr (30, 0))), some (.inl x1), none]) (st' := [.inl (m4 30 0 5)]) (m' := m4) (by decide +kernel) rfl ?_
    refine go_ifne h.1 (off := 6) 23 (by decide +kernel) (by decide) (fun c17 => ?_) (fun c17 => ?_)
    · refine go_blk h.1 (is := [.aload_n 0, .getfield 111, .istore_n 2, .aload_n 0, .iload_n 1, .putfield 111, .iload_n 2]) (pc' := 34) (ls' := [some (.inr (.inr (30, 0))), some (.inl x1), some (.inl (m4 30 0 8))]) (st' := [.inl (m4 30 0 8)]) (m' := (mset m4 30 0 8 x1)) (by decide +kernel) rfl ?_
      exact go_iret h.1 h.2.2.2.2 (by decide +kernel)
    · refine go_blk h.1 (is := [.bipush (-3)]) (pc' := 22) (ls' := [some (.inr (.inr (30, 0))), some (.inl x1), none]) (st' := [.inl (-3 : Int32)]) (m' := m4) (by decide +kernel) rfl ?_
      exact go_iret h.1 h.2.2.2.2 (by decide +kernel)
  · refine go_blk h.1 (is := [.bipush (-2)]) (pc' := 12) (ls' := [some (.inr (.inr (30, 0))), some (.inl x1), none]) (st' := [.inl (-2 : Int32)]) (m' := m4) (by decide +kernel) rfl ?_
    exact go_iret h.1 h.2.2.2.2 (by decide +kernel)
theorem ctr_X7_hear (l : Launch) (A : AR → Nat) (dC : Nat → ClassId) (dI : Nat → Nat → Nat) (cs : Nat → ClassId) (x1 : Int32) (m : Mem) : Ctr l A dC dI cs yX7_hear prog_9_method_19_code 3 (some .int) 1 puI [.inr (.inr (30, 0)), .inl x1] m (f_X7_hear x1 m) :=
  ctr_of (P := P_X7) (by decide +kernel) rfl pt_X7 rfl rfl (fun X hC _ _ _ _ _ hR h0 h1 hr => g_X7_hear ⟨hC, hR, h0, h1, hr⟩ x1 m)

def f_X7_arePairs (x0 : Int32) (x1 : Int32) (m : Mem) : Option (Int32 × Mem) :=
  bnd (f_X7_isSort x0 m) (fun r1 m1 =>
    if r1 = 0 then
      some ((0 : Int32), m1)
    else
      bnd (f_X7_within x1 (0 : Int32) (20 : Int32) m1) (fun r11 m11 =>
        if r11 = 0 then
          some ((0 : Int32), m11)
        else
          some ((1 : Int32), m11)))
theorem g_X7_arePairs {X : XT} (h : MX X prog_9_method_30_code P_X7 2 (some .boolean)) (x0 : Int32) (x1 : Int32) (m : Mem) : Go X (Em X puI) 0 [some (.inl x0), some (.inl x1)] [] m (f_X7_arePairs x0 x1 m) := by
  unfold f_X7_arePairs
  refine go_blk h.1 (is := [.iload_n 0]) (pc' := 1) (ls' := [some (.inl x0), some (.inl x1)]) (st' := [.inl x0]) (m' := m) (by decide +kernel) rfl ?_
  refine go_callS h.1 (index := 84) (n := 1) (as := [.inl x0]) (rest := []) (ctr_X7_isSort (xl X) (xA X) (xC X) (xI X) (xk X) x0 m) (by decide +kernel) wd_s_X7_84 rfl (h.room (by first | decide | omega) (by decide)) h.cl (Nat.le_of_ble_eq_true rfl) puI_ok rfl (fun r1 m1 _ => ?_)
  show Go X (Em X puI) 4 [some (.inl x0), some (.inl x1)] [.inl r1] m1 _
  refine go_ifeq h.1 (off := 17) 21 (by decide +kernel) (by decide) (fun c4 => ?_) (fun c4 => ?_)
  · refine go_blk h.1 (is := [.iconst 0]) (pc' := 22) (ls' := [some (.inl x0), some (.inl x1)]) (st' := [.inl (0 : Int32)]) (m' := m1) (by decide +kernel) rfl ?_
    exact go_zret h.1 h.2.2.2.2 (Or.inl rfl) (by decide +kernel)
  · refine go_blk h.1 (is := [.iload_n 1, .iconst 0, .bipush 20]) (pc' := 11) (ls' := [some (.inl x0), some (.inl x1)]) (st' := [.inl (20 : Int32), .inl (0 : Int32), .inl x1]) (m' := m1) (by decide +kernel) rfl ?_
    refine go_callS h.1 (index := 70) (n := 3) (as := [.inl x1, .inl (0 : Int32), .inl (20 : Int32)]) (rest := []) (ctr_X7_within (xl X) (xA X) (xC X) (xI X) (xk X) x1 (0 : Int32) (20 : Int32) m1) (by decide +kernel) wd_s_X7_70 rfl (h.room (by first | decide | omega) (by decide)) h.cl (Nat.le_of_ble_eq_true rfl) puI_ok rfl (fun r11 m11 _ => ?_)
    show Go X (Em X puI) 14 [some (.inl x0), some (.inl x1)] [.inl r11] m11 _
    refine go_ifeq h.1 (off := 7) 21 (by decide +kernel) (by decide) (fun c14 => ?_) (fun c14 => ?_)
    · refine go_blk h.1 (is := [.iconst 0]) (pc' := 22) (ls' := [some (.inl x0), some (.inl x1)]) (st' := [.inl (0 : Int32)]) (m' := m11) (by decide +kernel) rfl ?_
      exact go_zret h.1 h.2.2.2.2 (Or.inl rfl) (by decide +kernel)
    · refine go_blk h.1 (is := [.iconst 1]) (pc' := 18) (ls' := [some (.inl x0), some (.inl x1)]) (st' := [.inl (1 : Int32)]) (m' := m11) (by decide +kernel) rfl ?_
      refine go_goto h.1 (off := 4) 22 (by decide +kernel) (by decide) ?_
      exact go_zret h.1 h.2.2.2.2 (Or.inr rfl) (by decide +kernel)
theorem ctr_X7_arePairs (l : Launch) (A : AR → Nat) (dC : Nat → ClassId) (dI : Nat → Nat → Nat) (cs : Nat → ClassId) (x0 : Int32) (x1 : Int32) (m : Mem) : Ctr l A dC dI cs yX7_arePairs prog_9_method_30_code 2 (some .boolean) 2 puI [.inl x0, .inl x1] m (f_X7_arePairs x0 x1 m) :=
  ctr_of (P := P_X7) (by decide +kernel) rfl pt_X7 rfl rfl (fun X hC _ _ _ _ _ hR h0 h1 hr => g_X7_arePairs ⟨hC, hR, h0, h1, hr⟩ x0 x1 m)

def f_X7_layPasses_b46 (x4 : Int32) (x6 : Int32) (next : Int32 × Mem → Option (Int32 × Mem)) (exit : Mem → Option (Int32 × Mem)) (s : Int32 × Mem) : Option (Int32 × Mem) :=
  if x4 ≤ s.1 then
    exit (s.2)
  else
    if inB (x6 + ((2 : Int32) * s.1)) 240 = true then
      bnd (f_X7_isFish (s.2 33 0 (ix (x6 + ((2 : Int32) * s.1)))) s.2) (fun r66 m66 =>
        if r66 = 0 then
          some ((-1 : Int32), m66)
        else
          if inB ((x6 + ((2 : Int32) * s.1)) + (1 : Int32)) 240 = true then
            bnd (f_X7_within (m66 33 0 (ix ((x6 + ((2 : Int32) * s.1)) + (1 : Int32)))) (0 : Int32) (3 : Int32) m66) (fun r90 m90 =>
              if r90 = 0 then
                some ((-2 : Int32), m90)
              else
                if inB (x6 + ((2 : Int32) * s.1)) 240 = true then
                  if inB s.1 20 = true then
                    if inB ((x6 + ((2 : Int32) * s.1)) + (1 : Int32)) 240 = true then
                      if inB s.1 20 = true then
                        next ((s.1 + (1 : Int32)), (mset (mset m90 42 0 (ix s.1) (m90 33 0 (ix (x6 + ((2 : Int32) * s.1))))) 43 0 (ix s.1) (m90 33 0 (ix ((x6 + ((2 : Int32) * s.1)) + (1 : Int32))))))
                      else none
                    else none
                  else none
                else none)
          else none)
    else none
theorem g_X7_layPasses_b46 {X : XT} (h : MX X prog_9_method_28_code P_X7 1 (some .int)) (x4 : Int32) (x6 : Int32) (next : Int32 × Mem → Option (Int32 × Mem)) (exit : Mem → Option (Int32 × Mem)) (hn : ∀ (y7 : Int32) (n : Mem) (o1 : Option AV) (o2 : Option AV) (o3 : Option AV) (o5 : Option AV), Go X (Em X puI) 46 [some (.inr (.inr (30, 0))), o1, o2, o3, some (.inl x4), o5, some (.inl x6), some (.inl y7)] [] n (next (y7, n))) (hx : ∀ (n : Mem) (o1 : Option AV) (o2 : Option AV) (o3 : Option AV) (o5 : Option AV) (o6 : Option AV) (o7 : Option AV), Go X (Em X puI) 145 [some (.inr (.inr (30, 0))), o1, o2, o3, some (.inl x4), o5, o6, o7] [] n (exit (n))) (s : Int32 × Mem) (o1 : Option AV) (o2 : Option AV) (o3 : Option AV) (o5 : Option AV) : Go X (Em X puI) 46 [some (.inr (.inr (30, 0))), o1, o2, o3, some (.inl x4), o5, some (.inl x6), some (.inl s.1)] [] s.2 (f_X7_layPasses_b46 x4 x6 next exit s) := by
  unfold f_X7_layPasses_b46
  refine go_blk h.1 (is := [.iload 7, .iload 4]) (pc' := 50) (ls' := [some (.inr (.inr (30, 0))), o1, o2, o3, some (.inl x4), o5, some (.inl x6), some (.inl s.1)]) (st' := [.inl x4, .inl s.1]) (m' := s.2) (by decide +kernel) rfl ?_
  refine go_icmpge h.1 (off := 95) 145 (by decide +kernel) (by decide) (fun c50 => ?_) (fun c50 => ?_)
  · exact hx s.2 (o1) (o2) (o3) (o5) (some (.inl x6)) (some (.inl s.1))
  · refine go_blk h.1 (is := [.aload_n 0, .aload_n 0, .getfield 16, .iload 6, .iconst 2, .iload 7, .imul, .iadd]) (pc' := 65) (ls' := [some (.inr (.inr (30, 0))), o1, o2, o3, some (.inl x4), o5, some (.inl x6), some (.inl s.1)]) (st' := [.inl (x6 + ((2 : Int32) * s.1)), .inr (.inr (33, 0)), .inr (.inr (30, 0))]) (m' := s.2) (by decide +kernel) rfl ?_
    refine go_iald h.1 (by decide +kernel) rfl rfl (fun b65 => ?_)
    show Go X (Em X puI) 66 [some (.inr (.inr (30, 0))), o1, o2, o3, some (.inl x4), o5, some (.inl x6), some (.inl s.1)] [.inl (s.2 33 0 (ix (x6 + ((2 : Int32) * s.1)))), .inr (.inr (30, 0))] s.2 _
    refine go_callV h.1 (index := 128) (n := 1) (t := 30) (i := 0) (ci := 7) (nf := 35) (cz := (RX7, TX7, 35)) (as := [.inl (s.2 33 0 (ix (x6 + ((2 : Int32) * s.1))))]) (rest := []) (ctr_X7_isFish (xl X) (xA X) (xC X) (xI X) (xk X) (s.2 33 0 (ix (x6 + ((2 : Int32) * s.1)))) s.2) (by decide +kernel) rfl rfl wd_v_X7_128 rfl (h.room (by first | decide | omega) (by decide)) h.cl (Nat.le_of_ble_eq_true rfl) puI_ok rfl (fun r66 m66 _ => ?_)
    show Go X (Em X puI) 69 [some (.inr (.inr (30, 0))), o1, o2, o3, some (.inl x4), o5, some (.inl x6), some (.inl s.1)] [.inl r66] m66 _
    refine go_ifne h.1 (off := 5) 74 (by decide +kernel) (by decide) (fun c69 => ?_) (fun c69 => ?_)
    · refine go_blk h.1 (is := [.aload_n 0, .getfield 16, .iload 6, .iconst 2, .iload 7, .imul, .iadd, .iconst 1, .iadd]) (pc' := 87) (ls' := [some (.inr (.inr (30, 0))), o1, o2, o3, some (.inl x4), o5, some (.inl x6), some (.inl s.1)]) (st' := [.inl ((x6 + ((2 : Int32) * s.1)) + (1 : Int32)), .inr (.inr (33, 0))]) (m' := m66) (by decide +kernel) rfl ?_
      refine go_iald h.1 (by decide +kernel) rfl rfl (fun b87 => ?_)
      show Go X (Em X puI) 88 [some (.inr (.inr (30, 0))), o1, o2, o3, some (.inl x4), o5, some (.inl x6), some (.inl s.1)] [.inl (m66 33 0 (ix ((x6 + ((2 : Int32) * s.1)) + (1 : Int32))))] m66 _
      refine go_blk h.1 (is := [.iconst 0, .iconst 3]) (pc' := 90) (ls' := [some (.inr (.inr (30, 0))), o1, o2, o3, some (.inl x4), o5, some (.inl x6), some (.inl s.1)]) (st' := [.inl (3 : Int32), .inl (0 : Int32), .inl (m66 33 0 (ix ((x6 + ((2 : Int32) * s.1)) + (1 : Int32))))]) (m' := m66) (by decide +kernel) rfl ?_
      refine go_callS h.1 (index := 70) (n := 3) (as := [.inl (m66 33 0 (ix ((x6 + ((2 : Int32) * s.1)) + (1 : Int32)))), .inl (0 : Int32), .inl (3 : Int32)]) (rest := []) (ctr_X7_within (xl X) (xA X) (xC X) (xI X) (xk X) (m66 33 0 (ix ((x6 + ((2 : Int32) * s.1)) + (1 : Int32)))) (0 : Int32) (3 : Int32) m66) (by decide +kernel) wd_s_X7_70 rfl (h.room (by first | decide | omega) (by decide)) h.cl (Nat.le_of_ble_eq_true rfl) puI_ok rfl (fun r90 m90 _ => ?_)
      show Go X (Em X puI) 93 [some (.inr (.inr (30, 0))), o1, o2, o3, some (.inl x4), o5, some (.inl x6), some (.inl s.1)] [.inl r90] m90 _
      refine go_ifne h.1 (off := 6) 99 (by decide +kernel) (by decide) (fun c93 => ?_) (fun c93 => ?_)
      · refine go_blk h.1 (is := [.aload_n 0, .getfield 43, .iload 7, .aload_n 0, .getfield 16, .iload 6, .iconst 2, .iload 7, .imul, .iadd]) (pc' := 116) (ls' := [some (.inr (.inr (30, 0))), o1, o2, o3, some (.inl x4), o5, some (.inl x6), some (.inl s.1)]) (st' := [.inl (x6 + ((2 : Int32) * s.1)), .inr (.inr (33, 0)), .inl s.1, .inr (.inr (42, 0))]) (m' := m90) (by decide +kernel) rfl ?_
        refine go_iald h.1 (by decide +kernel) rfl rfl (fun b116 => ?_)
        show Go X (Em X puI) 117 [some (.inr (.inr (30, 0))), o1, o2, o3, some (.inl x4), o5, some (.inl x6), some (.inl s.1)] [.inl (m90 33 0 (ix (x6 + ((2 : Int32) * s.1)))), .inl s.1, .inr (.inr (42, 0))] m90 _
        refine go_iast h.1 (by decide +kernel) rfl rfl (fun b117 => ?_)
        refine go_blk h.1 (is := [.aload_n 0, .getfield 46, .iload 7, .aload_n 0, .getfield 16, .iload 6, .iconst 2, .iload 7, .imul, .iadd, .iconst 1, .iadd]) (pc' := 137) (ls' := [some (.inr (.inr (30, 0))), o1, o2, o3, some (.inl x4), o5, some (.inl x6), some (.inl s.1)]) (st' := [.inl ((x6 + ((2 : Int32) * s.1)) + (1 : Int32)), .inr (.inr (33, 0)), .inl s.1, .inr (.inr (43, 0))]) (m' := (mset m90 42 0 (ix s.1) (m90 33 0 (ix (x6 + ((2 : Int32) * s.1)))))) (by decide +kernel) rfl ?_
        refine go_iald h.1 (by decide +kernel) rfl rfl (fun b137 => ?_)
        show Go X (Em X puI) 138 [some (.inr (.inr (30, 0))), o1, o2, o3, some (.inl x4), o5, some (.inl x6), some (.inl s.1)] [.inl (m90 33 0 (ix ((x6 + ((2 : Int32) * s.1)) + (1 : Int32)))), .inl s.1, .inr (.inr (43, 0))] (mset m90 42 0 (ix s.1) (m90 33 0 (ix (x6 + ((2 : Int32) * s.1))))) _
        refine go_iast h.1 (by decide +kernel) rfl rfl (fun b138 => ?_)
        refine go_blk h.1 (is := [.iinc 7 1]) (pc' := 142) (ls' := [some (.inr (.inr (30, 0))), o1, o2, o3, some (.inl x4), o5, some (.inl x6), some (.inl (s.1 + (1 : Int32)))]) (st' := []) (m' := (mset (mset m90 42 0 (ix s.1) (m90 33 0 (ix (x6 + ((2 : Int32) * s.1))))) 43 0 (ix s.1) (m90 33 0 (ix ((x6 + ((2 : Int32) * s.1)) + (1 : Int32)))))) (by decide +kernel) rfl ?_
        refine go_goto h.1 (off := -96) 46 (by decide +kernel) (by decide) ?_
        exact hn (s.1 + (1 : Int32)) (mset (mset m90 42 0 (ix s.1) (m90 33 0 (ix (x6 + ((2 : Int32) * s.1))))) 43 0 (ix s.1) (m90 33 0 (ix ((x6 + ((2 : Int32) * s.1)) + (1 : Int32))))) (o1) (o2) (o3) (o5)
      · refine go_blk h.1 (is := [.bipush (-2)]) (pc' := 98) (ls' := [some (.inr (.inr (30, 0))), o1, o2, o3, some (.inl x4), o5, some (.inl x6), some (.inl s.1)]) (st' := [.inl (-2 : Int32)]) (m' := m90) (by decide +kernel) rfl ?_
        exact go_iret h.1 h.2.2.2.2 (by decide +kernel)
    · refine go_blk h.1 (is := [.iconst (-1)]) (pc' := 73) (ls' := [some (.inr (.inr (30, 0))), o1, o2, o3, some (.inl x4), o5, some (.inl x6), some (.inl s.1)]) (st' := [.inl (-1 : Int32)]) (m' := m66) (by decide +kernel) rfl ?_
      exact go_iret h.1 h.2.2.2.2 (by decide +kernel)

def f_X7_layPasses (x1 : Int32) (x2 : Int32) (x3 : Int32) (x4 : Int32) (m : Mem) : Option (Int32 × Mem) :=
  bnd (f_X7_against x1 x2 x3 ((2 : Int32) * x4) m) (fun r8 m8 =>
    if r8 = 0 then
      if (m8 30 0 5) = 0 then
        some ((-3 : Int32), m8)
      else
        lpk (f_X7_layPasses_b46 x4 (((60 : Int32) * x1) + x3)) fuelN ((0 : Int32), m8) (fun t46 =>
          some ((0 : Int32), (mset t46 30 0 24 x4)))
    else
      bnd (f_X7_fails r8 m8) (fun r21 m21 =>
        some (r21, m21)))
theorem g_X7_layPasses {X : XT} (h : MX X prog_9_method_28_code P_X7 1 (some .int)) (x1 : Int32) (x2 : Int32) (x3 : Int32) (x4 : Int32) (m : Mem) : Go X (Em X puI) 0 [some (.inr (.inr (30, 0))), some (.inl x1), some (.inl x2), some (.inl x3), some (.inl x4), none, none, none] [] m (f_X7_layPasses x1 x2 x3 x4 m) := by
  unfold f_X7_layPasses
  refine go_blk h.1 (is := [.aload_n 0, .iload_n 1, .iload_n 2, .iload_n 3, .iconst 2, .iload 4, .imul]) (pc' := 8) (ls' := [some (.inr (.inr (30, 0))), some (.inl x1), some (.inl x2), some (.inl x3), some (.inl x4), none, none, none]) (st' := [.inl ((2 : Int32) * x4), .inl x3, .inl x2, .inl x1, .inr (.inr (30, 0))]) (m' := m) (by decide +kernel) rfl ?_
  refine go_callV h.1 (index := 87) (n := 4) (t := 30) (i := 0) (ci := 7) (nf := 35) (cz := (RX7, TX7, 35)) (as := [.inl x1, .inl x2, .inl x3, .inl ((2 : Int32) * x4)]) (rest := []) (ctr_X7_against (xl X) (xA X) (xC X) (xI X) (xk X) x1 x2 x3 ((2 : Int32) * x4) m) (by decide +kernel) rfl rfl wd_v_X7_87 rfl (h.room (by first | decide | omega) (by decide)) h.cl (Nat.le_of_ble_eq_true rfl) puI_ok rfl (fun r8 m8 _ => ?_)
  show Go X (Em X puI) 11 [some (.inr (.inr (30, 0))), some (.inl x1), some (.inl x2), some (.inl x3), some (.inl x4), none, none, none] [.inl r8] m8 _
  refine go_blk h.1 (is := [.istore 5, .iload 5]) (pc' := 15) (ls' := [some (.inr (.inr (30, 0))), some (.inl x1), some (.inl x2), some (.inl x3), some (.inl x4), some (.inl r8), none, none]) (st' := [.inl r8]) (m' := m8) (by decide +kernel) rfl ?_
  refine go_ifeq h.1 (off := 10) 25 (by decide +kernel) (by decide) (fun c15 => ?_) (fun c15 => ?_)
  · refine go_blk h.1 (is := [.aload_n 0, .getfield 98]) (pc' := 29) (ls' := [some (.inr (.inr (30, 0))), some (.inl x1), some (.inl x2), some (.inl x3), some (.inl x4), some (.inl r8), none, none]) (st' := [.inl (m8 30 0 5)]) (m' := m8) (by decide +kernel) rfl ?_
    refine go_ifne h.1 (off := 6) 35 (by decide +kernel) (by decide) (fun c29 => ?_) (fun c29 => ?_)
    · refine go_blk h.1 (is := [.bipush 60, .iload_n 1, .imul, .iload_n 3, .iadd, .istore 6, .iconst 0, .istore 7]) (pc' := 46) (ls' := [some (.inr (.inr (30, 0))), some (.inl x1), some (.inl x2), some (.inl x3), some (.inl x4), some (.inl r8), some (.inl (((60 : Int32) * x1) + x3)), some (.inl (0 : Int32))]) (st' := []) (m' := m8) (by decide +kernel) rfl ?_
      refine go_lp1 (hd := fun (y7 : Int32) (n : Mem) o => ∀ (o1 : Option AV) (o2 : Option AV) (o3 : Option AV) (o5 : Option AV), Go X (Em X puI) 46 [some (.inr (.inr (30, 0))), o1, o2, o3, some (.inl x4), o5, some (.inl (((60 : Int32) * x1) + x3)), some (.inl y7)] [] n o) (fun _ _ _ _ _ _ => go_none) (fun y7 n nx_ hn_ => g_X7_layPasses_b46 h x4 (((60 : Int32) * x1) + x3) nx_ _ hn_ (fun z_46 o1_46 o2_46 o3_46 o5_46 o6_46 o7_46 => ?_) (y7, n)) fuelN (0 : Int32) m8 (some (.inl x1)) (some (.inl x2)) (some (.inl x3)) (some (.inl r8))
      refine go_blk h.1 (is := [.aload_n 0, .iload 4, .putfield 165, .iconst 0]) (pc' := 152) (ls' := [some (.inr (.inr (30, 0))), o1_46, o2_46, o3_46, some (.inl x4), o5_46, o6_46, o7_46]) (st' := [.inl (0 : Int32)]) (m' := (mset z_46 30 0 24 x4)) (by decide +kernel) rfl ?_
      exact go_iret h.1 h.2.2.2.2 (by decide +kernel)
    · refine go_blk h.1 (is := [.bipush (-3)]) (pc' := 34) (ls' := [some (.inr (.inr (30, 0))), some (.inl x1), some (.inl x2), some (.inl x3), some (.inl x4), some (.inl r8), none, none]) (st' := [.inl (-3 : Int32)]) (m' := m8) (by decide +kernel) rfl ?_
      exact go_iret h.1 h.2.2.2.2 (by decide +kernel)
  · refine go_blk h.1 (is := [.aload_n 0, .iload 5]) (pc' := 21) (ls' := [some (.inr (.inr (30, 0))), some (.inl x1), some (.inl x2), some (.inl x3), some (.inl x4), some (.inl r8), none, none]) (st' := [.inl r8, .inr (.inr (30, 0))]) (m' := m8) (by decide +kernel) rfl ?_
    refine go_callV h.1 (index := 91) (n := 1) (t := 30) (i := 0) (ci := 7) (nf := 35) (cz := (RX7, TX7, 35)) (as := [.inl r8]) (rest := []) (ctr_X7_fails (xl X) (xA X) (xC X) (xI X) (xk X) r8 m8) (by decide +kernel) rfl rfl wd_v_X7_91 rfl (h.room (by first | decide | omega) (by decide)) h.cl (Nat.le_of_ble_eq_true rfl) puI_ok rfl (fun r21 m21 _ => ?_)
    show Go X (Em X puI) 24 [some (.inr (.inr (30, 0))), some (.inl x1), some (.inl x2), some (.inl x3), some (.inl x4), some (.inl r8), none, none] [.inl r21] m21 _
    exact go_iret h.1 h.2.2.2.2 (by decide +kernel)
theorem ctr_X7_layPasses (l : Launch) (A : AR → Nat) (dC : Nat → ClassId) (dI : Nat → Nat → Nat) (cs : Nat → ClassId) (x1 : Int32) (x2 : Int32) (x3 : Int32) (x4 : Int32) (m : Mem) : Ctr l A dC dI cs yX7_layPasses prog_9_method_28_code 8 (some .int) 1 puI [.inr (.inr (30, 0)), .inl x1, .inl x2, .inl x3, .inl x4] m (f_X7_layPasses x1 x2 x3 x4 m) :=
  ctr_of (P := P_X7) (by decide +kernel) rfl pt_X7 rfl rfl (fun X hC _ _ _ _ _ hR h0 h1 hr => g_X7_layPasses ⟨hC, hR, h0, h1, hr⟩ x1 x2 x3 x4 m)

def f_X7_begin_b2 (next : Int32 × Mem → Option (Unit × Mem)) (exit : Mem → Option (Unit × Mem)) (s : Int32 × Mem) : Option (Unit × Mem) :=
  if (s.2 30 0 7) ≤ s.1 then
    exit (s.2)
  else
    if inB s.1 5 = true then
      if inB s.1 5 = true then
        next ((s.1 + (1 : Int32)), (mset s.2 40 0 (ix s.1) (s.2 36 0 (ix s.1))))
      else none
    else none
theorem g_X7_begin_b2 {X : XT} (h : MX X prog_9_method_20_code P_X7 0 none) (next : Int32 × Mem → Option (Unit × Mem)) (exit : Mem → Option (Unit × Mem)) (hn : ∀ (y1 : Int32) (n : Mem), Go X (Em X puV) 2 [some (.inr (.inr (30, 0))), some (.inl y1)] [] n (next (y1, n))) (hx : ∀ (n : Mem) (o1 : Option AV), Go X (Em X puV) 28 [some (.inr (.inr (30, 0))), o1] [] n (exit (n))) (s : Int32 × Mem) : Go X (Em X puV) 2 [some (.inr (.inr (30, 0))), some (.inl s.1)] [] s.2 (f_X7_begin_b2 next exit s) := by
  unfold f_X7_begin_b2
  refine go_blk h.1 (is := [.iload_n 1, .aload_n 0, .getfield 74]) (pc' := 7) (ls' := [some (.inr (.inr (30, 0))), some (.inl s.1)]) (st' := [.inl (s.2 30 0 7), .inl s.1]) (m' := s.2) (by decide +kernel) rfl ?_
  refine go_icmpge h.1 (off := 21) 28 (by decide +kernel) (by decide) (fun c7 => ?_) (fun c7 => ?_)
  · exact hx s.2 (some (.inl s.1))
  · refine go_blk h.1 (is := [.aload_n 0, .getfield 37, .iload_n 1, .aload_n 0, .getfield 25, .iload_n 1]) (pc' := 20) (ls' := [some (.inr (.inr (30, 0))), some (.inl s.1)]) (st' := [.inl s.1, .inr (.inr (36, 0)), .inl s.1, .inr (.inr (40, 0))]) (m' := s.2) (by decide +kernel) rfl ?_
    refine go_iald h.1 (by decide +kernel) rfl rfl (fun b20 => ?_)
    show Go X (Em X puV) 21 [some (.inr (.inr (30, 0))), some (.inl s.1)] [.inl (s.2 36 0 (ix s.1)), .inl s.1, .inr (.inr (40, 0))] s.2 _
    refine go_iast h.1 (by decide +kernel) rfl rfl (fun b21 => ?_)
    refine go_blk h.1 (is := [.iinc 1 1]) (pc' := 25) (ls' := [some (.inr (.inr (30, 0))), some (.inl (s.1 + (1 : Int32)))]) (st' := []) (m' := (mset s.2 40 0 (ix s.1) (s.2 36 0 (ix s.1)))) (by decide +kernel) rfl ?_
    refine go_goto h.1 (off := -23) 2 (by decide +kernel) (by decide) ?_
    exact hn (s.1 + (1 : Int32)) (mset s.2 40 0 (ix s.1) (s.2 36 0 (ix s.1)))

def f_X7_begin_b30 (next : Int32 × Mem → Option (Unit × Mem)) (exit : Mem → Option (Unit × Mem)) (s : Int32 × Mem) : Option (Unit × Mem) :=
  if (25 : Int32) ≤ s.1 then
    exit (s.2)
  else
    if inB s.1 25 = true then
      next ((s.1 + (1 : Int32)), (mset s.2 41 0 (ix s.1) (0 : Int32)))
    else none
theorem g_X7_begin_b30 {X : XT} (h : MX X prog_9_method_20_code P_X7 0 none) (next : Int32 × Mem → Option (Unit × Mem)) (exit : Mem → Option (Unit × Mem)) (hn : ∀ (y1 : Int32) (n : Mem), Go X (Em X puV) 30 [some (.inr (.inr (30, 0))), some (.inl y1)] [] n (next (y1, n))) (hx : ∀ (n : Mem) (o1 : Option AV), Go X (Em X puV) 49 [some (.inr (.inr (30, 0))), o1] [] n (exit (n))) (s : Int32 × Mem) : Go X (Em X puV) 30 [some (.inr (.inr (30, 0))), some (.inl s.1)] [] s.2 (f_X7_begin_b30 next exit s) := by
  unfold f_X7_begin_b30
  refine go_blk h.1 (is := [.iload_n 1, .bipush 25]) (pc' := 33) (ls' := [some (.inr (.inr (30, 0))), some (.inl s.1)]) (st' := [.inl (25 : Int32), .inl s.1]) (m' := s.2) (by decide +kernel) rfl ?_
  refine go_icmpge h.1 (off := 16) 49 (by decide +kernel) (by decide) (fun c33 => ?_) (fun c33 => ?_)
  · exact hx s.2 (some (.inl s.1))
  · refine go_blk h.1 (is := [.aload_n 0, .getfield 40, .iload_n 1, .iconst 0]) (pc' := 42) (ls' := [some (.inr (.inr (30, 0))), some (.inl s.1)]) (st' := [.inl (0 : Int32), .inl s.1, .inr (.inr (41, 0))]) (m' := s.2) (by decide +kernel) rfl ?_
    refine go_iast h.1 (by decide +kernel) rfl rfl (fun b42 => ?_)
    refine go_blk h.1 (is := [.iinc 1 1]) (pc' := 46) (ls' := [some (.inr (.inr (30, 0))), some (.inl (s.1 + (1 : Int32)))]) (st' := []) (m' := (mset s.2 41 0 (ix s.1) (0 : Int32))) (by decide +kernel) rfl ?_
    refine go_goto h.1 (off := -16) 30 (by decide +kernel) (by decide) ?_
    exact hn (s.1 + (1 : Int32)) (mset s.2 41 0 (ix s.1) (0 : Int32))

def f_X7_begin (m : Mem) : Option (Unit × Mem) :=
  lpk (f_X7_begin_b2) fuelN ((0 : Int32), m) (fun t2 =>
    lpk (f_X7_begin_b30) fuelN ((0 : Int32), t2) (fun t30 =>
      some ((), (mset (mset (mset (mset t30 30 0 20 (0 : Int32)) 30 0 21 (0 : Int32)) 30 0 22 ((mset (mset t30 30 0 20 (0 : Int32)) 30 0 21 (0 : Int32)) 30 0 8)) 30 0 23 (0 : Int32)))))
theorem g_X7_begin {X : XT} (h : MX X prog_9_method_20_code P_X7 0 none) (m : Mem) : Go X (Em X puV) 0 [some (.inr (.inr (30, 0))), none] [] m (f_X7_begin m) := by
  unfold f_X7_begin
  refine go_blk h.1 (is := [.iconst 0, .istore_n 1]) (pc' := 2) (ls' := [some (.inr (.inr (30, 0))), some (.inl (0 : Int32))]) (st' := []) (m' := m) (by decide +kernel) rfl ?_
  refine go_lp1 (hd := fun (y1 : Int32) (n : Mem) o => Go X (Em X puV) 2 [some (.inr (.inr (30, 0))), some (.inl y1)] [] n o) (fun _ _ => go_none) (fun y1 n nx_ hn_ => g_X7_begin_b2 h nx_ _ hn_ (fun z_2 o1_2 => ?_) (y1, n)) fuelN (0 : Int32) m
  refine go_blk h.1 (is := [.iconst 0, .istore_n 1]) (pc' := 30) (ls' := [some (.inr (.inr (30, 0))), some (.inl (0 : Int32))]) (st' := []) (m' := z_2) (by decide +kernel) rfl ?_
  refine go_lp1 (hd := fun (y1 : Int32) (n : Mem) o => Go X (Em X puV) 30 [some (.inr (.inr (30, 0))), some (.inl y1)] [] n o) (fun _ _ => go_none) (fun y1 n nx_ hn_ => g_X7_begin_b30 h nx_ _ hn_ (fun z_30 o1_30 => ?_) (y1, n)) fuelN (0 : Int32) z_2
  refine go_blk h.1 (is := [.aload_n 0, .iconst 0, .putfield 134, .aload_n 0, .iconst 0, .putfield 137, .aload_n 0, .aload_n 0, .getfield 111, .putfield 140, .aload_n 0, .iconst 0, .putfield 143]) (pc' := 72) (ls' := [some (.inr (.inr (30, 0))), o1_30]) (st' := []) (m' := (mset (mset (mset (mset z_30 30 0 20 (0 : Int32)) 30 0 21 (0 : Int32)) 30 0 22 ((mset (mset z_30 30 0 20 (0 : Int32)) 30 0 21 (0 : Int32)) 30 0 8)) 30 0 23 (0 : Int32))) (by decide +kernel) rfl ?_
  exact go_vret h.1 h.2.2.2.2 (by decide +kernel)
theorem ctr_X7_begin (l : Launch) (A : AR → Nat) (dC : Nat → ClassId) (dI : Nat → Nat → Nat) (cs : Nat → ClassId) (m : Mem) : Ctr l A dC dI cs yX7_begin prog_9_method_20_code 2 none 0 puV [.inr (.inr (30, 0))] m (f_X7_begin m) :=
  ctr_of (P := P_X7) (by decide +kernel) rfl pt_X7 rfl rfl (fun X hC _ _ _ _ _ hR h0 h1 hr => g_X7_begin ⟨hC, hR, h0, h1, hr⟩ m)

def f_X7_tollNow_j30 (s0 : Int32) (x1 : Int32) (m : Mem) : Option (Int32 × Mem) :=
  if (((m 30 0 21) >>> (x1 &&& 31)) &&& (1 : Int32)) = (1 : Int32) then
    some (((2 : Int32) * s0), m)
  else
    some (s0, m)
theorem g_X7_tollNow_j30 {X : XT} (h : MX X prog_9_method_21_code P_X7 1 (some .int)) (s0 : Int32) (x1 : Int32) (m : Mem) (o2 : Option AV) : Go X (Em X puI) 30 [some (.inr (.inr (30, 0))), some (.inl x1), o2] [.inl s0] m (f_X7_tollNow_j30 s0 x1 m) := by
  unfold f_X7_tollNow_j30
  refine go_blk h.1 (is := [.istore_n 2, .aload_n 0, .getfield 137, .iload_n 1, .ishr, .iconst 1, .iand, .iconst 1]) (pc' := 40) (ls' := [some (.inr (.inr (30, 0))), some (.inl x1), some (.inl s0)]) (st' := [.inl (1 : Int32), .inl (((m 30 0 21) >>> (x1 &&& 31)) &&& (1 : Int32))]) (m' := m) (by decide +kernel) rfl ?_
  refine go_icmpne h.1 (off := 9) 49 (by decide +kernel) (by decide) (fun c40 => ?_) (fun c40 => ?_)
  · refine go_blk h.1 (is := [.iload_n 2]) (pc' := 50) (ls' := [some (.inr (.inr (30, 0))), some (.inl x1), some (.inl s0)]) (st' := [.inl s0]) (m' := m) (by decide +kernel) rfl ?_
    exact go_iret h.1 h.2.2.2.2 (by decide +kernel)
  · refine go_blk h.1 (is := [.iconst 2, .iload_n 2, .imul]) (pc' := 46) (ls' := [some (.inr (.inr (30, 0))), some (.inl x1), some (.inl s0)]) (st' := [.inl ((2 : Int32) * s0)]) (m' := m) (by decide +kernel) rfl ?_
    refine go_goto h.1 (off := 4) 50 (by decide +kernel) (by decide) ?_
    exact go_iret h.1 h.2.2.2.2 (by decide +kernel)

def f_X7_tollNow (x1 : Int32) (m : Mem) : Option (Int32 × Mem) :=
  if (((m 30 0 20) >>> (x1 &&& 31)) &&& (1 : Int32)) = (1 : Int32) then
    bnd (f_X7_share x1 m) (fun r14 m14 =>
      f_X7_tollNow_j30 r14 x1 m14)
  else
    bnd (f_X7_share x1 m) (fun r22 m22 =>
      f_X7_tollNow_j30 (r22 + (m22 30 0 6)) x1 m22)
theorem g_X7_tollNow {X : XT} (h : MX X prog_9_method_21_code P_X7 1 (some .int)) (x1 : Int32) (m : Mem) : Go X (Em X puI) 0 [some (.inr (.inr (30, 0))), some (.inl x1), none] [] m (f_X7_tollNow x1 m) := by
  unfold f_X7_tollNow
  refine go_blk h.1 (is := [.aload_n 0, .getfield 134, .iload_n 1, .ishr, .iconst 1, .iand, .iconst 1]) (pc' := 9) (ls' := [some (.inr (.inr (30, 0))), some (.inl x1), none]) (st' := [.inl (1 : Int32), .inl (((m 30 0 20) >>> (x1 &&& 31)) &&& (1 : Int32))]) (m' := m) (by decide +kernel) rfl ?_
  refine go_icmpne h.1 (off := 11) 20 (by decide +kernel) (by decide) (fun c9 => ?_) (fun c9 => ?_)
  · refine go_blk h.1 (is := [.aload_n 0, .iload_n 1]) (pc' := 22) (ls' := [some (.inr (.inr (30, 0))), some (.inl x1), none]) (st' := [.inl x1, .inr (.inr (30, 0))]) (m' := m) (by decide +kernel) rfl ?_
    refine go_callV h.1 (index := 131) (n := 1) (t := 30) (i := 0) (ci := 7) (nf := 35) (cz := (RX7, TX7, 35)) (as := [.inl x1]) (rest := []) (ctr_X7_share (xl X) (xA X) (xC X) (xI X) (xk X) x1 m) (by decide +kernel) rfl rfl wd_v_X7_131 rfl (h.room (by first | decide | omega) (by decide)) h.cl (Nat.le_of_ble_eq_true rfl) puI_ok rfl (fun r22 m22 _ => ?_)
    show Go X (Em X puI) 25 [some (.inr (.inr (30, 0))), some (.inl x1), none] [.inl r22] m22 _
    refine go_blk h.1 (is := [.aload_n 0, .getfield 105, .iadd]) (pc' := 30) (ls' := [some (.inr (.inr (30, 0))), some (.inl x1), none]) (st' := [.inl (r22 + (m22 30 0 6))]) (m' := m22) (by decide +kernel) rfl ?_
    exact g_X7_tollNow_j30 h (r22 + (m22 30 0 6)) x1 m22 (none)
  · refine go_blk h.1 (is := [.aload_n 0, .iload_n 1]) (pc' := 14) (ls' := [some (.inr (.inr (30, 0))), some (.inl x1), none]) (st' := [.inl x1, .inr (.inr (30, 0))]) (m' := m) (by decide +kernel) rfl ?_
    refine go_callV h.1 (index := 131) (n := 1) (t := 30) (i := 0) (ci := 7) (nf := 35) (cz := (RX7, TX7, 35)) (as := [.inl x1]) (rest := []) (ctr_X7_share (xl X) (xA X) (xC X) (xI X) (xk X) x1 m) (by decide +kernel) rfl rfl wd_v_X7_131 rfl (h.room (by first | decide | omega) (by decide)) h.cl (Nat.le_of_ble_eq_true rfl) puI_ok rfl (fun r14 m14 _ => ?_)
    show Go X (Em X puI) 17 [some (.inr (.inr (30, 0))), some (.inl x1), none] [.inl r14] m14 _
    refine go_goto h.1 (off := 13) 30 (by decide +kernel) (by decide) ?_
    exact g_X7_tollNow_j30 h r14 x1 m14 (none)
theorem ctr_X7_tollNow (l : Launch) (A : AR → Nat) (dC : Nat → ClassId) (dI : Nat → Nat → Nat) (cs : Nat → ClassId) (x1 : Int32) (m : Mem) : Ctr l A dC dI cs yX7_tollNow prog_9_method_21_code 3 (some .int) 1 puI [.inr (.inr (30, 0)), .inl x1] m (f_X7_tollNow x1 m) :=
  ctr_of (P := P_X7) (by decide +kernel) rfl pt_X7 rfl rfl (fun X hC _ _ _ _ _ hR h0 h1 hr => g_X7_tollNow ⟨hC, hR, h0, h1, hr⟩ x1 m)

def f_X7_lender_j36 (next : Int32 × Mem → Option (Int32 × Mem)) (exit : Mem → Option (Int32 × Mem)) (x1 : Int32) (x2 : Int32) (x3 : Int32) (m : Mem) : Option (Int32 × Mem) :=
  next ((x3 + (1 : Int32)), m)
theorem g_X7_lender_j36 {X : XT} (h : MX X prog_9_method_22_code P_X7 0 (some .int)) (next : Int32 × Mem → Option (Int32 × Mem)) (exit : Mem → Option (Int32 × Mem)) (x1 : Int32) (x2 : Int32) (x3 : Int32) (m : Mem) (hn : ∀ (y3 : Int32) (n : Mem), Go X (Em X puI) 2 [some (.inr (.inr (30, 0))), some (.inl x1), some (.inl x2), some (.inl y3)] [] n (next (y3, n))) (hx : ∀ (n : Mem) (o0 : Option AV) (o1 : Option AV) (o2 : Option AV) (o3 : Option AV), Go X (Em X puI) 42 [o0, o1, o2, o3] [] n (exit (n))) : Go X (Em X puI) 36 [some (.inr (.inr (30, 0))), some (.inl x1), some (.inl x2), some (.inl x3)] [] m (f_X7_lender_j36 next exit x1 x2 x3 m) := by
  unfold f_X7_lender_j36
  refine go_blk h.1 (is := [.iinc 3 1]) (pc' := 39) (ls' := [some (.inr (.inr (30, 0))), some (.inl x1), some (.inl x2), some (.inl (x3 + (1 : Int32)))]) (st' := []) (m' := m) (by decide +kernel) rfl ?_
  refine go_goto h.1 (off := -37) 2 (by decide +kernel) (by decide) ?_
  exact hn (x3 + (1 : Int32)) m

def f_X7_lender_b2 (x1 : Int32) (x2 : Int32) (next : Int32 × Mem → Option (Int32 × Mem)) (exit : Mem → Option (Int32 × Mem)) (s : Int32 × Mem) : Option (Int32 × Mem) :=
  if (s.2 30 0 7) ≤ s.1 then
    exit (s.2)
  else
    if s.1 = x1 then
      f_X7_lender_j36 next exit x1 x2 s.1 s.2
    else
      if inB s.1 5 = true then
        if (s.2 34 0 (ix s.1)) ≤ 0 then
          f_X7_lender_j36 next exit x1 x2 s.1 s.2
        else
          if inB s.1 5 = true then
            if (s.2 40 0 (ix s.1)) < x2 then
              f_X7_lender_j36 next exit x1 x2 s.1 s.2
            else
              some (s.1, s.2)
          else none
      else none
theorem g_X7_lender_b2 {X : XT} (h : MX X prog_9_method_22_code P_X7 0 (some .int)) (x1 : Int32) (x2 : Int32) (next : Int32 × Mem → Option (Int32 × Mem)) (exit : Mem → Option (Int32 × Mem)) (hn : ∀ (y3 : Int32) (n : Mem), Go X (Em X puI) 2 [some (.inr (.inr (30, 0))), some (.inl x1), some (.inl x2), some (.inl y3)] [] n (next (y3, n))) (hx : ∀ (n : Mem) (o0 : Option AV) (o1 : Option AV) (o2 : Option AV) (o3 : Option AV), Go X (Em X puI) 42 [o0, o1, o2, o3] [] n (exit (n))) (s : Int32 × Mem) : Go X (Em X puI) 2 [some (.inr (.inr (30, 0))), some (.inl x1), some (.inl x2), some (.inl s.1)] [] s.2 (f_X7_lender_b2 x1 x2 next exit s) := by
  unfold f_X7_lender_b2
  refine go_blk h.1 (is := [.iload_n 3, .aload_n 0, .getfield 74]) (pc' := 7) (ls' := [some (.inr (.inr (30, 0))), some (.inl x1), some (.inl x2), some (.inl s.1)]) (st' := [.inl (s.2 30 0 7), .inl s.1]) (m' := s.2) (by decide +kernel) rfl ?_
  refine go_icmpge h.1 (off := 35) 42 (by decide +kernel) (by decide) (fun c7 => ?_) (fun c7 => ?_)
  · exact hx s.2 (some (.inr (.inr (30, 0)))) (some (.inl x1)) (some (.inl x2)) (some (.inl s.1))
  · refine go_blk h.1 (is := [.iload_n 3, .iload_n 1]) (pc' := 12) (ls' := [some (.inr (.inr (30, 0))), some (.inl x1), some (.inl x2), some (.inl s.1)]) (st' := [.inl x1, .inl s.1]) (m' := s.2) (by decide +kernel) rfl ?_
    refine go_icmpeq h.1 (off := 24) 36 (by decide +kernel) (by decide) (fun c12 => ?_) (fun c12 => ?_)
    · exact g_X7_lender_j36 h next exit x1 x2 s.1 s.2 hn hx
    · refine go_blk h.1 (is := [.aload_n 0, .getfield 19, .iload_n 3]) (pc' := 20) (ls' := [some (.inr (.inr (30, 0))), some (.inl x1), some (.inl x2), some (.inl s.1)]) (st' := [.inl s.1, .inr (.inr (34, 0))]) (m' := s.2) (by decide +kernel) rfl ?_
      refine go_iald h.1 (by decide +kernel) rfl rfl (fun b20 => ?_)
      show Go X (Em X puI) 21 [some (.inr (.inr (30, 0))), some (.inl x1), some (.inl x2), some (.inl s.1)] [.inl (s.2 34 0 (ix s.1))] s.2 _
      refine go_ifle h.1 (off := 15) 36 (by decide +kernel) (by decide) (fun c21 => ?_) (fun c21 => ?_)
      · exact g_X7_lender_j36 h next exit x1 x2 s.1 s.2 hn hx
      · refine go_blk h.1 (is := [.aload_n 0, .getfield 37, .iload_n 3]) (pc' := 29) (ls' := [some (.inr (.inr (30, 0))), some (.inl x1), some (.inl x2), some (.inl s.1)]) (st' := [.inl s.1, .inr (.inr (40, 0))]) (m' := s.2) (by decide +kernel) rfl ?_
        refine go_iald h.1 (by decide +kernel) rfl rfl (fun b29 => ?_)
        show Go X (Em X puI) 30 [some (.inr (.inr (30, 0))), some (.inl x1), some (.inl x2), some (.inl s.1)] [.inl (s.2 40 0 (ix s.1))] s.2 _
        refine go_blk h.1 (is := [.iload_n 2]) (pc' := 31) (ls' := [some (.inr (.inr (30, 0))), some (.inl x1), some (.inl x2), some (.inl s.1)]) (st' := [.inl x2, .inl (s.2 40 0 (ix s.1))]) (m' := s.2) (by decide +kernel) rfl ?_
        refine go_icmplt h.1 (off := 5) 36 (by decide +kernel) (by decide) (fun c31 => ?_) (fun c31 => ?_)
        · exact g_X7_lender_j36 h next exit x1 x2 s.1 s.2 hn hx
        · refine go_blk h.1 (is := [.iload_n 3]) (pc' := 35) (ls' := [some (.inr (.inr (30, 0))), some (.inl x1), some (.inl x2), some (.inl s.1)]) (st' := [.inl s.1]) (m' := s.2) (by decide +kernel) rfl ?_
          exact go_iret h.1 h.2.2.2.2 (by decide +kernel)

def f_X7_lender (x1 : Int32) (x2 : Int32) (m : Mem) : Option (Int32 × Mem) :=
  lpk (f_X7_lender_b2 x1 x2) fuelN ((0 : Int32), m) (fun t2 =>
    some ((-9 : Int32), t2))
theorem g_X7_lender {X : XT} (h : MX X prog_9_method_22_code P_X7 0 (some .int)) (x1 : Int32) (x2 : Int32) (m : Mem) : Go X (Em X puI) 0 [some (.inr (.inr (30, 0))), some (.inl x1), some (.inl x2), none] [] m (f_X7_lender x1 x2 m) := by
  unfold f_X7_lender
  refine go_blk h.1 (is := [.iconst 0, .istore_n 3]) (pc' := 2) (ls' := [some (.inr (.inr (30, 0))), some (.inl x1), some (.inl x2), some (.inl (0 : Int32))]) (st' := []) (m' := m) (by decide +kernel) rfl ?_
  refine go_lp1 (hd := fun (y3 : Int32) (n : Mem) o => Go X (Em X puI) 2 [some (.inr (.inr (30, 0))), some (.inl x1), some (.inl x2), some (.inl y3)] [] n o) (fun _ _ => go_none) (fun y3 n nx_ hn_ => g_X7_lender_b2 h x1 x2 nx_ _ hn_ (fun z_2 o0_2 o1_2 o2_2 o3_2 => ?_) (y3, n)) fuelN (0 : Int32) m
  refine go_blk h.1 (is := [.bipush (-9)]) (pc' := 44) (ls' := [o0_2, o1_2, o2_2, o3_2]) (st' := [.inl (-9 : Int32)]) (m' := z_2) (by decide +kernel) rfl ?_
  exact go_iret h.1 h.2.2.2.2 (by decide +kernel)
theorem ctr_X7_lender (l : Launch) (A : AR → Nat) (dC : Nat → ClassId) (dI : Nat → Nat → Nat) (cs : Nat → ClassId) (x1 : Int32) (x2 : Int32) (m : Mem) : Ctr l A dC dI cs yX7_lender prog_9_method_22_code 4 (some .int) 0 puI [.inr (.inr (30, 0)), .inl x1, .inl x2] m (f_X7_lender x1 x2 m) :=
  ctr_of (P := P_X7) (by decide +kernel) rfl pt_X7 rfl rfl (fun X hC _ _ _ _ _ hR h0 h1 hr => g_X7_lender ⟨hC, hR, h0, h1, hr⟩ x1 x2 m)

def f_X7_payCredit (x1 : Int32) (m : Mem) : Option (Int32 × Mem) :=
  bnd (f_X7_tollNow x1 m) (fun r2 m2 =>
    bnd (f_X7_lender x1 r2 m2) (fun r9 m9 =>
      if r9 = (-9 : Int32) then
        some ((0 : Int32), m9)
      else
        if inB r9 5 = true then
          if inB r9 5 = true then
            if inB (((5 : Int32) * x1) + r9) 25 = true then
              if inB (((5 : Int32) * x1) + r9) 25 = true then
                some ((1 : Int32), (mset (mset (mset m9 40 0 (ix r9) ((m9 40 0 (ix r9)) - r2)) 30 0 23 ((m9 30 0 23) + r2)) 41 0 (ix (((5 : Int32) * x1) + r9)) ((m9 41 0 (ix (((5 : Int32) * x1) + r9))) + r2)))
              else none
            else none
          else none
        else none))
theorem g_X7_payCredit {X : XT} (h : MX X prog_9_method_26_code P_X7 2 (some .boolean)) (x1 : Int32) (m : Mem) : Go X (Em X puI) 0 [some (.inr (.inr (30, 0))), some (.inl x1), none, none] [] m (f_X7_payCredit x1 m) := by
  unfold f_X7_payCredit
  refine go_blk h.1 (is := [.aload_n 0, .iload_n 1]) (pc' := 2) (ls' := [some (.inr (.inr (30, 0))), some (.inl x1), none, none]) (st' := [.inl x1, .inr (.inr (30, 0))]) (m' := m) (by decide +kernel) rfl ?_
  refine go_callV h.1 (index := 146) (n := 1) (t := 30) (i := 0) (ci := 7) (nf := 35) (cz := (RX7, TX7, 35)) (as := [.inl x1]) (rest := []) (ctr_X7_tollNow (xl X) (xA X) (xC X) (xI X) (xk X) x1 m) (by decide +kernel) rfl rfl wd_v_X7_146 rfl (h.room (by first | decide | omega) (by decide)) h.cl (Nat.le_of_ble_eq_true rfl) puI_ok rfl (fun r2 m2 _ => ?_)
  show Go X (Em X puI) 5 [some (.inr (.inr (30, 0))), some (.inl x1), none, none] [.inl r2] m2 _
  refine go_blk h.1 (is := [.istore_n 2, .aload_n 0, .iload_n 1, .iload_n 2]) (pc' := 9) (ls' := [some (.inr (.inr (30, 0))), some (.inl x1), some (.inl r2), none]) (st' := [.inl r2, .inl x1, .inr (.inr (30, 0))]) (m' := m2) (by decide +kernel) rfl ?_
  refine go_callV h.1 (index := 149) (n := 2) (t := 30) (i := 0) (ci := 7) (nf := 35) (cz := (RX7, TX7, 35)) (as := [.inl x1, .inl r2]) (rest := []) (ctr_X7_lender (xl X) (xA X) (xC X) (xI X) (xk X) x1 r2 m2) (by decide +kernel) rfl rfl wd_v_X7_149 rfl (h.room (by first | decide | omega) (by decide)) h.cl (Nat.le_of_ble_eq_true rfl) puI_ok rfl (fun r9 m9 _ => ?_)
  show Go X (Em X puI) 12 [some (.inr (.inr (30, 0))), some (.inl x1), some (.inl r2), none] [.inl r9] m9 _
  refine go_blk h.1 (is := [.istore_n 3, .iload_n 3, .bipush (-9)]) (pc' := 16) (ls' := [some (.inr (.inr (30, 0))), some (.inl x1), some (.inl r2), some (.inl r9)]) (st' := [.inl (-9 : Int32), .inl r9]) (m' := m9) (by decide +kernel) rfl ?_
  refine go_icmpne h.1 (off := 5) 21 (by decide +kernel) (by decide) (fun c16 => ?_) (fun c16 => ?_)
  · refine go_blk h.1 (is := [.aload_n 0, .getfield 37, .iload_n 3, .dup2]) (pc' := 27) (ls' := [some (.inr (.inr (30, 0))), some (.inl x1), some (.inl r2), some (.inl r9)]) (st' := [.inl r9, .inr (.inr (40, 0)), .inl r9, .inr (.inr (40, 0))]) (m' := m9) (by decide +kernel) rfl ?_
    refine go_iald h.1 (by decide +kernel) rfl rfl (fun b27 => ?_)
    show Go X (Em X puI) 28 [some (.inr (.inr (30, 0))), some (.inl x1), some (.inl r2), some (.inl r9)] [.inl (m9 40 0 (ix r9)), .inl r9, .inr (.inr (40, 0))] m9 _
    refine go_blk h.1 (is := [.iload_n 2, .isub]) (pc' := 30) (ls' := [some (.inr (.inr (30, 0))), some (.inl x1), some (.inl r2), some (.inl r9)]) (st' := [.inl ((m9 40 0 (ix r9)) - r2), .inl r9, .inr (.inr (40, 0))]) (m' := m9) (by decide +kernel) rfl ?_
    refine go_iast h.1 (by decide +kernel) rfl rfl (fun b30 => ?_)
    refine go_blk h.1 (is := [.aload_n 0, .dup, .getfield 143, .iload_n 2, .iadd, .putfield 143, .aload_n 0, .getfield 40, .iconst 5, .iload_n 1, .imul, .iload_n 3, .iadd, .dup2]) (pc' := 51) (ls' := [some (.inr (.inr (30, 0))), some (.inl x1), some (.inl r2), some (.inl r9)]) (st' := [.inl (((5 : Int32) * x1) + r9), .inr (.inr (41, 0)), .inl (((5 : Int32) * x1) + r9), .inr (.inr (41, 0))]) (m' := (mset (mset m9 40 0 (ix r9) ((m9 40 0 (ix r9)) - r2)) 30 0 23 ((m9 30 0 23) + r2))) (by decide +kernel) rfl ?_
    refine go_iald h.1 (by decide +kernel) rfl rfl (fun b51 => ?_)
    show Go X (Em X puI) 52 [some (.inr (.inr (30, 0))), some (.inl x1), some (.inl r2), some (.inl r9)] [.inl (m9 41 0 (ix (((5 : Int32) * x1) + r9))), .inl (((5 : Int32) * x1) + r9), .inr (.inr (41, 0))] (mset (mset m9 40 0 (ix r9) ((m9 40 0 (ix r9)) - r2)) 30 0 23 ((m9 30 0 23) + r2)) _
    refine go_blk h.1 (is := [.iload_n 2, .iadd]) (pc' := 54) (ls' := [some (.inr (.inr (30, 0))), some (.inl x1), some (.inl r2), some (.inl r9)]) (st' := [.inl ((m9 41 0 (ix (((5 : Int32) * x1) + r9))) + r2), .inl (((5 : Int32) * x1) + r9), .inr (.inr (41, 0))]) (m' := (mset (mset m9 40 0 (ix r9) ((m9 40 0 (ix r9)) - r2)) 30 0 23 ((m9 30 0 23) + r2))) (by decide +kernel) rfl ?_
    refine go_iast h.1 (by decide +kernel) rfl rfl (fun b54 => ?_)
    refine go_blk h.1 (is := [.iconst 1]) (pc' := 56) (ls' := [some (.inr (.inr (30, 0))), some (.inl x1), some (.inl r2), some (.inl r9)]) (st' := [.inl (1 : Int32)]) (m' := (mset (mset (mset m9 40 0 (ix r9) ((m9 40 0 (ix r9)) - r2)) 30 0 23 ((m9 30 0 23) + r2)) 41 0 (ix (((5 : Int32) * x1) + r9)) ((m9 41 0 (ix (((5 : Int32) * x1) + r9))) + r2))) (by decide +kernel) rfl ?_
    exact go_zret h.1 h.2.2.2.2 (Or.inr rfl) (by decide +kernel)
  · refine go_blk h.1 (is := [.iconst 0]) (pc' := 20) (ls' := [some (.inr (.inr (30, 0))), some (.inl x1), some (.inl r2), some (.inl r9)]) (st' := [.inl (0 : Int32)]) (m' := m9) (by decide +kernel) rfl ?_
    exact go_zret h.1 h.2.2.2.2 (Or.inl rfl) (by decide +kernel)
theorem ctr_X7_payCredit (l : Launch) (A : AR → Nat) (dC : Nat → ClassId) (dI : Nat → Nat → Nat) (cs : Nat → ClassId) (x1 : Int32) (m : Mem) : Ctr l A dC dI cs yX7_payCredit prog_9_method_26_code 4 (some .boolean) 2 puI [.inr (.inr (30, 0)), .inl x1] m (f_X7_payCredit x1 m) :=
  ctr_of (P := P_X7) (by decide +kernel) rfl pt_X7 rfl rfl (fun X hC _ _ _ _ _ hR h0 h1 hr => g_X7_payCredit ⟨hC, hR, h0, h1, hr⟩ x1 m)

def f_X7_paySecret (x1 : Int32) (m : Mem) : Option (Int32 × Mem) :=
  if inB x1 5 = true then
    bnd (f_X7_isFish (m 38 0 (ix x1)) m) (fun r7 m7 =>
      if r7 = 0 then
        some ((0 : Int32), m7)
      else
        if inB x1 5 = true then
          if (m7 38 0 (ix x1)) = x1 then
            some ((0 : Int32), m7)
          else
            if inB x1 5 = true then
              if (((m7 30 0 21) >>> ((m7 38 0 (ix x1)) &&& 31)) &&& (1 : Int32)) = (1 : Int32) then
                some ((0 : Int32), m7)
              else
                if inB x1 5 = true then
                  some ((1 : Int32), (mset m7 30 0 21 ((m7 30 0 21) ||| ((1 : Int32) <<< ((m7 38 0 (ix x1)) &&& 31)))))
                else none
            else none
        else none)
  else none
theorem g_X7_paySecret {X : XT} (h : MX X prog_9_method_25_code P_X7 1 (some .boolean)) (x1 : Int32) (m : Mem) : Go X (Em X puI) 0 [some (.inr (.inr (30, 0))), some (.inl x1)] [] m (f_X7_paySecret x1 m) := by
  unfold f_X7_paySecret
  refine go_blk h.1 (is := [.aload_n 0, .aload_n 0, .getfield 31, .iload_n 1]) (pc' := 6) (ls' := [some (.inr (.inr (30, 0))), some (.inl x1)]) (st' := [.inl x1, .inr (.inr (38, 0)), .inr (.inr (30, 0))]) (m' := m) (by decide +kernel) rfl ?_
  refine go_iald h.1 (by decide +kernel) rfl rfl (fun b6 => ?_)
  show Go X (Em X puI) 7 [some (.inr (.inr (30, 0))), some (.inl x1)] [.inl (m 38 0 (ix x1)), .inr (.inr (30, 0))] m _
  refine go_callV h.1 (index := 128) (n := 1) (t := 30) (i := 0) (ci := 7) (nf := 35) (cz := (RX7, TX7, 35)) (as := [.inl (m 38 0 (ix x1))]) (rest := []) (ctr_X7_isFish (xl X) (xA X) (xC X) (xI X) (xk X) (m 38 0 (ix x1)) m) (by decide +kernel) rfl rfl wd_v_X7_128 rfl (h.room (by first | decide | omega) (by decide)) h.cl (Nat.le_of_ble_eq_true rfl) puI_ok rfl (fun r7 m7 _ => ?_)
  show Go X (Em X puI) 10 [some (.inr (.inr (30, 0))), some (.inl x1)] [.inl r7] m7 _
  refine go_ifeq h.1 (off := 30) 40 (by decide +kernel) (by decide) (fun c10 => ?_) (fun c10 => ?_)
  · refine go_blk h.1 (is := [.iconst 0]) (pc' := 41) (ls' := [some (.inr (.inr (30, 0))), some (.inl x1)]) (st' := [.inl (0 : Int32)]) (m' := m7) (by decide +kernel) rfl ?_
    exact go_zret h.1 h.2.2.2.2 (Or.inl rfl) (by decide +kernel)
  · refine go_blk h.1 (is := [.aload_n 0, .getfield 31, .iload_n 1]) (pc' := 18) (ls' := [some (.inr (.inr (30, 0))), some (.inl x1)]) (st' := [.inl x1, .inr (.inr (38, 0))]) (m' := m7) (by decide +kernel) rfl ?_
    refine go_iald h.1 (by decide +kernel) rfl rfl (fun b18 => ?_)
    show Go X (Em X puI) 19 [some (.inr (.inr (30, 0))), some (.inl x1)] [.inl (m7 38 0 (ix x1))] m7 _
    refine go_blk h.1 (is := [.iload_n 1]) (pc' := 20) (ls' := [some (.inr (.inr (30, 0))), some (.inl x1)]) (st' := [.inl x1, .inl (m7 38 0 (ix x1))]) (m' := m7) (by decide +kernel) rfl ?_
    refine go_icmpeq h.1 (off := 20) 40 (by decide +kernel) (by decide) (fun c20 => ?_) (fun c20 => ?_)
    · refine go_blk h.1 (is := [.iconst 0]) (pc' := 41) (ls' := [some (.inr (.inr (30, 0))), some (.inl x1)]) (st' := [.inl (0 : Int32)]) (m' := m7) (by decide +kernel) rfl ?_
      exact go_zret h.1 h.2.2.2.2 (Or.inl rfl) (by decide +kernel)
    · refine go_blk h.1 (is := [.aload_n 0, .getfield 137, .aload_n 0, .getfield 31, .iload_n 1]) (pc' := 32) (ls' := [some (.inr (.inr (30, 0))), some (.inl x1)]) (st' := [.inl x1, .inr (.inr (38, 0)), .inl (m7 30 0 21)]) (m' := m7) (by decide +kernel) rfl ?_
      refine go_iald h.1 (by decide +kernel) rfl rfl (fun b32 => ?_)
      show Go X (Em X puI) 33 [some (.inr (.inr (30, 0))), some (.inl x1)] [.inl (m7 38 0 (ix x1)), .inl (m7 30 0 21)] m7 _
      refine go_blk h.1 (is := [.ishr, .iconst 1, .iand, .iconst 1]) (pc' := 37) (ls' := [some (.inr (.inr (30, 0))), some (.inl x1)]) (st' := [.inl (1 : Int32), .inl (((m7 30 0 21) >>> ((m7 38 0 (ix x1)) &&& 31)) &&& (1 : Int32))]) (m' := m7) (by decide +kernel) rfl ?_
      refine go_icmpne h.1 (off := 5) 42 (by decide +kernel) (by decide) (fun c37 => ?_) (fun c37 => ?_)
      · refine go_blk h.1 (is := [.aload_n 0, .dup, .getfield 137, .iconst 1, .aload_n 0, .getfield 31, .iload_n 1]) (pc' := 53) (ls' := [some (.inr (.inr (30, 0))), some (.inl x1)]) (st' := [.inl x1, .inr (.inr (38, 0)), .inl (1 : Int32), .inl (m7 30 0 21), .inr (.inr (30, 0))]) (m' := m7) (by decide +kernel) rfl ?_
        refine go_iald h.1 (by decide +kernel) rfl rfl (fun b53 => ?_)
        show Go X (Em X puI) 54 [some (.inr (.inr (30, 0))), some (.inl x1)] [.inl (m7 38 0 (ix x1)), .inl (1 : Int32), .inl (m7 30 0 21), .inr (.inr (30, 0))] m7 _
        refine go_blk h.1 (is := [.ishl, .ior, .putfield 137, .iconst 1]) (pc' := 60) (ls' := [some (.inr (.inr (30, 0))), some (.inl x1)]) (st' := [.inl (1 : Int32)]) (m' := (mset m7 30 0 21 ((m7 30 0 21) ||| ((1 : Int32) <<< ((m7 38 0 (ix x1)) &&& 31))))) (by decide +kernel) rfl ?_
        exact go_zret h.1 h.2.2.2.2 (Or.inr rfl) (by decide +kernel)
      · refine go_blk h.1 (is := [.iconst 0]) (pc' := 41) (ls' := [some (.inr (.inr (30, 0))), some (.inl x1)]) (st' := [.inl (0 : Int32)]) (m' := m7) (by decide +kernel) rfl ?_
        exact go_zret h.1 h.2.2.2.2 (Or.inl rfl) (by decide +kernel)
theorem ctr_X7_paySecret (l : Launch) (A : AR → Nat) (dC : Nat → ClassId) (dI : Nat → Nat → Nat) (cs : Nat → ClassId) (x1 : Int32) (m : Mem) : Ctr l A dC dI cs yX7_paySecret prog_9_method_25_code 2 (some .boolean) 1 puI [.inr (.inr (30, 0)), .inl x1] m (f_X7_paySecret x1 m) :=
  ctr_of (P := P_X7) (by decide +kernel) rfl pt_X7 rfl rfl (fun X hC _ _ _ _ _ hR h0 h1 hr => g_X7_paySecret ⟨hC, hR, h0, h1, hr⟩ x1 m)

def f_X7_paySong (x1 : Int32) (m : Mem) : Option (Int32 × Mem) :=
  if inB x1 5 = true then
    if (m 37 0 (ix x1)) = (6 : Int32) then
      some ((0 : Int32), m)
    else
      if inB x1 5 = true then
        if (((m 30 0 22) >>> ((m 37 0 (ix x1)) &&& 31)) &&& (1 : Int32)) = (1 : Int32) then
          some ((0 : Int32), m)
        else
          if inB x1 5 = true then
            some ((1 : Int32), (mset m 30 0 22 ((m 30 0 22) ||| ((1 : Int32) <<< ((m 37 0 (ix x1)) &&& 31)))))
          else none
      else none
  else none
theorem g_X7_paySong {X : XT} (h : MX X prog_9_method_24_code P_X7 0 (some .boolean)) (x1 : Int32) (m : Mem) : Go X (Em X puI) 0 [some (.inr (.inr (30, 0))), some (.inl x1)] [] m (f_X7_paySong x1 m) := by
  unfold f_X7_paySong
  refine go_blk h.1 (is := [.aload_n 0, .getfield 28, .iload_n 1]) (pc' := 5) (ls' := [some (.inr (.inr (30, 0))), some (.inl x1)]) (st' := [.inl x1, .inr (.inr (37, 0))]) (m' := m) (by decide +kernel) rfl ?_
  refine go_iald h.1 (by decide +kernel) rfl rfl (fun b5 => ?_)
  show Go X (Em X puI) 6 [some (.inr (.inr (30, 0))), some (.inl x1)] [.inl (m 37 0 (ix x1))] m _
  refine go_blk h.1 (is := [.bipush 6]) (pc' := 8) (ls' := [some (.inr (.inr (30, 0))), some (.inl x1)]) (st' := [.inl (6 : Int32), .inl (m 37 0 (ix x1))]) (m' := m) (by decide +kernel) rfl ?_
  refine go_icmpeq h.1 (off := 20) 28 (by decide +kernel) (by decide) (fun c8 => ?_) (fun c8 => ?_)
  · refine go_blk h.1 (is := [.iconst 0]) (pc' := 29) (ls' := [some (.inr (.inr (30, 0))), some (.inl x1)]) (st' := [.inl (0 : Int32)]) (m' := m) (by decide +kernel) rfl ?_
    exact go_zret h.1 h.2.2.2.2 (Or.inl rfl) (by decide +kernel)
  · refine go_blk h.1 (is := [.aload_n 0, .getfield 140, .aload_n 0, .getfield 28, .iload_n 1]) (pc' := 20) (ls' := [some (.inr (.inr (30, 0))), some (.inl x1)]) (st' := [.inl x1, .inr (.inr (37, 0)), .inl (m 30 0 22)]) (m' := m) (by decide +kernel) rfl ?_
    refine go_iald h.1 (by decide +kernel) rfl rfl (fun b20 => ?_)
    show Go X (Em X puI) 21 [some (.inr (.inr (30, 0))), some (.inl x1)] [.inl (m 37 0 (ix x1)), .inl (m 30 0 22)] m _
    refine go_blk h.1 (is := [.ishr, .iconst 1, .iand, .iconst 1]) (pc' := 25) (ls' := [some (.inr (.inr (30, 0))), some (.inl x1)]) (st' := [.inl (1 : Int32), .inl (((m 30 0 22) >>> ((m 37 0 (ix x1)) &&& 31)) &&& (1 : Int32))]) (m' := m) (by decide +kernel) rfl ?_
    refine go_icmpne h.1 (off := 5) 30 (by decide +kernel) (by decide) (fun c25 => ?_) (fun c25 => ?_)
    · refine go_blk h.1 (is := [.aload_n 0, .dup, .getfield 140, .iconst 1, .aload_n 0, .getfield 28, .iload_n 1]) (pc' := 41) (ls' := [some (.inr (.inr (30, 0))), some (.inl x1)]) (st' := [.inl x1, .inr (.inr (37, 0)), .inl (1 : Int32), .inl (m 30 0 22), .inr (.inr (30, 0))]) (m' := m) (by decide +kernel) rfl ?_
      refine go_iald h.1 (by decide +kernel) rfl rfl (fun b41 => ?_)
      show Go X (Em X puI) 42 [some (.inr (.inr (30, 0))), some (.inl x1)] [.inl (m 37 0 (ix x1)), .inl (1 : Int32), .inl (m 30 0 22), .inr (.inr (30, 0))] m _
      refine go_blk h.1 (is := [.ishl, .ior, .putfield 140, .iconst 1]) (pc' := 48) (ls' := [some (.inr (.inr (30, 0))), some (.inl x1)]) (st' := [.inl (1 : Int32)]) (m' := (mset m 30 0 22 ((m 30 0 22) ||| ((1 : Int32) <<< ((m 37 0 (ix x1)) &&& 31))))) (by decide +kernel) rfl ?_
      exact go_zret h.1 h.2.2.2.2 (Or.inr rfl) (by decide +kernel)
    · refine go_blk h.1 (is := [.iconst 0]) (pc' := 29) (ls' := [some (.inr (.inr (30, 0))), some (.inl x1)]) (st' := [.inl (0 : Int32)]) (m' := m) (by decide +kernel) rfl ?_
      exact go_zret h.1 h.2.2.2.2 (Or.inl rfl) (by decide +kernel)
theorem ctr_X7_paySong (l : Launch) (A : AR → Nat) (dC : Nat → ClassId) (dI : Nat → Nat → Nat) (cs : Nat → ClassId) (x1 : Int32) (m : Mem) : Ctr l A dC dI cs yX7_paySong prog_9_method_24_code 2 (some .boolean) 0 puI [.inr (.inr (30, 0)), .inl x1] m (f_X7_paySong x1 m) :=
  ctr_of (P := P_X7) (by decide +kernel) rfl pt_X7 rfl rfl (fun X hC _ _ _ _ _ hR h0 h1 hr => g_X7_paySong ⟨hC, hR, h0, h1, hr⟩ x1 m)

def f_X7_payScales (x1 : Int32) (m : Mem) : Option (Int32 × Mem) :=
  bnd (f_X7_tollNow x1 m) (fun r2 m2 =>
    if inB x1 5 = true then
      if r2 ≤ (m2 40 0 (ix x1)) then
        if inB x1 5 = true then
          if inB x1 5 = true then
            some ((1 : Int32), (mset (mset m2 40 0 (ix x1) ((m2 40 0 (ix x1)) - r2)) 30 0 23 ((m2 30 0 23) + r2)))
          else none
        else none
      else
        some ((0 : Int32), m2)
    else none)
theorem g_X7_payScales {X : XT} (h : MX X prog_9_method_23_code P_X7 2 (some .boolean)) (x1 : Int32) (m : Mem) : Go X (Em X puI) 0 [some (.inr (.inr (30, 0))), some (.inl x1), none] [] m (f_X7_payScales x1 m) := by
  unfold f_X7_payScales
  refine go_blk h.1 (is := [.aload_n 0, .iload_n 1]) (pc' := 2) (ls' := [some (.inr (.inr (30, 0))), some (.inl x1), none]) (st' := [.inl x1, .inr (.inr (30, 0))]) (m' := m) (by decide +kernel) rfl ?_
  refine go_callV h.1 (index := 146) (n := 1) (t := 30) (i := 0) (ci := 7) (nf := 35) (cz := (RX7, TX7, 35)) (as := [.inl x1]) (rest := []) (ctr_X7_tollNow (xl X) (xA X) (xC X) (xI X) (xk X) x1 m) (by decide +kernel) rfl rfl wd_v_X7_146 rfl (h.room (by first | decide | omega) (by decide)) h.cl (Nat.le_of_ble_eq_true rfl) puI_ok rfl (fun r2 m2 _ => ?_)
  show Go X (Em X puI) 5 [some (.inr (.inr (30, 0))), some (.inl x1), none] [.inl r2] m2 _
  refine go_blk h.1 (is := [.istore_n 2, .aload_n 0, .getfield 37, .iload_n 1]) (pc' := 11) (ls' := [some (.inr (.inr (30, 0))), some (.inl x1), some (.inl r2)]) (st' := [.inl x1, .inr (.inr (40, 0))]) (m' := m2) (by decide +kernel) rfl ?_
  refine go_iald h.1 (by decide +kernel) rfl rfl (fun b11 => ?_)
  show Go X (Em X puI) 12 [some (.inr (.inr (30, 0))), some (.inl x1), some (.inl r2)] [.inl (m2 40 0 (ix x1))] m2 _
  refine go_blk h.1 (is := [.iload_n 2]) (pc' := 13) (ls' := [some (.inr (.inr (30, 0))), some (.inl x1), some (.inl r2)]) (st' := [.inl r2, .inl (m2 40 0 (ix x1))]) (m' := m2) (by decide +kernel) rfl ?_
  refine go_icmpge h.1 (off := 5) 18 (by decide +kernel) (by decide) (fun c13 => ?_) (fun c13 => ?_)
  · refine go_blk h.1 (is := [.aload_n 0, .getfield 37, .iload_n 1, .dup2]) (pc' := 24) (ls' := [some (.inr (.inr (30, 0))), some (.inl x1), some (.inl r2)]) (st' := [.inl x1, .inr (.inr (40, 0)), .inl x1, .inr (.inr (40, 0))]) (m' := m2) (by decide +kernel) rfl ?_
    refine go_iald h.1 (by decide +kernel) rfl rfl (fun b24 => ?_)
    show Go X (Em X puI) 25 [some (.inr (.inr (30, 0))), some (.inl x1), some (.inl r2)] [.inl (m2 40 0 (ix x1)), .inl x1, .inr (.inr (40, 0))] m2 _
    refine go_blk h.1 (is := [.iload_n 2, .isub]) (pc' := 27) (ls' := [some (.inr (.inr (30, 0))), some (.inl x1), some (.inl r2)]) (st' := [.inl ((m2 40 0 (ix x1)) - r2), .inl x1, .inr (.inr (40, 0))]) (m' := m2) (by decide +kernel) rfl ?_
    refine go_iast h.1 (by decide +kernel) rfl rfl (fun b27 => ?_)
    refine go_blk h.1 (is := [.aload_n 0, .dup, .getfield 143, .iload_n 2, .iadd, .putfield 143, .iconst 1]) (pc' := 39) (ls' := [some (.inr (.inr (30, 0))), some (.inl x1), some (.inl r2)]) (st' := [.inl (1 : Int32)]) (m' := (mset (mset m2 40 0 (ix x1) ((m2 40 0 (ix x1)) - r2)) 30 0 23 ((m2 30 0 23) + r2))) (by decide +kernel) rfl ?_
    exact go_zret h.1 h.2.2.2.2 (Or.inr rfl) (by decide +kernel)
  · refine go_blk h.1 (is := [.iconst 0]) (pc' := 17) (ls' := [some (.inr (.inr (30, 0))), some (.inl x1), some (.inl r2)]) (st' := [.inl (0 : Int32)]) (m' := m2) (by decide +kernel) rfl ?_
    exact go_zret h.1 h.2.2.2.2 (Or.inl rfl) (by decide +kernel)
theorem ctr_X7_payScales (l : Launch) (A : AR → Nat) (dC : Nat → ClassId) (dI : Nat → Nat → Nat) (cs : Nat → ClassId) (x1 : Int32) (m : Mem) : Ctr l A dC dI cs yX7_payScales prog_9_method_23_code 3 (some .boolean) 2 puI [.inr (.inr (30, 0)), .inl x1] m (f_X7_payScales x1 m) :=
  ctr_of (P := P_X7) (by decide +kernel) rfl pt_X7 rfl rfl (fun X hC _ _ _ _ _ hR h0 h1 hr => g_X7_payScales ⟨hC, hR, h0, h1, hr⟩ x1 m)

def f_X7_pass_j43 (s0 : Int32) (x1 : Int32) (m : Mem) : Option (Int32 × Mem) :=
  if s0 = 0 then
    if s0 = 0 ∨ s0 = 1 then some (s0, (mset m 30 0 20 ((m 30 0 20) ^^^ (0 : Int32)))) else none
  else
    if s0 = 0 ∨ s0 = 1 then some (s0, (mset m 30 0 20 ((m 30 0 20) ^^^ ((1 : Int32) <<< (x1 &&& 31))))) else none
theorem g_X7_pass_j43 {X : XT} (h : MX X prog_9_method_27_code P_X7 3 (some .boolean)) (s0 : Int32) (x1 : Int32) (m : Mem) (o2 : Option AV) (o3 : Option AV) : Go X (Em X puI) 43 [some (.inr (.inr (30, 0))), some (.inl x1), o2, o3] [.inl s0] m (f_X7_pass_j43 s0 x1 m) := by
  unfold f_X7_pass_j43
  refine go_blk h.1 (is := [.istore_n 3, .aload_n 0, .dup, .getfield 134, .iload_n 3]) (pc' := 50) (ls' := [some (.inr (.inr (30, 0))), some (.inl x1), (clrL o2), some (.inl s0)]) (st' := [.inl s0, .inl (m 30 0 20), .inr (.inr (30, 0))]) (m' := m) (by decide +kernel) rfl ?_
  refine go_ifeq h.1 (off := 9) 59 (by decide +kernel) (by decide) (fun c50 => ?_) (fun c50 => ?_)
  · refine go_blk h.1 (is := [.iconst 0, .ixor, .putfield 134, .iload_n 3]) (pc' := 65) (ls' := [some (.inr (.inr (30, 0))), some (.inl x1), (clrL o2), some (.inl s0)]) (st' := [.inl s0]) (m' := (mset m 30 0 20 ((m 30 0 20) ^^^ (0 : Int32)))) (by decide +kernel) rfl ?_
    exact go_zretG h.1 h.2.2.2.2 (by decide +kernel)
  · refine go_blk h.1 (is := [.iconst 1, .iload_n 1, .ishl]) (pc' := 56) (ls' := [some (.inr (.inr (30, 0))), some (.inl x1), (clrL o2), some (.inl s0)]) (st' := [.inl ((1 : Int32) <<< (x1 &&& 31)), .inl (m 30 0 20), .inr (.inr (30, 0))]) (m' := m) (by decide +kernel) rfl ?_
    refine go_goto h.1 (off := 4) 60 (by decide +kernel) (by decide) ?_
    refine go_blk h.1 (is := [.ixor, .putfield 134, .iload_n 3]) (pc' := 65) (ls' := [some (.inr (.inr (30, 0))), some (.inl x1), (clrL o2), some (.inl s0)]) (st' := [.inl s0]) (m' := (mset m 30 0 20 ((m 30 0 20) ^^^ ((1 : Int32) <<< (x1 &&& 31))))) (by decide +kernel) rfl ?_
    exact go_zretG h.1 h.2.2.2.2 (by decide +kernel)

def f_X7_pass (x1 : Int32) (x2 : Int32) (m : Mem) : Option (Int32 × Mem) :=
  if x2 = 0 then
    bnd (f_X7_payScales x1 m) (fun r6 m6 =>
      f_X7_pass_j43 r6 x1 m6)
  else
    if x2 = (1 : Int32) then
      bnd (f_X7_paySong x1 m) (fun r19 m19 =>
        f_X7_pass_j43 r19 x1 m19)
    else
      if x2 = (2 : Int32) then
        bnd (f_X7_paySecret x1 m) (fun r32 m32 =>
          f_X7_pass_j43 r32 x1 m32)
      else
        bnd (f_X7_payCredit x1 m) (fun r40 m40 =>
          f_X7_pass_j43 r40 x1 m40)
theorem g_X7_pass {X : XT} (h : MX X prog_9_method_27_code P_X7 3 (some .boolean)) (x1 : Int32) (x2 : Int32) (m : Mem) : Go X (Em X puI) 0 [some (.inr (.inr (30, 0))), some (.inl x1), some (.inl x2), none] [] m (f_X7_pass x1 x2 m) := by
  unfold f_X7_pass
  refine go_blk h.1 (is := [.iload_n 2]) (pc' := 1) (ls' := [some (.inr (.inr (30, 0))), some (.inl x1), some (.inl x2), none]) (st' := [.inl x2]) (m' := m) (by decide +kernel) rfl ?_
  refine go_ifne h.1 (off := 11) 12 (by decide +kernel) (by decide) (fun c1 => ?_) (fun c1 => ?_)
  · refine go_blk h.1 (is := [.iload_n 2, .iconst 1]) (pc' := 14) (ls' := [some (.inr (.inr (30, 0))), some (.inl x1), some (.inl x2), none]) (st' := [.inl (1 : Int32), .inl x2]) (m' := m) (by decide +kernel) rfl ?_
    refine go_icmpne h.1 (off := 11) 25 (by decide +kernel) (by decide) (fun c14 => ?_) (fun c14 => ?_)
    · refine go_blk h.1 (is := [.iload_n 2, .iconst 2]) (pc' := 27) (ls' := [some (.inr (.inr (30, 0))), some (.inl x1), some (.inl x2), none]) (st' := [.inl (2 : Int32), .inl x2]) (m' := m) (by decide +kernel) rfl ?_
      refine go_icmpne h.1 (off := 11) 38 (by decide +kernel) (by decide) (fun c27 => ?_) (fun c27 => ?_)
      · refine go_blk h.1 (is := [.aload_n 0, .iload_n 1]) (pc' := 40) (ls' := [some (.inr (.inr (30, 0))), some (.inl x1), some (.inl x2), none]) (st' := [.inl x1, .inr (.inr (30, 0))]) (m' := m) (by decide +kernel) rfl ?_
        refine go_callV h.1 (index := 162) (n := 1) (t := 30) (i := 0) (ci := 7) (nf := 35) (cz := (RX7, TX7, 35)) (as := [.inl x1]) (rest := []) (ctr_X7_payCredit (xl X) (xA X) (xC X) (xI X) (xk X) x1 m) (by decide +kernel) rfl rfl wd_v_X7_162 rfl (h.room (by first | decide | omega) (by decide)) h.cl (Nat.le_of_ble_eq_true rfl) puI_ok rfl (fun r40 m40 _ => ?_)
        show Go X (Em X puI) 43 [some (.inr (.inr (30, 0))), some (.inl x1), some (.inl x2), none] [.inl r40] m40 _
        exact g_X7_pass_j43 h r40 x1 m40 (some (.inl x2)) (none)
      · refine go_blk h.1 (is := [.aload_n 0, .iload_n 1]) (pc' := 32) (ls' := [some (.inr (.inr (30, 0))), some (.inl x1), some (.inl x2), none]) (st' := [.inl x1, .inr (.inr (30, 0))]) (m' := m) (by decide +kernel) rfl ?_
        refine go_callV h.1 (index := 159) (n := 1) (t := 30) (i := 0) (ci := 7) (nf := 35) (cz := (RX7, TX7, 35)) (as := [.inl x1]) (rest := []) (ctr_X7_paySecret (xl X) (xA X) (xC X) (xI X) (xk X) x1 m) (by decide +kernel) rfl rfl wd_v_X7_159 rfl (h.room (by first | decide | omega) (by decide)) h.cl (Nat.le_of_ble_eq_true rfl) puI_ok rfl (fun r32 m32 _ => ?_)
        show Go X (Em X puI) 35 [some (.inr (.inr (30, 0))), some (.inl x1), some (.inl x2), none] [.inl r32] m32 _
        refine go_goto h.1 (off := 8) 43 (by decide +kernel) (by decide) ?_
        exact g_X7_pass_j43 h r32 x1 m32 (some (.inl x2)) (none)
    · refine go_blk h.1 (is := [.aload_n 0, .iload_n 1]) (pc' := 19) (ls' := [some (.inr (.inr (30, 0))), some (.inl x1), some (.inl x2), none]) (st' := [.inl x1, .inr (.inr (30, 0))]) (m' := m) (by decide +kernel) rfl ?_
      refine go_callV h.1 (index := 156) (n := 1) (t := 30) (i := 0) (ci := 7) (nf := 35) (cz := (RX7, TX7, 35)) (as := [.inl x1]) (rest := []) (ctr_X7_paySong (xl X) (xA X) (xC X) (xI X) (xk X) x1 m) (by decide +kernel) rfl rfl wd_v_X7_156 rfl (h.room (by first | decide | omega) (by decide)) h.cl (Nat.le_of_ble_eq_true rfl) puI_ok rfl (fun r19 m19 _ => ?_)
      show Go X (Em X puI) 22 [some (.inr (.inr (30, 0))), some (.inl x1), some (.inl x2), none] [.inl r19] m19 _
      refine go_goto h.1 (off := 21) 43 (by decide +kernel) (by decide) ?_
      exact g_X7_pass_j43 h r19 x1 m19 (some (.inl x2)) (none)
  · refine go_blk h.1 (is := [.aload_n 0, .iload_n 1]) (pc' := 6) (ls' := [some (.inr (.inr (30, 0))), some (.inl x1), some (.inl x2), none]) (st' := [.inl x1, .inr (.inr (30, 0))]) (m' := m) (by decide +kernel) rfl ?_
    refine go_callV h.1 (index := 153) (n := 1) (t := 30) (i := 0) (ci := 7) (nf := 35) (cz := (RX7, TX7, 35)) (as := [.inl x1]) (rest := []) (ctr_X7_payScales (xl X) (xA X) (xC X) (xI X) (xk X) x1 m) (by decide +kernel) rfl rfl wd_v_X7_153 rfl (h.room (by first | decide | omega) (by decide)) h.cl (Nat.le_of_ble_eq_true rfl) puI_ok rfl (fun r6 m6 _ => ?_)
    show Go X (Em X puI) 9 [some (.inr (.inr (30, 0))), some (.inl x1), some (.inl x2), none] [.inl r6] m6 _
    refine go_goto h.1 (off := 34) 43 (by decide +kernel) (by decide) ?_
    exact g_X7_pass_j43 h r6 x1 m6 (some (.inl x2)) (none)
theorem ctr_X7_pass (l : Launch) (A : AR → Nat) (dC : Nat → ClassId) (dI : Nat → Nat → Nat) (cs : Nat → ClassId) (x1 : Int32) (x2 : Int32) (m : Mem) : Ctr l A dC dI cs yX7_pass prog_9_method_27_code 4 (some .boolean) 3 puI [.inr (.inr (30, 0)), .inl x1, .inl x2] m (f_X7_pass x1 x2 m) :=
  ctr_of (P := P_X7) (by decide +kernel) rfl pt_X7 rfl rfl (fun X hC _ _ _ _ _ hR h0 h1 hr => g_X7_pass ⟨hC, hR, h0, h1, hr⟩ x1 x2 m)

def f_X7_go_b6 (next : Int32 × Mem → Option (Int32 × Mem)) (exit : Mem → Option (Int32 × Mem)) (s : Int32 × Mem) : Option (Int32 × Mem) :=
  if (s.2 30 0 24) ≤ s.1 then
    exit (s.2)
  else
    if inB s.1 20 = true then
      if inB s.1 20 = true then
        bnd (f_X7_pass (s.2 42 0 (ix s.1)) (s.2 43 0 (ix s.1)) s.2) (fun r27 m27 =>
          if r27 = 0 then
            some (s.1, m27)
          else
            next ((s.1 + (1 : Int32)), m27))
      else none
    else none
theorem g_X7_go_b6 {X : XT} (h : MX X prog_9_method_29_code P_X7 4 (some .int)) (next : Int32 × Mem → Option (Int32 × Mem)) (exit : Mem → Option (Int32 × Mem)) (hn : ∀ (y1 : Int32) (n : Mem), Go X (Em X puI) 6 [some (.inr (.inr (30, 0))), some (.inl y1)] [] n (next (y1, n))) (hx : ∀ (n : Mem) (o0 : Option AV) (o1 : Option AV), Go X (Em X puI) 41 [o0, o1] [] n (exit (n))) (s : Int32 × Mem) : Go X (Em X puI) 6 [some (.inr (.inr (30, 0))), some (.inl s.1)] [] s.2 (f_X7_go_b6 next exit s) := by
  unfold f_X7_go_b6
  refine go_blk h.1 (is := [.iload_n 1, .aload_n 0, .getfield 165]) (pc' := 11) (ls' := [some (.inr (.inr (30, 0))), some (.inl s.1)]) (st' := [.inl (s.2 30 0 24), .inl s.1]) (m' := s.2) (by decide +kernel) rfl ?_
  refine go_icmpge h.1 (off := 30) 41 (by decide +kernel) (by decide) (fun c11 => ?_) (fun c11 => ?_)
  · exact hx s.2 (some (.inr (.inr (30, 0)))) (some (.inl s.1))
  · refine go_blk h.1 (is := [.aload_n 0, .aload_n 0, .getfield 43, .iload_n 1]) (pc' := 20) (ls' := [some (.inr (.inr (30, 0))), some (.inl s.1)]) (st' := [.inl s.1, .inr (.inr (42, 0)), .inr (.inr (30, 0))]) (m' := s.2) (by decide +kernel) rfl ?_
    refine go_iald h.1 (by decide +kernel) rfl rfl (fun b20 => ?_)
    show Go X (Em X puI) 21 [some (.inr (.inr (30, 0))), some (.inl s.1)] [.inl (s.2 42 0 (ix s.1)), .inr (.inr (30, 0))] s.2 _
    refine go_blk h.1 (is := [.aload_n 0, .getfield 46, .iload_n 1]) (pc' := 26) (ls' := [some (.inr (.inr (30, 0))), some (.inl s.1)]) (st' := [.inl s.1, .inr (.inr (43, 0)), .inl (s.2 42 0 (ix s.1)), .inr (.inr (30, 0))]) (m' := s.2) (by decide +kernel) rfl ?_
    refine go_iald h.1 (by decide +kernel) rfl rfl (fun b26 => ?_)
    show Go X (Em X puI) 27 [some (.inr (.inr (30, 0))), some (.inl s.1)] [.inl (s.2 43 0 (ix s.1)), .inl (s.2 42 0 (ix s.1)), .inr (.inr (30, 0))] s.2 _
    refine go_callV h.1 (index := 171) (n := 2) (t := 30) (i := 0) (ci := 7) (nf := 35) (cz := (RX7, TX7, 35)) (as := [.inl (s.2 42 0 (ix s.1)), .inl (s.2 43 0 (ix s.1))]) (rest := []) (ctr_X7_pass (xl X) (xA X) (xC X) (xI X) (xk X) (s.2 42 0 (ix s.1)) (s.2 43 0 (ix s.1)) s.2) (by decide +kernel) rfl rfl wd_v_X7_171 rfl (h.room (by first | decide | omega) (by decide)) h.cl (Nat.le_of_ble_eq_true rfl) puI_ok rfl (fun r27 m27 _ => ?_)
    show Go X (Em X puI) 30 [some (.inr (.inr (30, 0))), some (.inl s.1)] [.inl r27] m27 _
    refine go_ifne h.1 (off := 5) 35 (by decide +kernel) (by decide) (fun c30 => ?_) (fun c30 => ?_)
    · refine go_blk h.1 (is := [.iinc 1 1]) (pc' := 38) (ls' := [some (.inr (.inr (30, 0))), some (.inl (s.1 + (1 : Int32)))]) (st' := []) (m' := m27) (by decide +kernel) rfl ?_
      refine go_goto h.1 (off := -32) 6 (by decide +kernel) (by decide) ?_
      exact hn (s.1 + (1 : Int32)) m27
    · refine go_blk h.1 (is := [.iload_n 1]) (pc' := 34) (ls' := [some (.inr (.inr (30, 0))), some (.inl s.1)]) (st' := [.inl s.1]) (m' := m27) (by decide +kernel) rfl ?_
      exact go_iret h.1 h.2.2.2.2 (by decide +kernel)

def f_X7_go (m : Mem) : Option (Int32 × Mem) :=
  bnd (f_X7_begin m) (fun _ m1 =>
    lpk (f_X7_go_b6) fuelN ((0 : Int32), m1) (fun t6 =>
      some ((-9 : Int32), t6)))
theorem g_X7_go {X : XT} (h : MX X prog_9_method_29_code P_X7 4 (some .int)) (m : Mem) : Go X (Em X puI) 0 [some (.inr (.inr (30, 0))), none] [] m (f_X7_go m) := by
  unfold f_X7_go
  refine go_blk h.1 (is := [.aload_n 0]) (pc' := 1) (ls' := [some (.inr (.inr (30, 0))), none]) (st' := [.inr (.inr (30, 0))]) (m' := m) (by decide +kernel) rfl ?_
  refine go_callV h.1 (index := 168) (n := 0) (t := 30) (i := 0) (ci := 7) (nf := 35) (cz := (RX7, TX7, 35)) (as := []) (rest := []) (ctr_X7_begin (xl X) (xA X) (xC X) (xI X) (xk X) m) (by decide +kernel) rfl rfl wd_v_X7_168 rfl (h.room (by first | decide | omega) (by decide)) h.cl (Nat.le_of_ble_eq_true rfl) puV_ok rfl (fun r1 m1 _ => ?_)
  show Go X (Em X puI) 4 [some (.inr (.inr (30, 0))), none] [] m1 _
  refine go_blk h.1 (is := [.iconst 0, .istore_n 1]) (pc' := 6) (ls' := [some (.inr (.inr (30, 0))), some (.inl (0 : Int32))]) (st' := []) (m' := m1) (by decide +kernel) rfl ?_
  refine go_lp1 (hd := fun (y1 : Int32) (n : Mem) o => Go X (Em X puI) 6 [some (.inr (.inr (30, 0))), some (.inl y1)] [] n o) (fun _ _ => go_none) (fun y1 n nx_ hn_ => g_X7_go_b6 h nx_ _ hn_ (fun z_6 o0_6 o1_6 => ?_) (y1, n)) fuelN (0 : Int32) m1
  refine go_blk h.1 (is := [.bipush (-9)]) (pc' := 43) (ls' := [o0_6, o1_6]) (st' := [.inl (-9 : Int32)]) (m' := z_6) (by decide +kernel) rfl ?_
  exact go_iret h.1 h.2.2.2.2 (by decide +kernel)
theorem ctr_X7_go (l : Launch) (A : AR → Nat) (dC : Nat → ClassId) (dI : Nat → Nat → Nat) (cs : Nat → ClassId) (m : Mem) : Ctr l A dC dI cs yX7_go prog_9_method_29_code 2 (some .int) 4 puI [.inr (.inr (30, 0))] m (f_X7_go m) :=
  ctr_of (P := P_X7) (by decide +kernel) rfl pt_X7 rfl rfl (fun X hC _ _ _ _ _ hR h0 h1 hr => g_X7_go ⟨hC, hR, h0, h1, hr⟩ m)

def f_X7_tellPasses (x1 : Int32) (m : Mem) : Option (Int32 × Mem) :=
  if x1 = (0 : Int32) then
    some ((m 30 0 23), m)
  else
    if x1 = (1 : Int32) then
      bnd (f_X7_isFish (x1 - (10 : Int32)) m) (fun r61 m61 =>
        if r61 = 0 then
          some ((-9 : Int32), m61)
        else
          if inB (x1 - (10 : Int32)) 5 = true then
            some ((m61 40 0 (ix (x1 - (10 : Int32)))), m61)
          else none)
    else
      if x1 = (2 : Int32) then
        some ((m 30 0 22), m)
      else
        if x1 = (3 : Int32) then
          some ((m 30 0 21), m)
        else
          if x1 = (4 : Int32) then
            some ((m 30 0 20), m)
          else
            bnd (f_X7_isFish (x1 - (10 : Int32)) m) (fun r61 m61 =>
              if r61 = 0 then
                some ((-9 : Int32), m61)
              else
                if inB (x1 - (10 : Int32)) 5 = true then
                  some ((m61 40 0 (ix (x1 - (10 : Int32)))), m61)
                else none)
theorem g_X7_tellPasses {X : XT} (h : MX X prog_9_method_33_code P_X7 1 (some .int)) (x1 : Int32) (m : Mem) : Go X (Em X puI) 0 [some (.inr (.inr (30, 0))), some (.inl x1)] [] m (f_X7_tellPasses x1 m) := by
  unfold f_X7_tellPasses
  refine go_blk h.1 (is := [.iload_n 1]) (pc' := 1) (ls' := [some (.inr (.inr (30, 0))), some (.inl x1)]) (st' := [.inl x1]) (m' := m) (by decide +kernel) rfl ?_
  refine go_ite (fun w1_0 => ?_) (fun w1_0 => ?_)
  · refine go_tsIn h.1 (dflt := 55) (lo := 0) (hi := 4) (offs := #[35, 55, 40, 45, 50]) (len := 35) (off := 35) (0 : Int32) 36 w1_0 (by decide +kernel) (by decide) rfl (by decide) ?_
    refine go_blk h.1 (is := [.aload_n 0, .getfield 143]) (pc' := 40) (ls' := [some (.inr (.inr (30, 0))), some (.inl x1)]) (st' := [.inl (m 30 0 23)]) (m' := m) (by decide +kernel) rfl ?_
    exact go_iret h.1 h.2.2.2.2 (by decide +kernel)
  · refine go_ite (fun w1_1 => ?_) (fun w1_1 => ?_)
    · refine go_tsIn h.1 (dflt := 55) (lo := 0) (hi := 4) (offs := #[35, 55, 40, 45, 50]) (len := 35) (off := 55) (1 : Int32) 56 w1_1 (by decide +kernel) (by decide) rfl (by decide) ?_
      refine go_blk h.1 (is := [.aload_n 0, .iload_n 1, .bipush 10, .isub]) (pc' := 61) (ls' := [some (.inr (.inr (30, 0))), some (.inl x1)]) (st' := [.inl (x1 - (10 : Int32)), .inr (.inr (30, 0))]) (m' := m) (by decide +kernel) rfl ?_
      refine go_callV h.1 (index := 128) (n := 1) (t := 30) (i := 0) (ci := 7) (nf := 35) (cz := (RX7, TX7, 35)) (as := [.inl (x1 - (10 : Int32))]) (rest := []) (ctr_X7_isFish (xl X) (xA X) (xC X) (xI X) (xk X) (x1 - (10 : Int32)) m) (by decide +kernel) rfl rfl wd_v_X7_128 rfl (h.room (by first | decide | omega) (by decide)) h.cl (Nat.le_of_ble_eq_true rfl) puI_ok rfl (fun r61 m61 _ => ?_)
      show Go X (Em X puI) 64 [some (.inr (.inr (30, 0))), some (.inl x1)] [.inl r61] m61 _
      refine go_ifeq h.1 (off := 15) 79 (by decide +kernel) (by decide) (fun c64 => ?_) (fun c64 => ?_)
      · refine go_blk h.1 (is := [.bipush (-9)]) (pc' := 81) (ls' := [some (.inr (.inr (30, 0))), some (.inl x1)]) (st' := [.inl (-9 : Int32)]) (m' := m61) (by decide +kernel) rfl ?_
        exact go_iret h.1 h.2.2.2.2 (by decide +kernel)
      · refine go_blk h.1 (is := [.aload_n 0, .getfield 37, .iload_n 1, .bipush 10, .isub]) (pc' := 75) (ls' := [some (.inr (.inr (30, 0))), some (.inl x1)]) (st' := [.inl (x1 - (10 : Int32)), .inr (.inr (40, 0))]) (m' := m61) (by decide +kernel) rfl ?_
        refine go_iald h.1 (by decide +kernel) rfl rfl (fun b75 => ?_)
        show Go X (Em X puI) 76 [some (.inr (.inr (30, 0))), some (.inl x1)] [.inl (m61 40 0 (ix (x1 - (10 : Int32))))] m61 _
        refine go_goto h.1 (off := 5) 81 (by decide +kernel) (by decide) ?_
        exact go_iret h.1 h.2.2.2.2 (by decide +kernel)
    · refine go_ite (fun w1_2 => ?_) (fun w1_2 => ?_)
      · refine go_tsIn h.1 (dflt := 55) (lo := 0) (hi := 4) (offs := #[35, 55, 40, 45, 50]) (len := 35) (off := 40) (2 : Int32) 41 w1_2 (by decide +kernel) (by decide) rfl (by decide) ?_
        refine go_blk h.1 (is := [.aload_n 0, .getfield 140]) (pc' := 45) (ls' := [some (.inr (.inr (30, 0))), some (.inl x1)]) (st' := [.inl (m 30 0 22)]) (m' := m) (by decide +kernel) rfl ?_
        exact go_iret h.1 h.2.2.2.2 (by decide +kernel)
      · refine go_ite (fun w1_3 => ?_) (fun w1_3 => ?_)
        · refine go_tsIn h.1 (dflt := 55) (lo := 0) (hi := 4) (offs := #[35, 55, 40, 45, 50]) (len := 35) (off := 45) (3 : Int32) 46 w1_3 (by decide +kernel) (by decide) rfl (by decide) ?_
          refine go_blk h.1 (is := [.aload_n 0, .getfield 137]) (pc' := 50) (ls' := [some (.inr (.inr (30, 0))), some (.inl x1)]) (st' := [.inl (m 30 0 21)]) (m' := m) (by decide +kernel) rfl ?_
          exact go_iret h.1 h.2.2.2.2 (by decide +kernel)
        · refine go_ite (fun w1_4 => ?_) (fun w1_4 => ?_)
          · refine go_tsIn h.1 (dflt := 55) (lo := 0) (hi := 4) (offs := #[35, 55, 40, 45, 50]) (len := 35) (off := 50) (4 : Int32) 51 w1_4 (by decide +kernel) (by decide) rfl (by decide) ?_
            refine go_blk h.1 (is := [.aload_n 0, .getfield 134]) (pc' := 55) (ls' := [some (.inr (.inr (30, 0))), some (.inl x1)]) (st' := [.inl (m 30 0 20)]) (m' := m) (by decide +kernel) rfl ?_
            exact go_iret h.1 h.2.2.2.2 (by decide +kernel)
          · refine go_tsOut h.1 (dflt := 55) (lo := 0) (hi := 4) (offs := #[35, 55, 40, 45, 50]) (len := 35) 56 (by decide +kernel) (sw_out (n := 5) (by decide) ((lt_s (lt_s (lt_s (lt_s (lt_s lt_0 w1_0) w1_1) w1_2) w1_3) w1_4) : ∀ j : Nat, j < 5 → ¬ x1 = Int32.ofInt (0 + (j : Int)))) (by decide) ?_
            refine go_blk h.1 (is := [.aload_n 0, .iload_n 1, .bipush 10, .isub]) (pc' := 61) (ls' := [some (.inr (.inr (30, 0))), some (.inl x1)]) (st' := [.inl (x1 - (10 : Int32)), .inr (.inr (30, 0))]) (m' := m) (by decide +kernel) rfl ?_
            refine go_callV h.1 (index := 128) (n := 1) (t := 30) (i := 0) (ci := 7) (nf := 35) (cz := (RX7, TX7, 35)) (as := [.inl (x1 - (10 : Int32))]) (rest := []) (ctr_X7_isFish (xl X) (xA X) (xC X) (xI X) (xk X) (x1 - (10 : Int32)) m) (by decide +kernel) rfl rfl wd_v_X7_128 rfl (h.room (by first | decide | omega) (by decide)) h.cl (Nat.le_of_ble_eq_true rfl) puI_ok rfl (fun r61 m61 _ => ?_)
            show Go X (Em X puI) 64 [some (.inr (.inr (30, 0))), some (.inl x1)] [.inl r61] m61 _
            refine go_ifeq h.1 (off := 15) 79 (by decide +kernel) (by decide) (fun c64 => ?_) (fun c64 => ?_)
            · refine go_blk h.1 (is := [.bipush (-9)]) (pc' := 81) (ls' := [some (.inr (.inr (30, 0))), some (.inl x1)]) (st' := [.inl (-9 : Int32)]) (m' := m61) (by decide +kernel) rfl ?_
              exact go_iret h.1 h.2.2.2.2 (by decide +kernel)
            · refine go_blk h.1 (is := [.aload_n 0, .getfield 37, .iload_n 1, .bipush 10, .isub]) (pc' := 75) (ls' := [some (.inr (.inr (30, 0))), some (.inl x1)]) (st' := [.inl (x1 - (10 : Int32)), .inr (.inr (40, 0))]) (m' := m61) (by decide +kernel) rfl ?_
              refine go_iald h.1 (by decide +kernel) rfl rfl (fun b75 => ?_)
              show Go X (Em X puI) 76 [some (.inr (.inr (30, 0))), some (.inl x1)] [.inl (m61 40 0 (ix (x1 - (10 : Int32))))] m61 _
              refine go_goto h.1 (off := 5) 81 (by decide +kernel) (by decide) ?_
              exact go_iret h.1 h.2.2.2.2 (by decide +kernel)
theorem ctr_X7_tellPasses (l : Launch) (A : AR → Nat) (dC : Nat → ClassId) (dI : Nat → Nat → Nat) (cs : Nat → ClassId) (x1 : Int32) (m : Mem) : Ctr l A dC dI cs yX7_tellPasses prog_9_method_33_code 2 (some .int) 1 puI [.inr (.inr (30, 0)), .inl x1] m (f_X7_tellPasses x1 m) :=
  ctr_of (P := P_X7) (by decide +kernel) rfl pt_X7 rfl rfl (fun X hC _ _ _ _ _ hR h0 h1 hr => g_X7_tellPasses ⟨hC, hR, h0, h1, hr⟩ x1 m)

