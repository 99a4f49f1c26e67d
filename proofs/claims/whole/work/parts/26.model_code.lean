/-! ===== printed by wip/whole/tr.py out of the listing ===== -/
def f_X7_copy_j43 (m : Mem) : Option (Int32 × Mem) :=
  bnd (f_X7_fails (1 : Int32) m) (fun r45 m45 =>
    some (r45, m45))
theorem g_X7_copy_j43 {X : XT} (h : MX X prog_9_method_59_code P_X7 2 (some .int)) (m : Mem) (o1 : Option AV) (o2 : Option AV) (o3 : Option AV) (o4 : Option AV) (o5 : Option AV) (o6 : Option AV) (o7 : Option AV) (o8 : Option AV) (o9 : Option AV) : Go X (Em X puI) 43 [some (.inr (.inr (30, 0))), o1, o2, o3, o4, o5, o6, o7, o8, o9] [] m (f_X7_copy_j43 m) := by
  unfold f_X7_copy_j43
  refine go_blk h.1 (is := [.aload_n 0, .iconst 1]) (pc' := 45) (ls' := [some (.inr (.inr (30, 0))), o1, o2, o3, o4, o5, o6, o7, o8, o9]) (st' := [.inl (1 : Int32), .inr (.inr (30, 0))]) (m' := m) (by decide +kernel) rfl ?_
  refine go_callV h.1 (index := 91) (n := 1) (t := 30) (i := 0) (ci := 7) (nf := 35) (cz := (RX7, TX7, 35)) (as := [.inl (1 : Int32)]) (rest := []) (ctr_X7_fails (xl X) (xA X) (xC X) (xI X) (xk X) (1 : Int32) m) (by decide +kernel) rfl rfl wd_v_X7_91 rfl (h.room (by first | decide | omega) (by decide)) h.cl (Nat.le_of_ble_eq_true rfl) puI_ok rfl (fun r45 m45 _ => ?_)
  show Go X (Em X puI) 48 [some (.inr (.inr (30, 0))), o1, o2, o3, o4, o5, o6, o7, o8, o9] [.inl r45] m45 _
  exact go_iret h.1 h.2.2.2.2 (by decide +kernel)

def f_X7_copy_j144 (m : Mem) : Option (Int32 × Mem) :=
  bnd (f_X7_fails (3 : Int32) m) (fun r146 m146 =>
    some (r146, m146))
theorem g_X7_copy_j144 {X : XT} (h : MX X prog_9_method_59_code P_X7 2 (some .int)) (m : Mem) (o1 : Option AV) (o2 : Option AV) (o3 : Option AV) (o4 : Option AV) (o5 : Option AV) (o6 : Option AV) (o7 : Option AV) (o8 : Option AV) (o9 : Option AV) : Go X (Em X puI) 144 [some (.inr (.inr (30, 0))), o1, o2, o3, o4, o5, o6, o7, o8, o9] [] m (f_X7_copy_j144 m) := by
  unfold f_X7_copy_j144
  refine go_blk h.1 (is := [.aload_n 0, .iconst 3]) (pc' := 146) (ls' := [some (.inr (.inr (30, 0))), o1, o2, o3, o4, o5, o6, o7, o8, o9]) (st' := [.inl (3 : Int32), .inr (.inr (30, 0))]) (m' := m) (by decide +kernel) rfl ?_
  refine go_callV h.1 (index := 91) (n := 1) (t := 30) (i := 0) (ci := 7) (nf := 35) (cz := (RX7, TX7, 35)) (as := [.inl (3 : Int32)]) (rest := []) (ctr_X7_fails (xl X) (xA X) (xC X) (xI X) (xk X) (3 : Int32) m) (by decide +kernel) rfl rfl wd_v_X7_91 rfl (h.room (by first | decide | omega) (by decide)) h.cl (Nat.le_of_ble_eq_true rfl) puI_ok rfl (fun r146 m146 _ => ?_)
  show Go X (Em X puI) 149 [some (.inr (.inr (30, 0))), o1, o2, o3, o4, o5, o6, o7, o8, o9] [.inl r146] m146 _
  exact go_iret h.1 h.2.2.2.2 (by decide +kernel)

def f_X7_copy_j190 (next : Int32 × Mem → Option (Int32 × Mem)) (exit : Mem → Option (Int32 × Mem)) (s0 : Int32) (x1 : Int32) (x2 : Int32) (x3 : Int32) (x4 : Int32) (x5 : Int32) (x7 : Int32) (x8 : Int32) (m : Mem) : Option (Int32 × Mem) :=
  if inB ((((60 : Int32) * x1) + x2) + s0) 240 = true then
    if inB ((((60 : Int32) * x3) + x4) + s0) 240 = true then
      next ((x8 + (1 : Int32)), (mset m 33 0 (ix ((((60 : Int32) * x3) + x4) + s0)) (m 33 0 (ix ((((60 : Int32) * x1) + x2) + s0)))))
    else none
  else none
theorem g_X7_copy_j190 {X : XT} (h : MX X prog_9_method_59_code P_X7 2 (some .int)) (next : Int32 × Mem → Option (Int32 × Mem)) (exit : Mem → Option (Int32 × Mem)) (s0 : Int32) (x1 : Int32) (x2 : Int32) (x3 : Int32) (x4 : Int32) (x5 : Int32) (x7 : Int32) (x8 : Int32) (m : Mem) (o6 : Option AV) (o9 : Option AV) (hn : ∀ (y8 : Int32) (n : Mem) (o6 : Option AV) (o9 : Option AV), Go X (Em X puI) 166 [some (.inr (.inr (30, 0))), some (.inl x1), some (.inl x2), some (.inl x3), some (.inl x4), some (.inl x5), o6, some (.inl x7), some (.inl y8), o9] [] n (next (y8, n))) (hx : ∀ (n : Mem) (o0 : Option AV) (o1 : Option AV) (o2 : Option AV) (o3 : Option AV) (o4 : Option AV) (o6 : Option AV) (o7 : Option AV) (o8 : Option AV) (o9 : Option AV), Go X (Em X puI) 227 [o0, o1, o2, o3, o4, some (.inl x5), o6, o7, o8, o9] [] n (exit (n))) : Go X (Em X puI) 190 [some (.inr (.inr (30, 0))), some (.inl x1), some (.inl x2), some (.inl x3), some (.inl x4), some (.inl x5), o6, some (.inl x7), some (.inl x8), o9] [.inl s0] m (f_X7_copy_j190 next exit s0 x1 x2 x3 x4 x5 x7 x8 m) := by
  unfold f_X7_copy_j190
  refine go_blk h.1 (is := [.istore 9, .aload_n 0, .getfield 16, .bipush 60, .iload_n 3, .imul, .iload 4, .iadd, .iload 9, .iadd, .aload_n 0, .getfield 16, .bipush 60, .iload_n 1, .imul, .iload_n 2, .iadd, .iload 9, .iadd]) (pc' := 219) (ls' := [some (.inr (.inr (30, 0))), some (.inl x1), some (.inl x2), some (.inl x3), some (.inl x4), some (.inl x5), o6, some (.inl x7), some (.inl x8), some (.inl s0)]) (st' := [.inl ((((60 : Int32) * x1) + x2) + s0), .inr (.inr (33, 0)), .inl ((((60 : Int32) * x3) + x4) + s0), .inr (.inr (33, 0))]) (m' := m) (by decide +kernel) rfl ?_
  refine go_iald h.1 (by decide +kernel) rfl rfl (fun b219 => ?_)
  show Go X (Em X puI) 220 [some (.inr (.inr (30, 0))), some (.inl x1), some (.inl x2), some (.inl x3), some (.inl x4), some (.inl x5), o6, some (.inl x7), some (.inl x8), some (.inl s0)] [.inl (m 33 0 (ix ((((60 : Int32) * x1) + x2) + s0))), .inl ((((60 : Int32) * x3) + x4) + s0), .inr (.inr (33, 0))] m _
  refine go_iast h.1 (by decide +kernel) rfl rfl (fun b220 => ?_)
  refine go_blk h.1 (is := [.iinc 8 1]) (pc' := 224) (ls' := [some (.inr (.inr (30, 0))), some (.inl x1), some (.inl x2), some (.inl x3), some (.inl x4), some (.inl x5), o6, some (.inl x7), some (.inl (x8 + (1 : Int32))), some (.inl s0)]) (st' := []) (m' := (mset m 33 0 (ix ((((60 : Int32) * x3) + x4) + s0)) (m 33 0 (ix ((((60 : Int32) * x1) + x2) + s0))))) (by decide +kernel) rfl ?_
  refine go_goto h.1 (off := -58) 166 (by decide +kernel) (by decide) ?_
  exact hn (x8 + (1 : Int32)) (mset m 33 0 (ix ((((60 : Int32) * x3) + x4) + s0)) (m 33 0 (ix ((((60 : Int32) * x1) + x2) + s0)))) (o6) (some (.inl s0))

def f_X7_copy_b166 (x1 : Int32) (x2 : Int32) (x3 : Int32) (x4 : Int32) (x5 : Int32) (x7 : Int32) (next : Int32 × Mem → Option (Int32 × Mem)) (exit : Mem → Option (Int32 × Mem)) (s : Int32 × Mem) : Option (Int32 × Mem) :=
  if x5 ≤ s.1 then
    exit (s.2)
  else
    if x7 = 0 then
      f_X7_copy_j190 next exit s.1 x1 x2 x3 x4 x5 x7 s.1 s.2
    else
      f_X7_copy_j190 next exit ((x5 - (1 : Int32)) - s.1) x1 x2 x3 x4 x5 x7 s.1 s.2
theorem g_X7_copy_b166 {X : XT} (h : MX X prog_9_method_59_code P_X7 2 (some .int)) (x1 : Int32) (x2 : Int32) (x3 : Int32) (x4 : Int32) (x5 : Int32) (x7 : Int32) (next : Int32 × Mem → Option (Int32 × Mem)) (exit : Mem → Option (Int32 × Mem)) (hn : ∀ (y8 : Int32) (n : Mem) (o6 : Option AV) (o9 : Option AV), Go X (Em X puI) 166 [some (.inr (.inr (30, 0))), some (.inl x1), some (.inl x2), some (.inl x3), some (.inl x4), some (.inl x5), o6, some (.inl x7), some (.inl y8), o9] [] n (next (y8, n))) (hx : ∀ (n : Mem) (o0 : Option AV) (o1 : Option AV) (o2 : Option AV) (o3 : Option AV) (o4 : Option AV) (o6 : Option AV) (o7 : Option AV) (o8 : Option AV) (o9 : Option AV), Go X (Em X puI) 227 [o0, o1, o2, o3, o4, some (.inl x5), o6, o7, o8, o9] [] n (exit (n))) (s : Int32 × Mem) (o6 : Option AV) (o9 : Option AV) : Go X (Em X puI) 166 [some (.inr (.inr (30, 0))), some (.inl x1), some (.inl x2), some (.inl x3), some (.inl x4), some (.inl x5), o6, some (.inl x7), some (.inl s.1), o9] [] s.2 (f_X7_copy_b166 x1 x2 x3 x4 x5 x7 next exit s) := by
  unfold f_X7_copy_b166
  refine go_blk h.1 (is := [.iload 8, .iload 5]) (pc' := 170) (ls' := [some (.inr (.inr (30, 0))), some (.inl x1), some (.inl x2), some (.inl x3), some (.inl x4), some (.inl x5), o6, some (.inl x7), some (.inl s.1), o9]) (st' := [.inl x5, .inl s.1]) (m' := s.2) (by decide +kernel) rfl ?_
  refine go_icmpge h.1 (off := 57) 227 (by decide +kernel) (by decide) (fun c170 => ?_) (fun c170 => ?_)
  · exact hx s.2 (some (.inr (.inr (30, 0)))) (some (.inl x1)) (some (.inl x2)) (some (.inl x3)) (some (.inl x4)) (o6) (some (.inl x7)) (some (.inl s.1)) (o9)
  · refine go_blk h.1 (is := [.iload 7]) (pc' := 175) (ls' := [some (.inr (.inr (30, 0))), some (.inl x1), some (.inl x2), some (.inl x3), some (.inl x4), some (.inl x5), o6, some (.inl x7), some (.inl s.1), o9]) (st' := [.inl x7]) (m' := s.2) (by decide +kernel) rfl ?_
    refine go_ifeq h.1 (off := 13) 188 (by decide +kernel) (by decide) (fun c175 => ?_) (fun c175 => ?_)
    · refine go_blk h.1 (is := [.iload 8]) (pc' := 190) (ls' := [some (.inr (.inr (30, 0))), some (.inl x1), some (.inl x2), some (.inl x3), some (.inl x4), some (.inl x5), o6, some (.inl x7), some (.inl s.1), o9]) (st' := [.inl s.1]) (m' := s.2) (by decide +kernel) rfl ?_
      exact g_X7_copy_j190 h next exit s.1 x1 x2 x3 x4 x5 x7 s.1 s.2 (o6) (o9) hn hx
    · refine go_blk h.1 (is := [.iload 5, .iconst 1, .isub, .iload 8, .isub]) (pc' := 185) (ls' := [some (.inr (.inr (30, 0))), some (.inl x1), some (.inl x2), some (.inl x3), some (.inl x4), some (.inl x5), o6, some (.inl x7), some (.inl s.1), o9]) (st' := [.inl ((x5 - (1 : Int32)) - s.1)]) (m' := s.2) (by decide +kernel) rfl ?_
      refine go_goto h.1 (off := 5) 190 (by decide +kernel) (by decide) ?_
      exact g_X7_copy_j190 h next exit ((x5 - (1 : Int32)) - s.1) x1 x2 x3 x4 x5 x7 s.1 s.2 (o6) (o9) hn hx

def f_X7_copy_j161 (s0 : Int32) (x1 : Int32) (x2 : Int32) (x3 : Int32) (x4 : Int32) (x5 : Int32) (m : Mem) : Option (Int32 × Mem) :=
  lpk (f_X7_copy_b166 x1 x2 x3 x4 x5 s0) fuelN ((0 : Int32), m) (fun t166 =>
    some (x5, t166))
theorem g_X7_copy_j161 {X : XT} (h : MX X prog_9_method_59_code P_X7 2 (some .int)) (s0 : Int32) (x1 : Int32) (x2 : Int32) (x3 : Int32) (x4 : Int32) (x5 : Int32) (m : Mem) (o6 : Option AV) (o7 : Option AV) (o8 : Option AV) (o9 : Option AV) : Go X (Em X puI) 161 [some (.inr (.inr (30, 0))), some (.inl x1), some (.inl x2), some (.inl x3), some (.inl x4), some (.inl x5), o6, o7, o8, o9] [.inl s0] m (f_X7_copy_j161 s0 x1 x2 x3 x4 x5 m) := by
  unfold f_X7_copy_j161
  refine go_blk h.1 (is := [.istore 7, .iconst 0, .istore 8]) (pc' := 166) (ls' := [some (.inr (.inr (30, 0))), some (.inl x1), some (.inl x2), some (.inl x3), some (.inl x4), some (.inl x5), (clrL o6), some (.inl s0), some (.inl (0 : Int32)), o9]) (st' := []) (m' := m) (by decide +kernel) rfl ?_
  refine go_lp1 (hd := fun (y8 : Int32) (n : Mem) o => ∀ (o6 : Option AV) (o9 : Option AV), Go X (Em X puI) 166 [some (.inr (.inr (30, 0))), some (.inl x1), some (.inl x2), some (.inl x3), some (.inl x4), some (.inl x5), o6, some (.inl s0), some (.inl y8), o9] [] n o) (fun _ _ _ _ => go_none) (fun y8 n nx_ hn_ => g_X7_copy_b166 h x1 x2 x3 x4 x5 s0 nx_ _ hn_ (fun z_166 o0_166 o1_166 o2_166 o3_166 o4_166 o6_166 o7_166 o8_166 o9_166 => ?_) (y8, n)) fuelN (0 : Int32) m ((clrL o6)) (o9)
  refine go_blk h.1 (is := [.iload 5]) (pc' := 229) (ls' := [o0_166, o1_166, o2_166, o3_166, o4_166, some (.inl x5), o6_166, o7_166, o8_166, o9_166]) (st' := [.inl x5]) (m' := z_166) (by decide +kernel) rfl ?_
  exact go_iret h.1 h.2.2.2.2 (by decide +kernel)

def f_X7_copy_j110 (s0 : Int32) (x1 : Int32) (x2 : Int32) (x3 : Int32) (x4 : Int32) (x5 : Int32) (m : Mem) : Option (Int32 × Mem) :=
  if s0 = 0 then
    f_X7_copy_j144 m
  else
    if inB x1 4 = true then
      if ((m 32 0 (ix x1)) - x2) < x5 then
        f_X7_copy_j144 m
      else
        if inB x3 4 = true then
          if x5 ≤ ((m 32 0 (ix x3)) - x4) then
            if x4 ≤ x2 then
              f_X7_copy_j161 (0 : Int32) x1 x2 x3 x4 x5 m
            else
              f_X7_copy_j161 (1 : Int32) x1 x2 x3 x4 x5 m
          else
            f_X7_copy_j144 m
        else none
    else none
theorem g_X7_copy_j110 {X : XT} (h : MX X prog_9_method_59_code P_X7 2 (some .int)) (s0 : Int32) (x1 : Int32) (x2 : Int32) (x3 : Int32) (x4 : Int32) (x5 : Int32) (m : Mem) (o6 : Option AV) (o7 : Option AV) (o8 : Option AV) (o9 : Option AV) : Go X (Em X puI) 110 [some (.inr (.inr (30, 0))), some (.inl x1), some (.inl x2), some (.inl x3), some (.inl x4), some (.inl x5), o6, o7, o8, o9] [.inl s0] m (f_X7_copy_j110 s0 x1 x2 x3 x4 x5 m) := by
  unfold f_X7_copy_j110
  refine go_blk h.1 (is := [.istore 6, .iload 6]) (pc' := 114) (ls' := [some (.inr (.inr (30, 0))), some (.inl x1), some (.inl x2), some (.inl x3), some (.inl x4), some (.inl x5), some (.inl s0), o7, o8, o9]) (st' := [.inl s0]) (m' := m) (by decide +kernel) rfl ?_
  refine go_ifeq h.1 (off := 30) 144 (by decide +kernel) (by decide) (fun c114 => ?_) (fun c114 => ?_)
  · exact g_X7_copy_j144 h m (some (.inl x1)) (some (.inl x2)) (some (.inl x3)) (some (.inl x4)) (some (.inl x5)) (some (.inl s0)) (o7) (o8) (o9)
  · refine go_blk h.1 (is := [.iload 5, .aload_n 0, .getfield 13, .iload_n 1]) (pc' := 124) (ls' := [some (.inr (.inr (30, 0))), some (.inl x1), some (.inl x2), some (.inl x3), some (.inl x4), some (.inl x5), some (.inl s0), o7, o8, o9]) (st' := [.inl x1, .inr (.inr (32, 0)), .inl x5]) (m' := m) (by decide +kernel) rfl ?_
    refine go_iald h.1 (by decide +kernel) rfl rfl (fun b124 => ?_)
    show Go X (Em X puI) 125 [some (.inr (.inr (30, 0))), some (.inl x1), some (.inl x2), some (.inl x3), some (.inl x4), some (.inl x5), some (.inl s0), o7, o8, o9] [.inl (m 32 0 (ix x1)), .inl x5] m _
    refine go_blk h.1 (is := [.iload_n 2, .isub]) (pc' := 127) (ls' := [some (.inr (.inr (30, 0))), some (.inl x1), some (.inl x2), some (.inl x3), some (.inl x4), some (.inl x5), some (.inl s0), o7, o8, o9]) (st' := [.inl ((m 32 0 (ix x1)) - x2), .inl x5]) (m' := m) (by decide +kernel) rfl ?_
    refine go_icmpgt h.1 (off := 17) 144 (by decide +kernel) (by decide) (fun c127 => ?_) (fun c127 => ?_)
    · exact g_X7_copy_j144 h m (some (.inl x1)) (some (.inl x2)) (some (.inl x3)) (some (.inl x4)) (some (.inl x5)) (some (.inl s0)) (o7) (o8) (o9)
    · refine go_blk h.1 (is := [.iload 5, .aload_n 0, .getfield 13, .iload_n 3]) (pc' := 137) (ls' := [some (.inr (.inr (30, 0))), some (.inl x1), some (.inl x2), some (.inl x3), some (.inl x4), some (.inl x5), some (.inl s0), o7, o8, o9]) (st' := [.inl x3, .inr (.inr (32, 0)), .inl x5]) (m' := m) (by decide +kernel) rfl ?_
      refine go_iald h.1 (by decide +kernel) rfl rfl (fun b137 => ?_)
      show Go X (Em X puI) 138 [some (.inr (.inr (30, 0))), some (.inl x1), some (.inl x2), some (.inl x3), some (.inl x4), some (.inl x5), some (.inl s0), o7, o8, o9] [.inl (m 32 0 (ix x3)), .inl x5] m _
      refine go_blk h.1 (is := [.iload 4, .isub]) (pc' := 141) (ls' := [some (.inr (.inr (30, 0))), some (.inl x1), some (.inl x2), some (.inl x3), some (.inl x4), some (.inl x5), some (.inl s0), o7, o8, o9]) (st' := [.inl ((m 32 0 (ix x3)) - x4), .inl x5]) (m' := m) (by decide +kernel) rfl ?_
      refine go_icmple h.1 (off := 9) 150 (by decide +kernel) (by decide) (fun c141 => ?_) (fun c141 => ?_)
      · refine go_blk h.1 (is := [.iload_n 2, .iload 4]) (pc' := 153) (ls' := [some (.inr (.inr (30, 0))), some (.inl x1), some (.inl x2), some (.inl x3), some (.inl x4), some (.inl x5), some (.inl s0), o7, o8, o9]) (st' := [.inl x4, .inl x2]) (m' := m) (by decide +kernel) rfl ?_
        refine go_icmpge h.1 (off := 7) 160 (by decide +kernel) (by decide) (fun c153 => ?_) (fun c153 => ?_)
        · refine go_blk h.1 (is := [.iconst 0]) (pc' := 161) (ls' := [some (.inr (.inr (30, 0))), some (.inl x1), some (.inl x2), some (.inl x3), some (.inl x4), some (.inl x5), some (.inl s0), o7, o8, o9]) (st' := [.inl (0 : Int32)]) (m' := m) (by decide +kernel) rfl ?_
          exact g_X7_copy_j161 h (0 : Int32) x1 x2 x3 x4 x5 m (some (.inl s0)) (o7) (o8) (o9)
        · refine go_blk h.1 (is := [.iconst 1]) (pc' := 157) (ls' := [some (.inr (.inr (30, 0))), some (.inl x1), some (.inl x2), some (.inl x3), some (.inl x4), some (.inl x5), some (.inl s0), o7, o8, o9]) (st' := [.inl (1 : Int32)]) (m' := m) (by decide +kernel) rfl ?_
          refine go_goto h.1 (off := 4) 161 (by decide +kernel) (by decide) ?_
          exact g_X7_copy_j161 h (1 : Int32) x1 x2 x3 x4 x5 m (some (.inl s0)) (o7) (o8) (o9)
      · exact g_X7_copy_j144 h m (some (.inl x1)) (some (.inl x2)) (some (.inl x3)) (some (.inl x4)) (some (.inl x5)) (some (.inl s0)) (o7) (o8) (o9)

def f_X7_copy_j109 (x1 : Int32) (x2 : Int32) (x3 : Int32) (x4 : Int32) (x5 : Int32) (m : Mem) : Option (Int32 × Mem) :=
  f_X7_copy_j110 (0 : Int32) x1 x2 x3 x4 x5 m
theorem g_X7_copy_j109 {X : XT} (h : MX X prog_9_method_59_code P_X7 2 (some .int)) (x1 : Int32) (x2 : Int32) (x3 : Int32) (x4 : Int32) (x5 : Int32) (m : Mem) (o6 : Option AV) (o7 : Option AV) (o8 : Option AV) (o9 : Option AV) : Go X (Em X puI) 109 [some (.inr (.inr (30, 0))), some (.inl x1), some (.inl x2), some (.inl x3), some (.inl x4), some (.inl x5), o6, o7, o8, o9] [] m (f_X7_copy_j109 x1 x2 x3 x4 x5 m) := by
  unfold f_X7_copy_j109
  refine go_blk h.1 (is := [.iconst 0]) (pc' := 110) (ls' := [some (.inr (.inr (30, 0))), some (.inl x1), some (.inl x2), some (.inl x3), some (.inl x4), some (.inl x5), o6, o7, o8, o9]) (st' := [.inl (0 : Int32)]) (m' := m) (by decide +kernel) rfl ?_
  exact g_X7_copy_j110 h (0 : Int32) x1 x2 x3 x4 x5 m (o6) (o7) (o8) (o9)

def f_X7_copy (x1 : Int32) (x2 : Int32) (x3 : Int32) (x4 : Int32) (x5 : Int32) (m : Mem) : Option (Int32 × Mem) :=
  bnd (f_X7_isSheet x1 (mset m 30 0 0 (0 : Int32))) (fun r6 m6 =>
    if r6 = 0 then
      some ((-1 : Int32), m6)
    else
      bnd (f_X7_isSheet x3 m6) (fun r13 m13 =>
        if r13 = 0 then
          some ((-1 : Int32), m13)
        else
          if inB x1 4 = true then
            if (m13 31 0 (ix x1)) = (-9 : Int32) then
              f_X7_copy_j43 m13
            else
              if inB x3 4 = true then
                if (m13 31 0 (ix x3)) = (-9 : Int32) then
                  f_X7_copy_j43 m13
                else
                  if inB x1 4 = true then
                    if inB x3 4 = true then
                      if (m13 31 0 (ix x1)) = (m13 31 0 (ix x3)) then
                        if x2 < 0 then
                          f_X7_copy_j109 x1 x2 x3 x4 x5 m13
                        else
                          if x4 < 0 then
                            f_X7_copy_j109 x1 x2 x3 x4 x5 m13
                          else
                            if x5 < 0 then
                              f_X7_copy_j109 x1 x2 x3 x4 x5 m13
                            else
                              if inB x1 4 = true then
                                if (m13 32 0 (ix x1)) < x2 then
                                  f_X7_copy_j109 x1 x2 x3 x4 x5 m13
                                else
                                  if inB x3 4 = true then
                                    if (m13 32 0 (ix x3)) < x4 then
                                      f_X7_copy_j109 x1 x2 x3 x4 x5 m13
                                    else
                                      f_X7_copy_j110 (1 : Int32) x1 x2 x3 x4 x5 m13
                                  else none
                              else none
                      else
                        bnd (f_X7_fails (2 : Int32) m13) (fun r66 m66 =>
                          some (r66, m66))
                    else none
                  else none
              else none
          else none))
theorem g_X7_copy {X : XT} (h : MX X prog_9_method_59_code P_X7 2 (some .int)) (x1 : Int32) (x2 : Int32) (x3 : Int32) (x4 : Int32) (x5 : Int32) (m : Mem) : Go X (Em X puI) 0 [some (.inr (.inr (30, 0))), some (.inl x1), some (.inl x2), some (.inl x3), some (.inl x4), some (.inl x5), none, none, none, none] [] m (f_X7_copy x1 x2 x3 x4 x5 m) := by
  unfold f_X7_copy
  refine go_blk h.1 (is := [.aload_n 0, .iconst 0, .putfield 64, .iload_n 1]) (pc' := 6) (ls' := [some (.inr (.inr (30, 0))), some (.inl x1), some (.inl x2), some (.inl x3), some (.inl x4), some (.inl x5), none, none, none, none]) (st' := [.inl x1]) (m' := (mset m 30 0 0 (0 : Int32))) (by decide +kernel) rfl ?_
  refine go_callS h.1 (index := 80) (n := 1) (as := [.inl x1]) (rest := []) (ctr_X7_isSheet (xl X) (xA X) (xC X) (xI X) (xk X) x1 (mset m 30 0 0 (0 : Int32))) (by decide +kernel) wd_s_X7_80 rfl (h.room (by first | decide | omega) (by decide)) h.cl (Nat.le_of_ble_eq_true rfl) puI_ok rfl (fun r6 m6 _ => ?_)
  show Go X (Em X puI) 9 [some (.inr (.inr (30, 0))), some (.inl x1), some (.inl x2), some (.inl x3), some (.inl x4), some (.inl x5), none, none, none, none] [.inl r6] m6 _
  refine go_ifeq h.1 (off := 10) 19 (by decide +kernel) (by decide) (fun c9 => ?_) (fun c9 => ?_)
  · refine go_blk h.1 (is := [.iconst (-1)]) (pc' := 20) (ls' := [some (.inr (.inr (30, 0))), some (.inl x1), some (.inl x2), some (.inl x3), some (.inl x4), some (.inl x5), none, none, none, none]) (st' := [.inl (-1 : Int32)]) (m' := m6) (by decide +kernel) rfl ?_
    exact go_iret h.1 h.2.2.2.2 (by decide +kernel)
  · refine go_blk h.1 (is := [.iload_n 3]) (pc' := 13) (ls' := [some (.inr (.inr (30, 0))), some (.inl x1), some (.inl x2), some (.inl x3), some (.inl x4), some (.inl x5), none, none, none, none]) (st' := [.inl x3]) (m' := m6) (by decide +kernel) rfl ?_
    refine go_callS h.1 (index := 80) (n := 1) (as := [.inl x3]) (rest := []) (ctr_X7_isSheet (xl X) (xA X) (xC X) (xI X) (xk X) x3 m6) (by decide +kernel) wd_s_X7_80 rfl (h.room (by first | decide | omega) (by decide)) h.cl (Nat.le_of_ble_eq_true rfl) puI_ok rfl (fun r13 m13 _ => ?_)
    show Go X (Em X puI) 16 [some (.inr (.inr (30, 0))), some (.inl x1), some (.inl x2), some (.inl x3), some (.inl x4), some (.inl x5), none, none, none, none] [.inl r13] m13 _
    refine go_ifne h.1 (off := 5) 21 (by decide +kernel) (by decide) (fun c16 => ?_) (fun c16 => ?_)
    · refine go_blk h.1 (is := [.aload_n 0, .getfield 9, .iload_n 1]) (pc' := 26) (ls' := [some (.inr (.inr (30, 0))), some (.inl x1), some (.inl x2), some (.inl x3), some (.inl x4), some (.inl x5), none, none, none, none]) (st' := [.inl x1, .inr (.inr (31, 0))]) (m' := m13) (by decide +kernel) rfl ?_
      refine go_iald h.1 (by decide +kernel) rfl rfl (fun b26 => ?_)
      show Go X (Em X puI) 27 [some (.inr (.inr (30, 0))), some (.inl x1), some (.inl x2), some (.inl x3), some (.inl x4), some (.inl x5), none, none, none, none] [.inl (m13 31 0 (ix x1))] m13 _
      refine go_blk h.1 (is := [.bipush (-9)]) (pc' := 29) (ls' := [some (.inr (.inr (30, 0))), some (.inl x1), some (.inl x2), some (.inl x3), some (.inl x4), some (.inl x5), none, none, none, none]) (st' := [.inl (-9 : Int32), .inl (m13 31 0 (ix x1))]) (m' := m13) (by decide +kernel) rfl ?_
      refine go_icmpeq h.1 (off := 14) 43 (by decide +kernel) (by decide) (fun c29 => ?_) (fun c29 => ?_)
      · exact g_X7_copy_j43 h m13 (some (.inl x1)) (some (.inl x2)) (some (.inl x3)) (some (.inl x4)) (some (.inl x5)) (none) (none) (none) (none)
      · refine go_blk h.1 (is := [.aload_n 0, .getfield 9, .iload_n 3]) (pc' := 37) (ls' := [some (.inr (.inr (30, 0))), some (.inl x1), some (.inl x2), some (.inl x3), some (.inl x4), some (.inl x5), none, none, none, none]) (st' := [.inl x3, .inr (.inr (31, 0))]) (m' := m13) (by decide +kernel) rfl ?_
        refine go_iald h.1 (by decide +kernel) rfl rfl (fun b37 => ?_)
        show Go X (Em X puI) 38 [some (.inr (.inr (30, 0))), some (.inl x1), some (.inl x2), some (.inl x3), some (.inl x4), some (.inl x5), none, none, none, none] [.inl (m13 31 0 (ix x3))] m13 _
        refine go_blk h.1 (is := [.bipush (-9)]) (pc' := 40) (ls' := [some (.inr (.inr (30, 0))), some (.inl x1), some (.inl x2), some (.inl x3), some (.inl x4), some (.inl x5), none, none, none, none]) (st' := [.inl (-9 : Int32), .inl (m13 31 0 (ix x3))]) (m' := m13) (by decide +kernel) rfl ?_
        refine go_icmpne h.1 (off := 9) 49 (by decide +kernel) (by decide) (fun c40 => ?_) (fun c40 => ?_)
        · refine go_blk h.1 (is := [.aload_n 0, .getfield 9, .iload_n 1]) (pc' := 54) (ls' := [some (.inr (.inr (30, 0))), some (.inl x1), some (.inl x2), some (.inl x3), some (.inl x4), some (.inl x5), none, none, none, none]) (st' := [.inl x1, .inr (.inr (31, 0))]) (m' := m13) (by decide +kernel) rfl ?_
          refine go_iald h.1 (by decide +kernel) rfl rfl (fun b54 => ?_)
          show Go X (Em X puI) 55 [some (.inr (.inr (30, 0))), some (.inl x1), some (.inl x2), some (.inl x3), some (.inl x4), some (.inl x5), none, none, none, none] [.inl (m13 31 0 (ix x1))] m13 _
          refine go_blk h.1 (is := [.aload_n 0, .getfield 9, .iload_n 3]) (pc' := 60) (ls' := [some (.inr (.inr (30, 0))), some (.inl x1), some (.inl x2), some (.inl x3), some (.inl x4), some (.inl x5), none, none, none, none]) (st' := [.inl x3, .inr (.inr (31, 0)), .inl (m13 31 0 (ix x1))]) (m' := m13) (by decide +kernel) rfl ?_
          refine go_iald h.1 (by decide +kernel) rfl rfl (fun b60 => ?_)
          show Go X (Em X puI) 61 [some (.inr (.inr (30, 0))), some (.inl x1), some (.inl x2), some (.inl x3), some (.inl x4), some (.inl x5), none, none, none, none] [.inl (m13 31 0 (ix x3)), .inl (m13 31 0 (ix x1))] m13 _
          refine go_icmpeq h.1 (off := 9) 70 (by decide +kernel) (by decide) (fun c61 => ?_) (fun c61 => ?_)
          · refine go_blk h.1 (is := [.iload_n 2]) (pc' := 71) (ls' := [some (.inr (.inr (30, 0))), some (.inl x1), some (.inl x2), some (.inl x3), some (.inl x4), some (.inl x5), none, none, none, none]) (st' := [.inl x2]) (m' := m13) (by decide +kernel) rfl ?_
            refine go_iflt h.1 (off := 38) 109 (by decide +kernel) (by decide) (fun c71 => ?_) (fun c71 => ?_)
            · exact g_X7_copy_j109 h x1 x2 x3 x4 x5 m13 (none) (none) (none) (none)
            · refine go_blk h.1 (is := [.iload 4]) (pc' := 76) (ls' := [some (.inr (.inr (30, 0))), some (.inl x1), some (.inl x2), some (.inl x3), some (.inl x4), some (.inl x5), none, none, none, none]) (st' := [.inl x4]) (m' := m13) (by decide +kernel) rfl ?_
              refine go_iflt h.1 (off := 33) 109 (by decide +kernel) (by decide) (fun c76 => ?_) (fun c76 => ?_)
              · exact g_X7_copy_j109 h x1 x2 x3 x4 x5 m13 (none) (none) (none) (none)
              · refine go_blk h.1 (is := [.iload 5]) (pc' := 81) (ls' := [some (.inr (.inr (30, 0))), some (.inl x1), some (.inl x2), some (.inl x3), some (.inl x4), some (.inl x5), none, none, none, none]) (st' := [.inl x5]) (m' := m13) (by decide +kernel) rfl ?_
                refine go_iflt h.1 (off := 28) 109 (by decide +kernel) (by decide) (fun c81 => ?_) (fun c81 => ?_)
                · exact g_X7_copy_j109 h x1 x2 x3 x4 x5 m13 (none) (none) (none) (none)
                · refine go_blk h.1 (is := [.iload_n 2, .aload_n 0, .getfield 13, .iload_n 1]) (pc' := 90) (ls' := [some (.inr (.inr (30, 0))), some (.inl x1), some (.inl x2), some (.inl x3), some (.inl x4), some (.inl x5), none, none, none, none]) (st' := [.inl x1, .inr (.inr (32, 0)), .inl x2]) (m' := m13) (by decide +kernel) rfl ?_
                  refine go_iald h.1 (by decide +kernel) rfl rfl (fun b90 => ?_)
                  show Go X (Em X puI) 91 [some (.inr (.inr (30, 0))), some (.inl x1), some (.inl x2), some (.inl x3), some (.inl x4), some (.inl x5), none, none, none, none] [.inl (m13 32 0 (ix x1)), .inl x2] m13 _
                  refine go_icmpgt h.1 (off := 18) 109 (by decide +kernel) (by decide) (fun c91 => ?_) (fun c91 => ?_)
                  · exact g_X7_copy_j109 h x1 x2 x3 x4 x5 m13 (none) (none) (none) (none)
                  · refine go_blk h.1 (is := [.iload 4, .aload_n 0, .getfield 13, .iload_n 3]) (pc' := 101) (ls' := [some (.inr (.inr (30, 0))), some (.inl x1), some (.inl x2), some (.inl x3), some (.inl x4), some (.inl x5), none, none, none, none]) (st' := [.inl x3, .inr (.inr (32, 0)), .inl x4]) (m' := m13) (by decide +kernel) rfl ?_
                    refine go_iald h.1 (by decide +kernel) rfl rfl (fun b101 => ?_)
                    show Go X (Em X puI) 102 [some (.inr (.inr (30, 0))), some (.inl x1), some (.inl x2), some (.inl x3), some (.inl x4), some (.inl x5), none, none, none, none] [.inl (m13 32 0 (ix x3)), .inl x4] m13 _
                    refine go_icmpgt h.1 (off := 7) 109 (by decide +kernel) (by decide) (fun c102 => ?_) (fun c102 => ?_)
                    · exact g_X7_copy_j109 h x1 x2 x3 x4 x5 m13 (none) (none) (none) (none)
                    · refine go_blk h.1 (is := [.iconst 1]) (pc' := 106) (ls' := [some (.inr (.inr (30, 0))), some (.inl x1), some (.inl x2), some (.inl x3), some (.inl x4), some (.inl x5), none, none, none, none]) (st' := [.inl (1 : Int32)]) (m' := m13) (by decide +kernel) rfl ?_
                      refine go_goto h.1 (off := 4) 110 (by decide +kernel) (by decide) ?_
                      exact g_X7_copy_j110 h (1 : Int32) x1 x2 x3 x4 x5 m13 (none) (none) (none) (none)
          · refine go_blk h.1 (is := [.aload_n 0, .iconst 2]) (pc' := 66) (ls' := [some (.inr (.inr (30, 0))), some (.inl x1), some (.inl x2), some (.inl x3), some (.inl x4), some (.inl x5), none, none, none, none]) (st' := [.inl (2 : Int32), .inr (.inr (30, 0))]) (m' := m13) (by decide +kernel) rfl ?_
            refine go_callV h.1 (index := 91) (n := 1) (t := 30) (i := 0) (ci := 7) (nf := 35) (cz := (RX7, TX7, 35)) (as := [.inl (2 : Int32)]) (rest := []) (ctr_X7_fails (xl X) (xA X) (xC X) (xI X) (xk X) (2 : Int32) m13) (by decide +kernel) rfl rfl wd_v_X7_91 rfl (h.room (by first | decide | omega) (by decide)) h.cl (Nat.le_of_ble_eq_true rfl) puI_ok rfl (fun r66 m66 _ => ?_)
            show Go X (Em X puI) 69 [some (.inr (.inr (30, 0))), some (.inl x1), some (.inl x2), some (.inl x3), some (.inl x4), some (.inl x5), none, none, none, none] [.inl r66] m66 _
            exact go_iret h.1 h.2.2.2.2 (by decide +kernel)
        · exact g_X7_copy_j43 h m13 (some (.inl x1)) (some (.inl x2)) (some (.inl x3)) (some (.inl x4)) (some (.inl x5)) (none) (none) (none) (none)
    · refine go_blk h.1 (is := [.iconst (-1)]) (pc' := 20) (ls' := [some (.inr (.inr (30, 0))), some (.inl x1), some (.inl x2), some (.inl x3), some (.inl x4), some (.inl x5), none, none, none, none]) (st' := [.inl (-1 : Int32)]) (m' := m13) (by decide +kernel) rfl ?_
      exact go_iret h.1 h.2.2.2.2 (by decide +kernel)
theorem ctr_X7_copy (l : Launch) (A : AR → Nat) (dC : Nat → ClassId) (dI : Nat → Nat → Nat) (cs : Nat → ClassId) (x1 : Int32) (x2 : Int32) (x3 : Int32) (x4 : Int32) (x5 : Int32) (m : Mem) : Ctr l A dC dI cs yX7_copy prog_9_method_59_code 10 (some .int) 2 puI [.inr (.inr (30, 0)), .inl x1, .inl x2, .inl x3, .inl x4, .inl x5] m (f_X7_copy x1 x2 x3 x4 x5 m) :=
  ctr_of (P := P_X7) (by decide +kernel) rfl pt_X7 rfl rfl (fun X hC _ _ _ _ _ hR h0 h1 hr => g_X7_copy ⟨hC, hR, h0, h1, hr⟩ x1 x2 x3 x4 x5 m)

def f_X7_begins (x1 : Int32) (m : Mem) : Option (Unit × Mem) :=
  some ((), (mset m 30 0 1 (((31 : Int32) * (m 30 0 1)) + x1)))
theorem g_X7_begins {X : XT} (h : MX X prog_9_method_60_code P_X7 0 none) (x1 : Int32) (m : Mem) : Go X (Em X puV) 0 [some (.inr (.inr (30, 0))), some (.inl x1)] [] m (f_X7_begins x1 m) := by
  unfold f_X7_begins
  refine go_blk h.1 (is := [.aload_n 0, .bipush 31, .aload_n 0, .getfield 236, .imul, .iload_n 1, .iadd, .putfield 236]) (pc' := 13) (ls' := [some (.inr (.inr (30, 0))), some (.inl x1)]) (st' := []) (m' := (mset m 30 0 1 (((31 : Int32) * (m 30 0 1)) + x1))) (by decide +kernel) rfl ?_
  exact go_vret h.1 h.2.2.2.2 (by decide +kernel)
theorem ctr_X7_begins (l : Launch) (A : AR → Nat) (dC : Nat → ClassId) (dI : Nat → Nat → Nat) (cs : Nat → ClassId) (x1 : Int32) (m : Mem) : Ctr l A dC dI cs yX7_begins prog_9_method_60_code 2 none 0 puV [.inr (.inr (30, 0)), .inl x1] m (f_X7_begins x1 m) :=
  ctr_of (P := P_X7) (by decide +kernel) rfl pt_X7 rfl rfl (fun X hC _ _ _ _ _ hR h0 h1 hr => g_X7_begins ⟨hC, hR, h0, h1, hr⟩ x1 m)

def f_X7_tell (x1 : Int32) (m : Mem) : Option (Int32 × Mem) :=
  bnd (f_X7_isFish x1 m) (fun r2 m2 =>
    if r2 = 0 then
      some ((-1 : Int32), m2)
    else
      if inB x1 5 = true then
        if inB x1 5 = true then
          if (m2 34 0 (ix x1)) = (1 : Int32) then
            bnd (f_X7_begins (2 : Int32) m2) (fun _ m50 =>
              bnd (f_X7_begins (1 : Int32) m50) (fun _ m55 =>
                some (((m2 35 0 (ix x1)) + (100 : Int32)), m55)))
          else
            if (m2 34 0 (ix x1)) = (2 : Int32) then
              bnd (f_X7_begins (3 : Int32) m2) (fun _ m65 =>
                bnd (f_X7_begins (2 : Int32) m65) (fun _ m70 =>
                  bnd (f_X7_begins (1 : Int32) m70) (fun _ m75 =>
                    bnd (f_X7_begins (1 : Int32) m75) (fun _ m80 =>
                      some ((((2 : Int32) * (m2 35 0 (ix x1))) + (100 : Int32)), m80)))))
            else
              bnd (f_X7_begins (1 : Int32) m2) (fun _ m92 =>
                some ((m2 35 0 (ix x1)), m92))
        else none
      else none)
theorem g_X7_tell {X : XT} (h : MX X prog_9_method_61_code P_X7 1 (some .int)) (x1 : Int32) (m : Mem) : Go X (Em X puI) 0 [some (.inr (.inr (30, 0))), some (.inl x1), none] [] m (f_X7_tell x1 m) := by
  unfold f_X7_tell
  refine go_blk h.1 (is := [.aload_n 0, .iload_n 1]) (pc' := 2) (ls' := [some (.inr (.inr (30, 0))), some (.inl x1), none]) (st' := [.inl x1, .inr (.inr (30, 0))]) (m' := m) (by decide +kernel) rfl ?_
  refine go_callV h.1 (index := 128) (n := 1) (t := 30) (i := 0) (ci := 7) (nf := 35) (cz := (RX7, TX7, 35)) (as := [.inl x1]) (rest := []) (ctr_X7_isFish (xl X) (xA X) (xC X) (xI X) (xk X) x1 m) (by decide +kernel) rfl rfl wd_v_X7_128 rfl (h.room (by first | decide | omega) (by decide)) h.cl (Nat.le_of_ble_eq_true rfl) puI_ok rfl (fun r2 m2 _ => ?_)
  show Go X (Em X puI) 5 [some (.inr (.inr (30, 0))), some (.inl x1), none] [.inl r2] m2 _
  refine go_ifne h.1 (off := 5) 10 (by decide +kernel) (by decide) (fun c5 => ?_) (fun c5 => ?_)
  · refine go_blk h.1 (is := [.aload_n 0, .getfield 22, .iload_n 1]) (pc' := 15) (ls' := [some (.inr (.inr (30, 0))), some (.inl x1), none]) (st' := [.inl x1, .inr (.inr (35, 0))]) (m' := m2) (by decide +kernel) rfl ?_
    refine go_iald h.1 (by decide +kernel) rfl rfl (fun b15 => ?_)
    show Go X (Em X puI) 16 [some (.inr (.inr (30, 0))), some (.inl x1), none] [.inl (m2 35 0 (ix x1))] m2 _
    refine go_blk h.1 (is := [.istore_n 2, .aload_n 0, .getfield 19, .iload_n 1]) (pc' := 22) (ls' := [some (.inr (.inr (30, 0))), some (.inl x1), some (.inl (m2 35 0 (ix x1)))]) (st' := [.inl x1, .inr (.inr (34, 0))]) (m' := m2) (by decide +kernel) rfl ?_
    refine go_iald h.1 (by decide +kernel) rfl rfl (fun b22 => ?_)
    show Go X (Em X puI) 23 [some (.inr (.inr (30, 0))), some (.inl x1), some (.inl (m2 35 0 (ix x1)))] [.inl (m2 34 0 (ix x1))] m2 _
    refine go_ite (fun w23_0 => ?_) (fun w23_0 => ?_)
    · refine go_lsIn h.1 (dflt := 67) (ps := #[(1, 25), (2, 40)]) (len := 25) (off := 25) (1 : Int32) 48 w23_0 (by decide +kernel) (by decide) rfl (by decide) ?_
      refine go_blk h.1 (is := [.aload_n 0, .iconst 2]) (pc' := 50) (ls' := [some (.inr (.inr (30, 0))), some (.inl x1), some (.inl (m2 35 0 (ix x1)))]) (st' := [.inl (2 : Int32), .inr (.inr (30, 0))]) (m' := m2) (by decide +kernel) rfl ?_
      refine go_callV h.1 (index := 239) (n := 1) (t := 30) (i := 0) (ci := 7) (nf := 35) (cz := (RX7, TX7, 35)) (as := [.inl (2 : Int32)]) (rest := []) (ctr_X7_begins (xl X) (xA X) (xC X) (xI X) (xk X) (2 : Int32) m2) (by decide +kernel) rfl rfl wd_v_X7_239 rfl (h.room (by first | decide | omega) (by decide)) h.cl (Nat.le_of_ble_eq_true rfl) puV_ok rfl (fun r50 m50 _ => ?_)
      show Go X (Em X puI) 53 [some (.inr (.inr (30, 0))), some (.inl x1), some (.inl (m2 35 0 (ix x1)))] [] m50 _
      refine go_blk h.1 (is := [.aload_n 0, .iconst 1]) (pc' := 55) (ls' := [some (.inr (.inr (30, 0))), some (.inl x1), some (.inl (m2 35 0 (ix x1)))]) (st' := [.inl (1 : Int32), .inr (.inr (30, 0))]) (m' := m50) (by decide +kernel) rfl ?_
      refine go_callV h.1 (index := 239) (n := 1) (t := 30) (i := 0) (ci := 7) (nf := 35) (cz := (RX7, TX7, 35)) (as := [.inl (1 : Int32)]) (rest := []) (ctr_X7_begins (xl X) (xA X) (xC X) (xI X) (xk X) (1 : Int32) m50) (by decide +kernel) rfl rfl wd_v_X7_239 rfl (h.room (by first | decide | omega) (by decide)) h.cl (Nat.le_of_ble_eq_true rfl) puV_ok rfl (fun r55 m55 _ => ?_)
      show Go X (Em X puI) 58 [some (.inr (.inr (30, 0))), some (.inl x1), some (.inl (m2 35 0 (ix x1)))] [] m55 _
      refine go_blk h.1 (is := [.iload_n 2, .bipush 100, .iadd]) (pc' := 62) (ls' := [some (.inr (.inr (30, 0))), some (.inl x1), some (.inl (m2 35 0 (ix x1)))]) (st' := [.inl ((m2 35 0 (ix x1)) + (100 : Int32))]) (m' := m55) (by decide +kernel) rfl ?_
      exact go_iret h.1 h.2.2.2.2 (by decide +kernel)
    · refine go_ite (fun w23_1 => ?_) (fun w23_1 => ?_)
      · refine go_lsIn h.1 (dflt := 67) (ps := #[(1, 25), (2, 40)]) (len := 25) (off := 40) (2 : Int32) 63 w23_1 (by decide +kernel) (by decide) rfl (by decide) ?_
        refine go_blk h.1 (is := [.aload_n 0, .iconst 3]) (pc' := 65) (ls' := [some (.inr (.inr (30, 0))), some (.inl x1), some (.inl (m2 35 0 (ix x1)))]) (st' := [.inl (3 : Int32), .inr (.inr (30, 0))]) (m' := m2) (by decide +kernel) rfl ?_
        refine go_callV h.1 (index := 239) (n := 1) (t := 30) (i := 0) (ci := 7) (nf := 35) (cz := (RX7, TX7, 35)) (as := [.inl (3 : Int32)]) (rest := []) (ctr_X7_begins (xl X) (xA X) (xC X) (xI X) (xk X) (3 : Int32) m2) (by decide +kernel) rfl rfl wd_v_X7_239 rfl (h.room (by first | decide | omega) (by decide)) h.cl (Nat.le_of_ble_eq_true rfl) puV_ok rfl (fun r65 m65 _ => ?_)
        show Go X (Em X puI) 68 [some (.inr (.inr (30, 0))), some (.inl x1), some (.inl (m2 35 0 (ix x1)))] [] m65 _
        refine go_blk h.1 (is := [.aload_n 0, .iconst 2]) (pc' := 70) (ls' := [some (.inr (.inr (30, 0))), some (.inl x1), some (.inl (m2 35 0 (ix x1)))]) (st' := [.inl (2 : Int32), .inr (.inr (30, 0))]) (m' := m65) (by decide +kernel) rfl ?_
        refine go_callV h.1 (index := 239) (n := 1) (t := 30) (i := 0) (ci := 7) (nf := 35) (cz := (RX7, TX7, 35)) (as := [.inl (2 : Int32)]) (rest := []) (ctr_X7_begins (xl X) (xA X) (xC X) (xI X) (xk X) (2 : Int32) m65) (by decide +kernel) rfl rfl wd_v_X7_239 rfl (h.room (by first | decide | omega) (by decide)) h.cl (Nat.le_of_ble_eq_true rfl) puV_ok rfl (fun r70 m70 _ => ?_)
        show Go X (Em X puI) 73 [some (.inr (.inr (30, 0))), some (.inl x1), some (.inl (m2 35 0 (ix x1)))] [] m70 _
        refine go_blk h.1 (is := [.aload_n 0, .iconst 1]) (pc' := 75) (ls' := [some (.inr (.inr (30, 0))), some (.inl x1), some (.inl (m2 35 0 (ix x1)))]) (st' := [.inl (1 : Int32), .inr (.inr (30, 0))]) (m' := m70) (by decide +kernel) rfl ?_
        refine go_callV h.1 (index := 239) (n := 1) (t := 30) (i := 0) (ci := 7) (nf := 35) (cz := (RX7, TX7, 35)) (as := [.inl (1 : Int32)]) (rest := []) (ctr_X7_begins (xl X) (xA X) (xC X) (xI X) (xk X) (1 : Int32) m70) (by decide +kernel) rfl rfl wd_v_X7_239 rfl (h.room (by first | decide | omega) (by decide)) h.cl (Nat.le_of_ble_eq_true rfl) puV_ok rfl (fun r75 m75 _ => ?_)
        show Go X (Em X puI) 78 [some (.inr (.inr (30, 0))), some (.inl x1), some (.inl (m2 35 0 (ix x1)))] [] m75 _
        refine go_blk h.1 (is := [.aload_n 0, .iconst 1]) (pc' := 80) (ls' := [some (.inr (.inr (30, 0))), some (.inl x1), some (.inl (m2 35 0 (ix x1)))]) (st' := [.inl (1 : Int32), .inr (.inr (30, 0))]) (m' := m75) (by decide +kernel) rfl ?_
        refine go_callV h.1 (index := 239) (n := 1) (t := 30) (i := 0) (ci := 7) (nf := 35) (cz := (RX7, TX7, 35)) (as := [.inl (1 : Int32)]) (rest := []) (ctr_X7_begins (xl X) (xA X) (xC X) (xI X) (xk X) (1 : Int32) m75) (by decide +kernel) rfl rfl wd_v_X7_239 rfl (h.room (by first | decide | omega) (by decide)) h.cl (Nat.le_of_ble_eq_true rfl) puV_ok rfl (fun r80 m80 _ => ?_)
        show Go X (Em X puI) 83 [some (.inr (.inr (30, 0))), some (.inl x1), some (.inl (m2 35 0 (ix x1)))] [] m80 _
        refine go_blk h.1 (is := [.iconst 2, .iload_n 2, .imul, .bipush 100, .iadd]) (pc' := 89) (ls' := [some (.inr (.inr (30, 0))), some (.inl x1), some (.inl (m2 35 0 (ix x1)))]) (st' := [.inl (((2 : Int32) * (m2 35 0 (ix x1))) + (100 : Int32))]) (m' := m80) (by decide +kernel) rfl ?_
        exact go_iret h.1 h.2.2.2.2 (by decide +kernel)
      · refine go_ls h.1 (dflt := 67) (ps := #[(1, 25), (2, 40)]) (len := 25) 90 (off := 67) (by decide +kernel) (by decide) (by simp only [Op.lookupswitch.offset]; rw [if_neg (fun q => toInt_ne w23_0 q.symm)]; rw [if_neg (fun q => toInt_ne w23_1 q.symm)]) (by decide) ?_
        refine go_blk h.1 (is := [.aload_n 0, .iconst 1]) (pc' := 92) (ls' := [some (.inr (.inr (30, 0))), some (.inl x1), some (.inl (m2 35 0 (ix x1)))]) (st' := [.inl (1 : Int32), .inr (.inr (30, 0))]) (m' := m2) (by decide +kernel) rfl ?_
        refine go_callV h.1 (index := 239) (n := 1) (t := 30) (i := 0) (ci := 7) (nf := 35) (cz := (RX7, TX7, 35)) (as := [.inl (1 : Int32)]) (rest := []) (ctr_X7_begins (xl X) (xA X) (xC X) (xI X) (xk X) (1 : Int32) m2) (by decide +kernel) rfl rfl wd_v_X7_239 rfl (h.room (by first | decide | omega) (by decide)) h.cl (Nat.le_of_ble_eq_true rfl) puV_ok rfl (fun r92 m92 _ => ?_)
        show Go X (Em X puI) 95 [some (.inr (.inr (30, 0))), some (.inl x1), some (.inl (m2 35 0 (ix x1)))] [] m92 _
        refine go_blk h.1 (is := [.iload_n 2]) (pc' := 96) (ls' := [some (.inr (.inr (30, 0))), some (.inl x1), some (.inl (m2 35 0 (ix x1)))]) (st' := [.inl (m2 35 0 (ix x1))]) (m' := m92) (by decide +kernel) rfl ?_
        exact go_iret h.1 h.2.2.2.2 (by decide +kernel)
  · refine go_blk h.1 (is := [.iconst (-1)]) (pc' := 9) (ls' := [some (.inr (.inr (30, 0))), some (.inl x1), none]) (st' := [.inl (-1 : Int32)]) (m' := m2) (by decide +kernel) rfl ?_
    exact go_iret h.1 h.2.2.2.2 (by decide +kernel)
theorem ctr_X7_tell (l : Launch) (A : AR → Nat) (dC : Nat → ClassId) (dI : Nat → Nat → Nat) (cs : Nat → ClassId) (x1 : Int32) (m : Mem) : Ctr l A dC dI cs yX7_tell prog_9_method_61_code 3 (some .int) 1 puI [.inr (.inr (30, 0)), .inl x1] m (f_X7_tell x1 m) :=
  ctr_of (P := P_X7) (by decide +kernel) rfl pt_X7 rfl rfl (fun X hC _ _ _ _ _ hR h0 h1 hr => g_X7_tell ⟨hC, hR, h0, h1, hr⟩ x1 m)

def f_X7_let_j26 (s0 : Int32) (x1 : Int32) (m : Mem) : Option (Int32 × Mem) :=
  bnd (f_X7_begins s0 m) (fun _ m26 =>
    if inB x1 5 = true then
      if (m26 34 0 (ix x1)) = (2 : Int32) then
        some ((90 : Int32), m26)
      else
        some (x1, m26)
    else none)
theorem g_X7_let_j26 {X : XT} (h : MX X prog_9_method_62_code P_X7 1 (some .int)) (s0 : Int32) (x1 : Int32) (m : Mem) : Go X (Em X puI) 26 [some (.inr (.inr (30, 0))), some (.inl x1)] [.inl s0, .inr (.inr (30, 0))] m (f_X7_let_j26 s0 x1 m) := by
  unfold f_X7_let_j26
  refine go_callV h.1 (index := 239) (n := 1) (t := 30) (i := 0) (ci := 7) (nf := 35) (cz := (RX7, TX7, 35)) (as := [.inl s0]) (rest := []) (ctr_X7_begins (xl X) (xA X) (xC X) (xI X) (xk X) s0 m) (by decide +kernel) rfl rfl wd_v_X7_239 rfl (h.room (by first | decide | omega) (by decide)) h.cl (Nat.le_of_ble_eq_true rfl) puV_ok rfl (fun r26 m26 _ => ?_)
  show Go X (Em X puI) 29 [some (.inr (.inr (30, 0))), some (.inl x1)] [] m26 _
  refine go_blk h.1 (is := [.aload_n 0, .getfield 19, .iload_n 1]) (pc' := 34) (ls' := [some (.inr (.inr (30, 0))), some (.inl x1)]) (st' := [.inl x1, .inr (.inr (34, 0))]) (m' := m26) (by decide +kernel) rfl ?_
  refine go_iald h.1 (by decide +kernel) rfl rfl (fun b34 => ?_)
  show Go X (Em X puI) 35 [some (.inr (.inr (30, 0))), some (.inl x1)] [.inl (m26 34 0 (ix x1))] m26 _
  refine go_blk h.1 (is := [.iconst 2]) (pc' := 36) (ls' := [some (.inr (.inr (30, 0))), some (.inl x1)]) (st' := [.inl (2 : Int32), .inl (m26 34 0 (ix x1))]) (m' := m26) (by decide +kernel) rfl ?_
  refine go_icmpne h.1 (off := 8) 44 (by decide +kernel) (by decide) (fun c36 => ?_) (fun c36 => ?_)
  · refine go_blk h.1 (is := [.iload_n 1]) (pc' := 45) (ls' := [some (.inr (.inr (30, 0))), some (.inl x1)]) (st' := [.inl x1]) (m' := m26) (by decide +kernel) rfl ?_
    exact go_iret h.1 h.2.2.2.2 (by decide +kernel)
  · refine go_blk h.1 (is := [.bipush 90]) (pc' := 41) (ls' := [some (.inr (.inr (30, 0))), some (.inl x1)]) (st' := [.inl (90 : Int32)]) (m' := m26) (by decide +kernel) rfl ?_
    refine go_goto h.1 (off := 4) 45 (by decide +kernel) (by decide) ?_
    exact go_iret h.1 h.2.2.2.2 (by decide +kernel)

def f_X7_let (x1 : Int32) (m : Mem) : Option (Int32 × Mem) :=
  bnd (f_X7_isFish x1 m) (fun r2 m2 =>
    if r2 = 0 then
      some ((-1 : Int32), m2)
    else
      if inB x1 5 = true then
        if (m2 34 0 (ix x1)) = (2 : Int32) then
          f_X7_let_j26 (5 : Int32) x1 m2
        else
          f_X7_let_j26 (4 : Int32) x1 m2
      else none)
theorem g_X7_let {X : XT} (h : MX X prog_9_method_62_code P_X7 1 (some .int)) (x1 : Int32) (m : Mem) : Go X (Em X puI) 0 [some (.inr (.inr (30, 0))), some (.inl x1)] [] m (f_X7_let x1 m) := by
  unfold f_X7_let
  refine go_blk h.1 (is := [.aload_n 0, .iload_n 1]) (pc' := 2) (ls' := [some (.inr (.inr (30, 0))), some (.inl x1)]) (st' := [.inl x1, .inr (.inr (30, 0))]) (m' := m) (by decide +kernel) rfl ?_
  refine go_callV h.1 (index := 128) (n := 1) (t := 30) (i := 0) (ci := 7) (nf := 35) (cz := (RX7, TX7, 35)) (as := [.inl x1]) (rest := []) (ctr_X7_isFish (xl X) (xA X) (xC X) (xI X) (xk X) x1 m) (by decide +kernel) rfl rfl wd_v_X7_128 rfl (h.room (by first | decide | omega) (by decide)) h.cl (Nat.le_of_ble_eq_true rfl) puI_ok rfl (fun r2 m2 _ => ?_)
  show Go X (Em X puI) 5 [some (.inr (.inr (30, 0))), some (.inl x1)] [.inl r2] m2 _
  refine go_ifne h.1 (off := 5) 10 (by decide +kernel) (by decide) (fun c5 => ?_) (fun c5 => ?_)
  · refine go_blk h.1 (is := [.aload_n 0, .aload_n 0, .getfield 19, .iload_n 1]) (pc' := 16) (ls' := [some (.inr (.inr (30, 0))), some (.inl x1)]) (st' := [.inl x1, .inr (.inr (34, 0)), .inr (.inr (30, 0))]) (m' := m2) (by decide +kernel) rfl ?_
    refine go_iald h.1 (by decide +kernel) rfl rfl (fun b16 => ?_)
    show Go X (Em X puI) 17 [some (.inr (.inr (30, 0))), some (.inl x1)] [.inl (m2 34 0 (ix x1)), .inr (.inr (30, 0))] m2 _
    refine go_blk h.1 (is := [.iconst 2]) (pc' := 18) (ls' := [some (.inr (.inr (30, 0))), some (.inl x1)]) (st' := [.inl (2 : Int32), .inl (m2 34 0 (ix x1)), .inr (.inr (30, 0))]) (m' := m2) (by decide +kernel) rfl ?_
    refine go_icmpne h.1 (off := 7) 25 (by decide +kernel) (by decide) (fun c18 => ?_) (fun c18 => ?_)
    · refine go_blk h.1 (is := [.iconst 4]) (pc' := 26) (ls' := [some (.inr (.inr (30, 0))), some (.inl x1)]) (st' := [.inl (4 : Int32), .inr (.inr (30, 0))]) (m' := m2) (by decide +kernel) rfl ?_
      exact g_X7_let_j26 h (4 : Int32) x1 m2
    · refine go_blk h.1 (is := [.iconst 5]) (pc' := 22) (ls' := [some (.inr (.inr (30, 0))), some (.inl x1)]) (st' := [.inl (5 : Int32), .inr (.inr (30, 0))]) (m' := m2) (by decide +kernel) rfl ?_
      refine go_goto h.1 (off := 4) 26 (by decide +kernel) (by decide) ?_
      exact g_X7_let_j26 h (5 : Int32) x1 m2
  · refine go_blk h.1 (is := [.iconst (-1)]) (pc' := 9) (ls' := [some (.inr (.inr (30, 0))), some (.inl x1)]) (st' := [.inl (-1 : Int32)]) (m' := m2) (by decide +kernel) rfl ?_
    exact go_iret h.1 h.2.2.2.2 (by decide +kernel)
theorem ctr_X7_let (l : Launch) (A : AR → Nat) (dC : Nat → ClassId) (dI : Nat → Nat → Nat) (cs : Nat → ClassId) (x1 : Int32) (m : Mem) : Ctr l A dC dI cs yX7_let prog_9_method_62_code 2 (some .int) 1 puI [.inr (.inr (30, 0)), .inl x1] m (f_X7_let x1 m) :=
  ctr_of (P := P_X7) (by decide +kernel) rfl pt_X7 rfl rfl (fun X hC _ _ _ _ _ hR h0 h1 hr => g_X7_let ⟨hC, hR, h0, h1, hr⟩ x1 m)

def f_X7_as (x1 : Int32) (x2 : Int32) (m : Mem) : Option (Int32 × Mem) :=
  bnd (f_X7_isFish x1 (mset m 30 0 0 (0 : Int32))) (fun r7 m7 =>
    if r7 = 0 then
      some ((-1 : Int32), m7)
    else
      bnd (f_X7_within x2 (0 : Int32) (2 : Int32) m7) (fun r18 m18 =>
        if r18 = 0 then
          some ((-2 : Int32), m18)
        else
          if inB x1 5 = true then
            if (m18 34 0 (ix x1)) < x2 then
              bnd (f_X7_fails (2 : Int32) m18) (fun r43 m43 =>
                some (r43, m43))
            else
              some ((1 : Int32), m18)
          else none))
theorem g_X7_as {X : XT} (h : MX X prog_9_method_63_code P_X7 1 (some .int)) (x1 : Int32) (x2 : Int32) (m : Mem) : Go X (Em X puI) 0 [some (.inr (.inr (30, 0))), some (.inl x1), some (.inl x2)] [] m (f_X7_as x1 x2 m) := by
  unfold f_X7_as
  refine go_blk h.1 (is := [.aload_n 0, .iconst 0, .putfield 64, .aload_n 0, .iload_n 1]) (pc' := 7) (ls' := [some (.inr (.inr (30, 0))), some (.inl x1), some (.inl x2)]) (st' := [.inl x1, .inr (.inr (30, 0))]) (m' := (mset m 30 0 0 (0 : Int32))) (by decide +kernel) rfl ?_
  refine go_callV h.1 (index := 128) (n := 1) (t := 30) (i := 0) (ci := 7) (nf := 35) (cz := (RX7, TX7, 35)) (as := [.inl x1]) (rest := []) (ctr_X7_isFish (xl X) (xA X) (xC X) (xI X) (xk X) x1 (mset m 30 0 0 (0 : Int32))) (by decide +kernel) rfl rfl wd_v_X7_128 rfl (h.room (by first | decide | omega) (by decide)) h.cl (Nat.le_of_ble_eq_true rfl) puI_ok rfl (fun r7 m7 _ => ?_)
  show Go X (Em X puI) 10 [some (.inr (.inr (30, 0))), some (.inl x1), some (.inl x2)] [.inl r7] m7 _
  refine go_ifne h.1 (off := 5) 15 (by decide +kernel) (by decide) (fun c10 => ?_) (fun c10 => ?_)
  · refine go_blk h.1 (is := [.iload_n 2, .iconst 0, .iconst 2]) (pc' := 18) (ls' := [some (.inr (.inr (30, 0))), some (.inl x1), some (.inl x2)]) (st' := [.inl (2 : Int32), .inl (0 : Int32), .inl x2]) (m' := m7) (by decide +kernel) rfl ?_
    refine go_callS h.1 (index := 70) (n := 3) (as := [.inl x2, .inl (0 : Int32), .inl (2 : Int32)]) (rest := []) (ctr_X7_within (xl X) (xA X) (xC X) (xI X) (xk X) x2 (0 : Int32) (2 : Int32) m7) (by decide +kernel) wd_s_X7_70 rfl (h.room (by first | decide | omega) (by decide)) h.cl (Nat.le_of_ble_eq_true rfl) puI_ok rfl (fun r18 m18 _ => ?_)
    show Go X (Em X puI) 21 [some (.inr (.inr (30, 0))), some (.inl x1), some (.inl x2)] [.inl r18] m18 _
    refine go_ifne h.1 (off := 6) 27 (by decide +kernel) (by decide) (fun c21 => ?_) (fun c21 => ?_)
    · refine go_blk h.1 (is := [.aload_n 0, .getfield 19, .iload_n 1]) (pc' := 32) (ls' := [some (.inr (.inr (30, 0))), some (.inl x1), some (.inl x2)]) (st' := [.inl x1, .inr (.inr (34, 0))]) (m' := m18) (by decide +kernel) rfl ?_
      refine go_iald h.1 (by decide +kernel) rfl rfl (fun b32 => ?_)
      show Go X (Em X puI) 33 [some (.inr (.inr (30, 0))), some (.inl x1), some (.inl x2)] [.inl (m18 34 0 (ix x1))] m18 _
      refine go_blk h.1 (is := [.iload_n 2]) (pc' := 34) (ls' := [some (.inr (.inr (30, 0))), some (.inl x1), some (.inl x2)]) (st' := [.inl x2, .inl (m18 34 0 (ix x1))]) (m' := m18) (by decide +kernel) rfl ?_
      refine go_icmplt h.1 (off := 7) 41 (by decide +kernel) (by decide) (fun c34 => ?_) (fun c34 => ?_)
      · refine go_blk h.1 (is := [.aload_n 0, .iconst 2]) (pc' := 43) (ls' := [some (.inr (.inr (30, 0))), some (.inl x1), some (.inl x2)]) (st' := [.inl (2 : Int32), .inr (.inr (30, 0))]) (m' := m18) (by decide +kernel) rfl ?_
        refine go_callV h.1 (index := 91) (n := 1) (t := 30) (i := 0) (ci := 7) (nf := 35) (cz := (RX7, TX7, 35)) (as := [.inl (2 : Int32)]) (rest := []) (ctr_X7_fails (xl X) (xA X) (xC X) (xI X) (xk X) (2 : Int32) m18) (by decide +kernel) rfl rfl wd_v_X7_91 rfl (h.room (by first | decide | omega) (by decide)) h.cl (Nat.le_of_ble_eq_true rfl) puI_ok rfl (fun r43 m43 _ => ?_)
        show Go X (Em X puI) 46 [some (.inr (.inr (30, 0))), some (.inl x1), some (.inl x2)] [.inl r43] m43 _
        exact go_iret h.1 h.2.2.2.2 (by decide +kernel)
      · refine go_blk h.1 (is := [.iconst 1]) (pc' := 38) (ls' := [some (.inr (.inr (30, 0))), some (.inl x1), some (.inl x2)]) (st' := [.inl (1 : Int32)]) (m' := m18) (by decide +kernel) rfl ?_
        refine go_goto h.1 (off := 8) 46 (by decide +kernel) (by decide) ?_
        exact go_iret h.1 h.2.2.2.2 (by decide +kernel)
    · refine go_blk h.1 (is := [.bipush (-2)]) (pc' := 26) (ls' := [some (.inr (.inr (30, 0))), some (.inl x1), some (.inl x2)]) (st' := [.inl (-2 : Int32)]) (m' := m18) (by decide +kernel) rfl ?_
      exact go_iret h.1 h.2.2.2.2 (by decide +kernel)
  · refine go_blk h.1 (is := [.iconst (-1)]) (pc' := 14) (ls' := [some (.inr (.inr (30, 0))), some (.inl x1), some (.inl x2)]) (st' := [.inl (-1 : Int32)]) (m' := m7) (by decide +kernel) rfl ?_
    exact go_iret h.1 h.2.2.2.2 (by decide +kernel)
theorem ctr_X7_as (l : Launch) (A : AR → Nat) (dC : Nat → ClassId) (dI : Nat → Nat → Nat) (cs : Nat → ClassId) (x1 : Int32) (x2 : Int32) (m : Mem) : Ctr l A dC dI cs yX7_as prog_9_method_63_code 3 (some .int) 1 puI [.inr (.inr (30, 0)), .inl x1, .inl x2] m (f_X7_as x1 x2 m) :=
  ctr_of (P := P_X7) (by decide +kernel) rfl pt_X7 rfl rfl (fun X hC _ _ _ _ _ hR h0 h1 hr => g_X7_as ⟨hC, hR, h0, h1, hr⟩ x1 x2 m)

def f_X7_trace (m : Mem) : Option (Int32 × Mem) :=
  some ((m 30 0 1), m)
theorem g_X7_trace {X : XT} (h : MX X prog_9_method_64_code P_X7 0 (some .int)) (m : Mem) : Go X (Em X puI) 0 [some (.inr (.inr (30, 0)))] [] m (f_X7_trace m) := by
  unfold f_X7_trace
  refine go_blk h.1 (is := [.aload_n 0, .getfield 236]) (pc' := 4) (ls' := [some (.inr (.inr (30, 0)))]) (st' := [.inl (m 30 0 1)]) (m' := m) (by decide +kernel) rfl ?_
  exact go_iret h.1 h.2.2.2.2 (by decide +kernel)
theorem ctr_X7_trace (l : Launch) (A : AR → Nat) (dC : Nat → ClassId) (dI : Nat → Nat → Nat) (cs : Nat → ClassId) (m : Mem) : Ctr l A dC dI cs yX7_trace prog_9_method_64_code 1 (some .int) 0 puI [.inr (.inr (30, 0))] m (f_X7_trace m) :=
  ctr_of (P := P_X7) (by decide +kernel) rfl pt_X7 rfl rfl (fun X hC _ _ _ _ _ hR h0 h1 hr => g_X7_trace ⟨hC, hR, h0, h1, hr⟩ m)

def f_X7_fault (m : Mem) : Option (Int32 × Mem) :=
  some ((m 30 0 0), m)
theorem g_X7_fault {X : XT} (h : MX X prog_9_method_65_code P_X7 0 (some .int)) (m : Mem) : Go X (Em X puI) 0 [some (.inr (.inr (30, 0)))] [] m (f_X7_fault m) := by
  unfold f_X7_fault
  refine go_blk h.1 (is := [.aload_n 0, .getfield 64]) (pc' := 4) (ls' := [some (.inr (.inr (30, 0)))]) (st' := [.inl (m 30 0 0)]) (m' := m) (by decide +kernel) rfl ?_
  exact go_iret h.1 h.2.2.2.2 (by decide +kernel)
theorem ctr_X7_fault (l : Launch) (A : AR → Nat) (dC : Nat → ClassId) (dI : Nat → Nat → Nat) (cs : Nat → ClassId) (m : Mem) : Ctr l A dC dI cs yX7_fault prog_9_method_65_code 1 (some .int) 0 puI [.inr (.inr (30, 0))] m (f_X7_fault m) :=
  ctr_of (P := P_X7) (by decide +kernel) rfl pt_X7 rfl rfl (fun X hC _ _ _ _ _ hR h0 h1 hr => g_X7_fault ⟨hC, hR, h0, h1, hr⟩ m)

def f_X7_many (x1 : Int32) (m : Mem) : Option (Int32 × Mem) :=
  if x1 = 0 then
    some ((m 30 0 7), m)
  else
    if x1 = (1 : Int32) then
      some ((m 30 0 6), m)
    else
      if x1 = (2 : Int32) then
        some ((m 30 0 8), m)
      else
        if x1 = (3 : Int32) then
          some ((m 30 0 32), m)
        else
          some ((-2 : Int32), m)
theorem g_X7_many {X : XT} (h : MX X prog_9_method_66_code P_X7 0 (some .int)) (x1 : Int32) (m : Mem) : Go X (Em X puI) 0 [some (.inr (.inr (30, 0))), some (.inl x1)] [] m (f_X7_many x1 m) := by
  unfold f_X7_many
  refine go_blk h.1 (is := [.iload_n 1]) (pc' := 1) (ls' := [some (.inr (.inr (30, 0))), some (.inl x1)]) (st' := [.inl x1]) (m' := m) (by decide +kernel) rfl ?_
  refine go_ifne h.1 (off := 10) 11 (by decide +kernel) (by decide) (fun c1 => ?_) (fun c1 => ?_)
  · refine go_blk h.1 (is := [.iload_n 1, .iconst 1]) (pc' := 13) (ls' := [some (.inr (.inr (30, 0))), some (.inl x1)]) (st' := [.inl (1 : Int32), .inl x1]) (m' := m) (by decide +kernel) rfl ?_
    refine go_icmpne h.1 (off := 10) 23 (by decide +kernel) (by decide) (fun c13 => ?_) (fun c13 => ?_)
    · refine go_blk h.1 (is := [.iload_n 1, .iconst 2]) (pc' := 25) (ls' := [some (.inr (.inr (30, 0))), some (.inl x1)]) (st' := [.inl (2 : Int32), .inl x1]) (m' := m) (by decide +kernel) rfl ?_
      refine go_icmpne h.1 (off := 10) 35 (by decide +kernel) (by decide) (fun c25 => ?_) (fun c25 => ?_)
      · refine go_blk h.1 (is := [.iload_n 1, .iconst 3]) (pc' := 37) (ls' := [some (.inr (.inr (30, 0))), some (.inl x1)]) (st' := [.inl (3 : Int32), .inl x1]) (m' := m) (by decide +kernel) rfl ?_
        refine go_icmpne h.1 (off := 10) 47 (by decide +kernel) (by decide) (fun c37 => ?_) (fun c37 => ?_)
        · refine go_blk h.1 (is := [.bipush (-2)]) (pc' := 49) (ls' := [some (.inr (.inr (30, 0))), some (.inl x1)]) (st' := [.inl (-2 : Int32)]) (m' := m) (by decide +kernel) rfl ?_
          exact go_iret h.1 h.2.2.2.2 (by decide +kernel)
        · refine go_blk h.1 (is := [.aload_n 0, .getfield 114]) (pc' := 44) (ls' := [some (.inr (.inr (30, 0))), some (.inl x1)]) (st' := [.inl (m 30 0 32)]) (m' := m) (by decide +kernel) rfl ?_
          refine go_goto h.1 (off := 5) 49 (by decide +kernel) (by decide) ?_
          exact go_iret h.1 h.2.2.2.2 (by decide +kernel)
      · refine go_blk h.1 (is := [.aload_n 0, .getfield 111]) (pc' := 32) (ls' := [some (.inr (.inr (30, 0))), some (.inl x1)]) (st' := [.inl (m 30 0 8)]) (m' := m) (by decide +kernel) rfl ?_
        refine go_goto h.1 (off := 17) 49 (by decide +kernel) (by decide) ?_
        exact go_iret h.1 h.2.2.2.2 (by decide +kernel)
    · refine go_blk h.1 (is := [.aload_n 0, .getfield 105]) (pc' := 20) (ls' := [some (.inr (.inr (30, 0))), some (.inl x1)]) (st' := [.inl (m 30 0 6)]) (m' := m) (by decide +kernel) rfl ?_
      refine go_goto h.1 (off := 29) 49 (by decide +kernel) (by decide) ?_
      exact go_iret h.1 h.2.2.2.2 (by decide +kernel)
  · refine go_blk h.1 (is := [.aload_n 0, .getfield 74]) (pc' := 8) (ls' := [some (.inr (.inr (30, 0))), some (.inl x1)]) (st' := [.inl (m 30 0 7)]) (m' := m) (by decide +kernel) rfl ?_
    refine go_goto h.1 (off := 41) 49 (by decide +kernel) (by decide) ?_
    exact go_iret h.1 h.2.2.2.2 (by decide +kernel)
theorem ctr_X7_many (l : Launch) (A : AR → Nat) (dC : Nat → ClassId) (dI : Nat → Nat → Nat) (cs : Nat → ClassId) (x1 : Int32) (m : Mem) : Ctr l A dC dI cs yX7_many prog_9_method_66_code 2 (some .int) 0 puI [.inr (.inr (30, 0)), .inl x1] m (f_X7_many x1 m) :=
  ctr_of (P := P_X7) (by decide +kernel) rfl pt_X7 rfl rfl (fun X hC _ _ _ _ _ hR h0 h1 hr => g_X7_many ⟨hC, hR, h0, h1, hr⟩ x1 m)

