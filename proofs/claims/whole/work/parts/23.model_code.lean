/-! ===== printed by wip/whole/tr.py out of the listing ===== -/
def f_X7_passes_j48 (x1 : Int32) (x2 : Int32) (x3 : Int32) (x4 : Int32) (x5 : Int32) (m : Mem) : Option (Int32 × Mem) :=
  bnd (f_X7_layPasses x1 x2 x3 x4 m) (fun r54 m54 =>
    if r54 = 0 then
      bnd (f_X7_go m54) (fun r68 m68 =>
        if x5 = (1 : Int32) then
          some (r68, m68)
        else
          if r68 = (-9 : Int32) then
            bnd (f_X7_tellPasses x5 m68) (fun r92 m92 =>
              some (r92, m92))
          else
            some (((-100 : Int32) - r68), m68))
    else
      some (r54, m54))
theorem g_X7_passes_j48 {X : XT} (h : MX X prog_9_method_32_code P_X7 5 (some .int)) (x1 : Int32) (x2 : Int32) (x3 : Int32) (x4 : Int32) (x5 : Int32) (m : Mem) (o6 : Option AV) (o7 : Option AV) : Go X (Em X puI) 48 [some (.inr (.inr (30, 0))), some (.inl x1), some (.inl x2), some (.inl x3), some (.inl x4), some (.inl x5), o6, o7] [] m (f_X7_passes_j48 x1 x2 x3 x4 x5 m) := by
  unfold f_X7_passes_j48
  refine go_blk h.1 (is := [.aload_n 0, .iload_n 1, .iload_n 2, .iload_n 3, .iload 4]) (pc' := 54) (ls' := [some (.inr (.inr (30, 0))), some (.inl x1), some (.inl x2), some (.inl x3), some (.inl x4), some (.inl x5), o6, o7]) (st' := [.inl x4, .inl x3, .inl x2, .inl x1, .inr (.inr (30, 0))]) (m' := m) (by decide +kernel) rfl ?_
  refine go_callV h.1 (index := 177) (n := 4) (t := 30) (i := 0) (ci := 7) (nf := 35) (cz := (RX7, TX7, 35)) (as := [.inl x1, .inl x2, .inl x3, .inl x4]) (rest := []) (ctr_X7_layPasses (xl X) (xA X) (xC X) (xI X) (xk X) x1 x2 x3 x4 m) (by decide +kernel) rfl rfl wd_v_X7_177 rfl (h.room (by first | decide | omega) (by decide)) h.cl (Nat.le_of_ble_eq_true rfl) puI_ok rfl (fun r54 m54 _ => ?_)
  show Go X (Em X puI) 57 [some (.inr (.inr (30, 0))), some (.inl x1), some (.inl x2), some (.inl x3), some (.inl x4), some (.inl x5), o6, o7] [.inl r54] m54 _
  refine go_blk h.1 (is := [.istore 6, .iload 6]) (pc' := 61) (ls' := [some (.inr (.inr (30, 0))), some (.inl x1), some (.inl x2), some (.inl x3), some (.inl x4), some (.inl x5), some (.inl r54), o7]) (st' := [.inl r54]) (m' := m54) (by decide +kernel) rfl ?_
  refine go_ifeq h.1 (off := 6) 67 (by decide +kernel) (by decide) (fun c61 => ?_) (fun c61 => ?_)
  · refine go_blk h.1 (is := [.aload_n 0]) (pc' := 68) (ls' := [some (.inr (.inr (30, 0))), some (.inl x1), some (.inl x2), some (.inl x3), some (.inl x4), some (.inl x5), some (.inl r54), o7]) (st' := [.inr (.inr (30, 0))]) (m' := m54) (by decide +kernel) rfl ?_
    refine go_callV h.1 (index := 180) (n := 0) (t := 30) (i := 0) (ci := 7) (nf := 35) (cz := (RX7, TX7, 35)) (as := []) (rest := []) (ctr_X7_go (xl X) (xA X) (xC X) (xI X) (xk X) m54) (by decide +kernel) rfl rfl wd_v_X7_180 rfl (h.room (by first | decide | omega) (by decide)) h.cl (Nat.le_of_ble_eq_true rfl) puI_ok rfl (fun r68 m68 _ => ?_)
    show Go X (Em X puI) 71 [some (.inr (.inr (30, 0))), some (.inl x1), some (.inl x2), some (.inl x3), some (.inl x4), some (.inl x5), some (.inl r54), o7] [.inl r68] m68 _
    refine go_blk h.1 (is := [.istore 7, .iload 5, .iconst 1]) (pc' := 76) (ls' := [some (.inr (.inr (30, 0))), some (.inl x1), some (.inl x2), some (.inl x3), some (.inl x4), some (.inl x5), some (.inl r54), some (.inl r68)]) (st' := [.inl (1 : Int32), .inl x5]) (m' := m68) (by decide +kernel) rfl ?_
    refine go_icmpne h.1 (off := 6) 82 (by decide +kernel) (by decide) (fun c76 => ?_) (fun c76 => ?_)
    · refine go_blk h.1 (is := [.iload 7, .bipush (-9)]) (pc' := 86) (ls' := [some (.inr (.inr (30, 0))), some (.inl x1), some (.inl x2), some (.inl x3), some (.inl x4), some (.inl x5), some (.inl r54), some (.inl r68)]) (st' := [.inl (-9 : Int32), .inl r68]) (m' := m68) (by decide +kernel) rfl ?_
      refine go_icmpne h.1 (off := 12) 98 (by decide +kernel) (by decide) (fun c86 => ?_) (fun c86 => ?_)
      · refine go_blk h.1 (is := [.bipush (-100), .iload 7, .isub]) (pc' := 103) (ls' := [some (.inr (.inr (30, 0))), some (.inl x1), some (.inl x2), some (.inl x3), some (.inl x4), some (.inl x5), some (.inl r54), some (.inl r68)]) (st' := [.inl ((-100 : Int32) - r68)]) (m' := m68) (by decide +kernel) rfl ?_
        exact go_iret h.1 h.2.2.2.2 (by decide +kernel)
      · refine go_blk h.1 (is := [.aload_n 0, .iload 5]) (pc' := 92) (ls' := [some (.inr (.inr (30, 0))), some (.inl x1), some (.inl x2), some (.inl x3), some (.inl x4), some (.inl x5), some (.inl r54), some (.inl r68)]) (st' := [.inl x5, .inr (.inr (30, 0))]) (m' := m68) (by decide +kernel) rfl ?_
        refine go_callV h.1 (index := 184) (n := 1) (t := 30) (i := 0) (ci := 7) (nf := 35) (cz := (RX7, TX7, 35)) (as := [.inl x5]) (rest := []) (ctr_X7_tellPasses (xl X) (xA X) (xC X) (xI X) (xk X) x5 m68) (by decide +kernel) rfl rfl wd_v_X7_184 rfl (h.room (by first | decide | omega) (by decide)) h.cl (Nat.le_of_ble_eq_true rfl) puI_ok rfl (fun r92 m92 _ => ?_)
        show Go X (Em X puI) 95 [some (.inr (.inr (30, 0))), some (.inl x1), some (.inl x2), some (.inl x3), some (.inl x4), some (.inl x5), some (.inl r54), some (.inl r68)] [.inl r92] m92 _
        refine go_goto h.1 (off := 8) 103 (by decide +kernel) (by decide) ?_
        exact go_iret h.1 h.2.2.2.2 (by decide +kernel)
    · refine go_blk h.1 (is := [.iload 7]) (pc' := 81) (ls' := [some (.inr (.inr (30, 0))), some (.inl x1), some (.inl x2), some (.inl x3), some (.inl x4), some (.inl x5), some (.inl r54), some (.inl r68)]) (st' := [.inl r68]) (m' := m68) (by decide +kernel) rfl ?_
      exact go_iret h.1 h.2.2.2.2 (by decide +kernel)
  · refine go_blk h.1 (is := [.iload 6]) (pc' := 66) (ls' := [some (.inr (.inr (30, 0))), some (.inl x1), some (.inl x2), some (.inl x3), some (.inl x4), some (.inl x5), some (.inl r54), o7]) (st' := [.inl r54]) (m' := m54) (by decide +kernel) rfl ?_
    exact go_iret h.1 h.2.2.2.2 (by decide +kernel)

def f_X7_passes (x1 : Int32) (x2 : Int32) (x3 : Int32) (x4 : Int32) (x5 : Int32) (m : Mem) : Option (Int32 × Mem) :=
  bnd (f_X7_isSheet x1 (mset m 30 0 0 (0 : Int32))) (fun r6 m6 =>
    if r6 = 0 then
      some ((-1 : Int32), m6)
    else
      bnd (f_X7_arePairs x2 x4 m6) (fun r17 m17 =>
        if r17 = 0 then
          some ((-2 : Int32), m17)
        else
          bnd (f_X7_within x5 (0 : Int32) (4 : Int32) m17) (fun r27 m27 =>
            if r27 = 0 then
              bnd (f_X7_within x5 (10 : Int32) (14 : Int32) m27) (fun r39 m39 =>
                if r39 = 0 then
                  some ((-2 : Int32), m39)
                else
                  f_X7_passes_j48 x1 x2 x3 x4 x5 m39)
            else
              f_X7_passes_j48 x1 x2 x3 x4 x5 m27)))
theorem g_X7_passes {X : XT} (h : MX X prog_9_method_32_code P_X7 5 (some .int)) (x1 : Int32) (x2 : Int32) (x3 : Int32) (x4 : Int32) (x5 : Int32) (m : Mem) : Go X (Em X puI) 0 [some (.inr (.inr (30, 0))), some (.inl x1), some (.inl x2), some (.inl x3), some (.inl x4), some (.inl x5), none, none] [] m (f_X7_passes x1 x2 x3 x4 x5 m) := by
  unfold f_X7_passes
  refine go_blk h.1 (is := [.aload_n 0, .iconst 0, .putfield 64, .iload_n 1]) (pc' := 6) (ls' := [some (.inr (.inr (30, 0))), some (.inl x1), some (.inl x2), some (.inl x3), some (.inl x4), some (.inl x5), none, none]) (st' := [.inl x1]) (m' := (mset m 30 0 0 (0 : Int32))) (by decide +kernel) rfl ?_
  refine go_callS h.1 (index := 80) (n := 1) (as := [.inl x1]) (rest := []) (ctr_X7_isSheet (xl X) (xA X) (xC X) (xI X) (xk X) x1 (mset m 30 0 0 (0 : Int32))) (by decide +kernel) wd_s_X7_80 rfl (h.room (by first | decide | omega) (by decide)) h.cl (Nat.le_of_ble_eq_true rfl) puI_ok rfl (fun r6 m6 _ => ?_)
  show Go X (Em X puI) 9 [some (.inr (.inr (30, 0))), some (.inl x1), some (.inl x2), some (.inl x3), some (.inl x4), some (.inl x5), none, none] [.inl r6] m6 _
  refine go_ifne h.1 (off := 5) 14 (by decide +kernel) (by decide) (fun c9 => ?_) (fun c9 => ?_)
  · refine go_blk h.1 (is := [.iload_n 2, .iload 4]) (pc' := 17) (ls' := [some (.inr (.inr (30, 0))), some (.inl x1), some (.inl x2), some (.inl x3), some (.inl x4), some (.inl x5), none, none]) (st' := [.inl x4, .inl x2]) (m' := m6) (by decide +kernel) rfl ?_
    refine go_callS h.1 (index := 174) (n := 2) (as := [.inl x2, .inl x4]) (rest := []) (ctr_X7_arePairs (xl X) (xA X) (xC X) (xI X) (xk X) x2 x4 m6) (by decide +kernel) wd_s_X7_174 rfl (h.room (by first | decide | omega) (by decide)) h.cl (Nat.le_of_ble_eq_true rfl) puI_ok rfl (fun r17 m17 _ => ?_)
    show Go X (Em X puI) 20 [some (.inr (.inr (30, 0))), some (.inl x1), some (.inl x2), some (.inl x3), some (.inl x4), some (.inl x5), none, none] [.inl r17] m17 _
    refine go_ifeq h.1 (off := 25) 45 (by decide +kernel) (by decide) (fun c20 => ?_) (fun c20 => ?_)
    · refine go_blk h.1 (is := [.bipush (-2)]) (pc' := 47) (ls' := [some (.inr (.inr (30, 0))), some (.inl x1), some (.inl x2), some (.inl x3), some (.inl x4), some (.inl x5), none, none]) (st' := [.inl (-2 : Int32)]) (m' := m17) (by decide +kernel) rfl ?_
      exact go_iret h.1 h.2.2.2.2 (by decide +kernel)
    · refine go_blk h.1 (is := [.iload 5, .iconst 0, .iconst 4]) (pc' := 27) (ls' := [some (.inr (.inr (30, 0))), some (.inl x1), some (.inl x2), some (.inl x3), some (.inl x4), some (.inl x5), none, none]) (st' := [.inl (4 : Int32), .inl (0 : Int32), .inl x5]) (m' := m17) (by decide +kernel) rfl ?_
      refine go_callS h.1 (index := 70) (n := 3) (as := [.inl x5, .inl (0 : Int32), .inl (4 : Int32)]) (rest := []) (ctr_X7_within (xl X) (xA X) (xC X) (xI X) (xk X) x5 (0 : Int32) (4 : Int32) m17) (by decide +kernel) wd_s_X7_70 rfl (h.room (by first | decide | omega) (by decide)) h.cl (Nat.le_of_ble_eq_true rfl) puI_ok rfl (fun r27 m27 _ => ?_)
      show Go X (Em X puI) 30 [some (.inr (.inr (30, 0))), some (.inl x1), some (.inl x2), some (.inl x3), some (.inl x4), some (.inl x5), none, none] [.inl r27] m27 _
      refine go_ifne h.1 (off := 18) 48 (by decide +kernel) (by decide) (fun c30 => ?_) (fun c30 => ?_)
      · exact g_X7_passes_j48 h x1 x2 x3 x4 x5 m27 (none) (none)
      · refine go_blk h.1 (is := [.iload 5, .bipush 10, .bipush 14]) (pc' := 39) (ls' := [some (.inr (.inr (30, 0))), some (.inl x1), some (.inl x2), some (.inl x3), some (.inl x4), some (.inl x5), none, none]) (st' := [.inl (14 : Int32), .inl (10 : Int32), .inl x5]) (m' := m27) (by decide +kernel) rfl ?_
        refine go_callS h.1 (index := 70) (n := 3) (as := [.inl x5, .inl (10 : Int32), .inl (14 : Int32)]) (rest := []) (ctr_X7_within (xl X) (xA X) (xC X) (xI X) (xk X) x5 (10 : Int32) (14 : Int32) m27) (by decide +kernel) wd_s_X7_70 rfl (h.room (by first | decide | omega) (by decide)) h.cl (Nat.le_of_ble_eq_true rfl) puI_ok rfl (fun r39 m39 _ => ?_)
        show Go X (Em X puI) 42 [some (.inr (.inr (30, 0))), some (.inl x1), some (.inl x2), some (.inl x3), some (.inl x4), some (.inl x5), none, none] [.inl r39] m39 _
        refine go_ifne h.1 (off := 6) 48 (by decide +kernel) (by decide) (fun c42 => ?_) (fun c42 => ?_)
        · exact g_X7_passes_j48 h x1 x2 x3 x4 x5 m39 (none) (none)
        · refine go_blk h.1 (is := [.bipush (-2)]) (pc' := 47) (ls' := [some (.inr (.inr (30, 0))), some (.inl x1), some (.inl x2), some (.inl x3), some (.inl x4), some (.inl x5), none, none]) (st' := [.inl (-2 : Int32)]) (m' := m39) (by decide +kernel) rfl ?_
          exact go_iret h.1 h.2.2.2.2 (by decide +kernel)
  · refine go_blk h.1 (is := [.iconst (-1)]) (pc' := 13) (ls' := [some (.inr (.inr (30, 0))), some (.inl x1), some (.inl x2), some (.inl x3), some (.inl x4), some (.inl x5), none, none]) (st' := [.inl (-1 : Int32)]) (m' := m6) (by decide +kernel) rfl ?_
    exact go_iret h.1 h.2.2.2.2 (by decide +kernel)
theorem ctr_X7_passes (l : Launch) (A : AR → Nat) (dC : Nat → ClassId) (dI : Nat → Nat → Nat) (cs : Nat → ClassId) (x1 : Int32) (x2 : Int32) (x3 : Int32) (x4 : Int32) (x5 : Int32) (m : Mem) : Ctr l A dC dI cs yX7_passes prog_9_method_32_code 8 (some .int) 5 puI [.inr (.inr (30, 0)), .inl x1, .inl x2, .inl x3, .inl x4, .inl x5] m (f_X7_passes x1 x2 x3 x4 x5 m) :=
  ctr_of (P := P_X7) (by decide +kernel) rfl pt_X7 rfl rfl (fun X hC _ _ _ _ _ hR h0 h1 hr => g_X7_passes ⟨hC, hR, h0, h1, hr⟩ x1 x2 x3 x4 x5 m)

def f_X7_goRow (x1 : Int32) (x2 : Int32) (x3 : Int32) (x4 : Int32) (m : Mem) : Option (Int32 × Mem) :=
  bnd (f_X7_arePairs x2 x4 m) (fun r3 m3 =>
    if r3 = 0 then
      some ((-2 : Int32), m3)
    else
      bnd (f_X7_layPasses x1 x2 x3 x4 m3) (fun r18 m18 =>
        if r18 = 0 then
          bnd (f_X7_go m18) (fun r32 m32 =>
            if r32 = (-9 : Int32) then
              some ((0 : Int32), m32)
            else
              some (((-100 : Int32) - r32), m32))
        else
          some (r18, m18)))
theorem g_X7_goRow {X : XT} (h : MX X prog_9_method_31_code P_X7 5 (some .int)) (x1 : Int32) (x2 : Int32) (x3 : Int32) (x4 : Int32) (m : Mem) : Go X (Em X puI) 0 [some (.inr (.inr (30, 0))), some (.inl x1), some (.inl x2), some (.inl x3), some (.inl x4), none, none] [] m (f_X7_goRow x1 x2 x3 x4 m) := by
  unfold f_X7_goRow
  refine go_blk h.1 (is := [.iload_n 2, .iload 4]) (pc' := 3) (ls' := [some (.inr (.inr (30, 0))), some (.inl x1), some (.inl x2), some (.inl x3), some (.inl x4), none, none]) (st' := [.inl x4, .inl x2]) (m' := m) (by decide +kernel) rfl ?_
  refine go_callS h.1 (index := 174) (n := 2) (as := [.inl x2, .inl x4]) (rest := []) (ctr_X7_arePairs (xl X) (xA X) (xC X) (xI X) (xk X) x2 x4 m) (by decide +kernel) wd_s_X7_174 rfl (h.room (by first | decide | omega) (by decide)) h.cl (Nat.le_of_ble_eq_true rfl) puI_ok rfl (fun r3 m3 _ => ?_)
  show Go X (Em X puI) 6 [some (.inr (.inr (30, 0))), some (.inl x1), some (.inl x2), some (.inl x3), some (.inl x4), none, none] [.inl r3] m3 _
  refine go_ifne h.1 (off := 6) 12 (by decide +kernel) (by decide) (fun c6 => ?_) (fun c6 => ?_)
  · refine go_blk h.1 (is := [.aload_n 0, .iload_n 1, .iload_n 2, .iload_n 3, .iload 4]) (pc' := 18) (ls' := [some (.inr (.inr (30, 0))), some (.inl x1), some (.inl x2), some (.inl x3), some (.inl x4), none, none]) (st' := [.inl x4, .inl x3, .inl x2, .inl x1, .inr (.inr (30, 0))]) (m' := m3) (by decide +kernel) rfl ?_
    refine go_callV h.1 (index := 177) (n := 4) (t := 30) (i := 0) (ci := 7) (nf := 35) (cz := (RX7, TX7, 35)) (as := [.inl x1, .inl x2, .inl x3, .inl x4]) (rest := []) (ctr_X7_layPasses (xl X) (xA X) (xC X) (xI X) (xk X) x1 x2 x3 x4 m3) (by decide +kernel) rfl rfl wd_v_X7_177 rfl (h.room (by first | decide | omega) (by decide)) h.cl (Nat.le_of_ble_eq_true rfl) puI_ok rfl (fun r18 m18 _ => ?_)
    show Go X (Em X puI) 21 [some (.inr (.inr (30, 0))), some (.inl x1), some (.inl x2), some (.inl x3), some (.inl x4), none, none] [.inl r18] m18 _
    refine go_blk h.1 (is := [.istore 5, .iload 5]) (pc' := 25) (ls' := [some (.inr (.inr (30, 0))), some (.inl x1), some (.inl x2), some (.inl x3), some (.inl x4), some (.inl r18), none]) (st' := [.inl r18]) (m' := m18) (by decide +kernel) rfl ?_
    refine go_ifeq h.1 (off := 6) 31 (by decide +kernel) (by decide) (fun c25 => ?_) (fun c25 => ?_)
    · refine go_blk h.1 (is := [.aload_n 0]) (pc' := 32) (ls' := [some (.inr (.inr (30, 0))), some (.inl x1), some (.inl x2), some (.inl x3), some (.inl x4), some (.inl r18), none]) (st' := [.inr (.inr (30, 0))]) (m' := m18) (by decide +kernel) rfl ?_
      refine go_callV h.1 (index := 180) (n := 0) (t := 30) (i := 0) (ci := 7) (nf := 35) (cz := (RX7, TX7, 35)) (as := []) (rest := []) (ctr_X7_go (xl X) (xA X) (xC X) (xI X) (xk X) m18) (by decide +kernel) rfl rfl wd_v_X7_180 rfl (h.room (by first | decide | omega) (by decide)) h.cl (Nat.le_of_ble_eq_true rfl) puI_ok rfl (fun r32 m32 _ => ?_)
      show Go X (Em X puI) 35 [some (.inr (.inr (30, 0))), some (.inl x1), some (.inl x2), some (.inl x3), some (.inl x4), some (.inl r18), none] [.inl r32] m32 _
      refine go_blk h.1 (is := [.istore 6, .iload 6, .bipush (-9)]) (pc' := 41) (ls' := [some (.inr (.inr (30, 0))), some (.inl x1), some (.inl x2), some (.inl x3), some (.inl x4), some (.inl r18), some (.inl r32)]) (st' := [.inl (-9 : Int32), .inl r32]) (m' := m32) (by decide +kernel) rfl ?_
      refine go_icmpne h.1 (off := 7) 48 (by decide +kernel) (by decide) (fun c41 => ?_) (fun c41 => ?_)
      · refine go_blk h.1 (is := [.bipush (-100), .iload 6, .isub]) (pc' := 53) (ls' := [some (.inr (.inr (30, 0))), some (.inl x1), some (.inl x2), some (.inl x3), some (.inl x4), some (.inl r18), some (.inl r32)]) (st' := [.inl ((-100 : Int32) - r32)]) (m' := m32) (by decide +kernel) rfl ?_
        exact go_iret h.1 h.2.2.2.2 (by decide +kernel)
      · refine go_blk h.1 (is := [.iconst 0]) (pc' := 45) (ls' := [some (.inr (.inr (30, 0))), some (.inl x1), some (.inl x2), some (.inl x3), some (.inl x4), some (.inl r18), some (.inl r32)]) (st' := [.inl (0 : Int32)]) (m' := m32) (by decide +kernel) rfl ?_
        refine go_goto h.1 (off := 8) 53 (by decide +kernel) (by decide) ?_
        exact go_iret h.1 h.2.2.2.2 (by decide +kernel)
    · refine go_blk h.1 (is := [.iload 5]) (pc' := 30) (ls' := [some (.inr (.inr (30, 0))), some (.inl x1), some (.inl x2), some (.inl x3), some (.inl x4), some (.inl r18), none]) (st' := [.inl r18]) (m' := m18) (by decide +kernel) rfl ?_
      exact go_iret h.1 h.2.2.2.2 (by decide +kernel)
  · refine go_blk h.1 (is := [.bipush (-2)]) (pc' := 11) (ls' := [some (.inr (.inr (30, 0))), some (.inl x1), some (.inl x2), some (.inl x3), some (.inl x4), none, none]) (st' := [.inl (-2 : Int32)]) (m' := m3) (by decide +kernel) rfl ?_
    exact go_iret h.1 h.2.2.2.2 (by decide +kernel)
theorem ctr_X7_goRow (l : Launch) (A : AR → Nat) (dC : Nat → ClassId) (dI : Nat → Nat → Nat) (cs : Nat → ClassId) (x1 : Int32) (x2 : Int32) (x3 : Int32) (x4 : Int32) (m : Mem) : Ctr l A dC dI cs yX7_goRow prog_9_method_31_code 7 (some .int) 5 puI [.inr (.inr (30, 0)), .inl x1, .inl x2, .inl x3, .inl x4] m (f_X7_goRow x1 x2 x3 x4 m) :=
  ctr_of (P := P_X7) (by decide +kernel) rfl pt_X7 rfl rfl (fun X hC _ _ _ _ _ hR h0 h1 hr => g_X7_goRow ⟨hC, hR, h0, h1, hr⟩ x1 x2 x3 x4 m)

def f_X7_owes (x1 : Int32) (x2 : Int32) (x3 : Int32) (x4 : Int32) (x5 : Int32) (x6 : Int32) (m : Mem) : Option (Int32 × Mem) :=
  bnd (f_X7_isFish x1 (mset m 30 0 0 (0 : Int32))) (fun r7 m7 =>
    if r7 = 0 then
      some ((-1 : Int32), m7)
    else
      bnd (f_X7_isFish x2 m7) (fun r15 m15 =>
        if r15 = 0 then
          some ((-1 : Int32), m15)
        else
          bnd (f_X7_isSheet x3 m15) (fun r22 m22 =>
            if r22 = 0 then
              some ((-1 : Int32), m22)
            else
              bnd (f_X7_goRow x3 x4 x5 x6 m22) (fun r38 m38 =>
                if r38 = 0 then
                  if inB (((5 : Int32) * x1) + x2) 25 = true then
                    some ((m38 41 0 (ix (((5 : Int32) * x1) + x2))), m38)
                  else none
                else
                  some (r38, m38)))))
theorem g_X7_owes {X : XT} (h : MX X prog_9_method_34_code P_X7 6 (some .int)) (x1 : Int32) (x2 : Int32) (x3 : Int32) (x4 : Int32) (x5 : Int32) (x6 : Int32) (m : Mem) : Go X (Em X puI) 0 [some (.inr (.inr (30, 0))), some (.inl x1), some (.inl x2), some (.inl x3), some (.inl x4), some (.inl x5), some (.inl x6), none] [] m (f_X7_owes x1 x2 x3 x4 x5 x6 m) := by
  unfold f_X7_owes
  refine go_blk h.1 (is := [.aload_n 0, .iconst 0, .putfield 64, .aload_n 0, .iload_n 1]) (pc' := 7) (ls' := [some (.inr (.inr (30, 0))), some (.inl x1), some (.inl x2), some (.inl x3), some (.inl x4), some (.inl x5), some (.inl x6), none]) (st' := [.inl x1, .inr (.inr (30, 0))]) (m' := (mset m 30 0 0 (0 : Int32))) (by decide +kernel) rfl ?_
  refine go_callV h.1 (index := 128) (n := 1) (t := 30) (i := 0) (ci := 7) (nf := 35) (cz := (RX7, TX7, 35)) (as := [.inl x1]) (rest := []) (ctr_X7_isFish (xl X) (xA X) (xC X) (xI X) (xk X) x1 (mset m 30 0 0 (0 : Int32))) (by decide +kernel) rfl rfl wd_v_X7_128 rfl (h.room (by first | decide | omega) (by decide)) h.cl (Nat.le_of_ble_eq_true rfl) puI_ok rfl (fun r7 m7 _ => ?_)
  show Go X (Em X puI) 10 [some (.inr (.inr (30, 0))), some (.inl x1), some (.inl x2), some (.inl x3), some (.inl x4), some (.inl x5), some (.inl x6), none] [.inl r7] m7 _
  refine go_ifeq h.1 (off := 18) 28 (by decide +kernel) (by decide) (fun c10 => ?_) (fun c10 => ?_)
  · refine go_blk h.1 (is := [.iconst (-1)]) (pc' := 29) (ls' := [some (.inr (.inr (30, 0))), some (.inl x1), some (.inl x2), some (.inl x3), some (.inl x4), some (.inl x5), some (.inl x6), none]) (st' := [.inl (-1 : Int32)]) (m' := m7) (by decide +kernel) rfl ?_
    exact go_iret h.1 h.2.2.2.2 (by decide +kernel)
  · refine go_blk h.1 (is := [.aload_n 0, .iload_n 2]) (pc' := 15) (ls' := [some (.inr (.inr (30, 0))), some (.inl x1), some (.inl x2), some (.inl x3), some (.inl x4), some (.inl x5), some (.inl x6), none]) (st' := [.inl x2, .inr (.inr (30, 0))]) (m' := m7) (by decide +kernel) rfl ?_
    refine go_callV h.1 (index := 128) (n := 1) (t := 30) (i := 0) (ci := 7) (nf := 35) (cz := (RX7, TX7, 35)) (as := [.inl x2]) (rest := []) (ctr_X7_isFish (xl X) (xA X) (xC X) (xI X) (xk X) x2 m7) (by decide +kernel) rfl rfl wd_v_X7_128 rfl (h.room (by first | decide | omega) (by decide)) h.cl (Nat.le_of_ble_eq_true rfl) puI_ok rfl (fun r15 m15 _ => ?_)
    show Go X (Em X puI) 18 [some (.inr (.inr (30, 0))), some (.inl x1), some (.inl x2), some (.inl x3), some (.inl x4), some (.inl x5), some (.inl x6), none] [.inl r15] m15 _
    refine go_ifeq h.1 (off := 10) 28 (by decide +kernel) (by decide) (fun c18 => ?_) (fun c18 => ?_)
    · refine go_blk h.1 (is := [.iconst (-1)]) (pc' := 29) (ls' := [some (.inr (.inr (30, 0))), some (.inl x1), some (.inl x2), some (.inl x3), some (.inl x4), some (.inl x5), some (.inl x6), none]) (st' := [.inl (-1 : Int32)]) (m' := m15) (by decide +kernel) rfl ?_
      exact go_iret h.1 h.2.2.2.2 (by decide +kernel)
    · refine go_blk h.1 (is := [.iload_n 3]) (pc' := 22) (ls' := [some (.inr (.inr (30, 0))), some (.inl x1), some (.inl x2), some (.inl x3), some (.inl x4), some (.inl x5), some (.inl x6), none]) (st' := [.inl x3]) (m' := m15) (by decide +kernel) rfl ?_
      refine go_callS h.1 (index := 80) (n := 1) (as := [.inl x3]) (rest := []) (ctr_X7_isSheet (xl X) (xA X) (xC X) (xI X) (xk X) x3 m15) (by decide +kernel) wd_s_X7_80 rfl (h.room (by first | decide | omega) (by decide)) h.cl (Nat.le_of_ble_eq_true rfl) puI_ok rfl (fun r22 m22 _ => ?_)
      show Go X (Em X puI) 25 [some (.inr (.inr (30, 0))), some (.inl x1), some (.inl x2), some (.inl x3), some (.inl x4), some (.inl x5), some (.inl x6), none] [.inl r22] m22 _
      refine go_ifne h.1 (off := 5) 30 (by decide +kernel) (by decide) (fun c25 => ?_) (fun c25 => ?_)
      · refine go_blk h.1 (is := [.aload_n 0, .iload_n 3, .iload 4, .iload 5, .iload 6]) (pc' := 38) (ls' := [some (.inr (.inr (30, 0))), some (.inl x1), some (.inl x2), some (.inl x3), some (.inl x4), some (.inl x5), some (.inl x6), none]) (st' := [.inl x6, .inl x5, .inl x4, .inl x3, .inr (.inr (30, 0))]) (m' := m22) (by decide +kernel) rfl ?_
        refine go_callV h.1 (index := 187) (n := 4) (t := 30) (i := 0) (ci := 7) (nf := 35) (cz := (RX7, TX7, 35)) (as := [.inl x3, .inl x4, .inl x5, .inl x6]) (rest := []) (ctr_X7_goRow (xl X) (xA X) (xC X) (xI X) (xk X) x3 x4 x5 x6 m22) (by decide +kernel) rfl rfl wd_v_X7_187 rfl (h.room (by first | decide | omega) (by decide)) h.cl (Nat.le_of_ble_eq_true rfl) puI_ok rfl (fun r38 m38 _ => ?_)
        show Go X (Em X puI) 41 [some (.inr (.inr (30, 0))), some (.inl x1), some (.inl x2), some (.inl x3), some (.inl x4), some (.inl x5), some (.inl x6), none] [.inl r38] m38 _
        refine go_blk h.1 (is := [.istore 7, .iload 7]) (pc' := 45) (ls' := [some (.inr (.inr (30, 0))), some (.inl x1), some (.inl x2), some (.inl x3), some (.inl x4), some (.inl x5), some (.inl x6), some (.inl r38)]) (st' := [.inl r38]) (m' := m38) (by decide +kernel) rfl ?_
        refine go_ifne h.1 (off := 16) 61 (by decide +kernel) (by decide) (fun c45 => ?_) (fun c45 => ?_)
        · refine go_blk h.1 (is := [.iload 7]) (pc' := 63) (ls' := [some (.inr (.inr (30, 0))), some (.inl x1), some (.inl x2), some (.inl x3), some (.inl x4), some (.inl x5), some (.inl x6), some (.inl r38)]) (st' := [.inl r38]) (m' := m38) (by decide +kernel) rfl ?_
          exact go_iret h.1 h.2.2.2.2 (by decide +kernel)
        · refine go_blk h.1 (is := [.aload_n 0, .getfield 40, .iconst 5, .iload_n 1, .imul, .iload_n 2, .iadd]) (pc' := 57) (ls' := [some (.inr (.inr (30, 0))), some (.inl x1), some (.inl x2), some (.inl x3), some (.inl x4), some (.inl x5), some (.inl x6), some (.inl r38)]) (st' := [.inl (((5 : Int32) * x1) + x2), .inr (.inr (41, 0))]) (m' := m38) (by decide +kernel) rfl ?_
          refine go_iald h.1 (by decide +kernel) rfl rfl (fun b57 => ?_)
          show Go X (Em X puI) 58 [some (.inr (.inr (30, 0))), some (.inl x1), some (.inl x2), some (.inl x3), some (.inl x4), some (.inl x5), some (.inl x6), some (.inl r38)] [.inl (m38 41 0 (ix (((5 : Int32) * x1) + x2)))] m38 _
          refine go_goto h.1 (off := 5) 63 (by decide +kernel) (by decide) ?_
          exact go_iret h.1 h.2.2.2.2 (by decide +kernel)
      · refine go_blk h.1 (is := [.iconst (-1)]) (pc' := 29) (ls' := [some (.inr (.inr (30, 0))), some (.inl x1), some (.inl x2), some (.inl x3), some (.inl x4), some (.inl x5), some (.inl x6), none]) (st' := [.inl (-1 : Int32)]) (m' := m22) (by decide +kernel) rfl ?_
        exact go_iret h.1 h.2.2.2.2 (by decide +kernel)
theorem ctr_X7_owes (l : Launch) (A : AR → Nat) (dC : Nat → ClassId) (dI : Nat → Nat → Nat) (cs : Nat → ClassId) (x1 : Int32) (x2 : Int32) (x3 : Int32) (x4 : Int32) (x5 : Int32) (x6 : Int32) (m : Mem) : Ctr l A dC dI cs yX7_owes prog_9_method_34_code 8 (some .int) 6 puI [.inr (.inr (30, 0)), .inl x1, .inl x2, .inl x3, .inl x4, .inl x5, .inl x6] m (f_X7_owes x1 x2 x3 x4 x5 x6 m) :=
  ctr_of (P := P_X7) (by decide +kernel) rfl pt_X7 rfl rfl (fun X hC _ _ _ _ _ hR h0 h1 hr => g_X7_owes ⟨hC, hR, h0, h1, hr⟩ x1 x2 x3 x4 x5 x6 m)

def f_X7_toll (x1 : Int32) (x2 : Int32) (x3 : Int32) (x4 : Int32) (x5 : Int32) (m : Mem) : Option (Int32 × Mem) :=
  bnd (f_X7_isFish x1 (mset m 30 0 0 (0 : Int32))) (fun r7 m7 =>
    if r7 = 0 then
      some ((-1 : Int32), m7)
    else
      bnd (f_X7_isSheet x2 m7) (fun r14 m14 =>
        if r14 = 0 then
          some ((-1 : Int32), m14)
        else
          bnd (f_X7_goRow x2 x3 x4 x5 m14) (fun r29 m29 =>
            if r29 = 0 then
              bnd (f_X7_tollNow x1 m29) (fun r41 m41 =>
                some (r41, m41))
            else
              some (r29, m29))))
theorem g_X7_toll {X : XT} (h : MX X prog_9_method_35_code P_X7 6 (some .int)) (x1 : Int32) (x2 : Int32) (x3 : Int32) (x4 : Int32) (x5 : Int32) (m : Mem) : Go X (Em X puI) 0 [some (.inr (.inr (30, 0))), some (.inl x1), some (.inl x2), some (.inl x3), some (.inl x4), some (.inl x5), none] [] m (f_X7_toll x1 x2 x3 x4 x5 m) := by
  unfold f_X7_toll
  refine go_blk h.1 (is := [.aload_n 0, .iconst 0, .putfield 64, .aload_n 0, .iload_n 1]) (pc' := 7) (ls' := [some (.inr (.inr (30, 0))), some (.inl x1), some (.inl x2), some (.inl x3), some (.inl x4), some (.inl x5), none]) (st' := [.inl x1, .inr (.inr (30, 0))]) (m' := (mset m 30 0 0 (0 : Int32))) (by decide +kernel) rfl ?_
  refine go_callV h.1 (index := 128) (n := 1) (t := 30) (i := 0) (ci := 7) (nf := 35) (cz := (RX7, TX7, 35)) (as := [.inl x1]) (rest := []) (ctr_X7_isFish (xl X) (xA X) (xC X) (xI X) (xk X) x1 (mset m 30 0 0 (0 : Int32))) (by decide +kernel) rfl rfl wd_v_X7_128 rfl (h.room (by first | decide | omega) (by decide)) h.cl (Nat.le_of_ble_eq_true rfl) puI_ok rfl (fun r7 m7 _ => ?_)
  show Go X (Em X puI) 10 [some (.inr (.inr (30, 0))), some (.inl x1), some (.inl x2), some (.inl x3), some (.inl x4), some (.inl x5), none] [.inl r7] m7 _
  refine go_ifeq h.1 (off := 10) 20 (by decide +kernel) (by decide) (fun c10 => ?_) (fun c10 => ?_)
  · refine go_blk h.1 (is := [.iconst (-1)]) (pc' := 21) (ls' := [some (.inr (.inr (30, 0))), some (.inl x1), some (.inl x2), some (.inl x3), some (.inl x4), some (.inl x5), none]) (st' := [.inl (-1 : Int32)]) (m' := m7) (by decide +kernel) rfl ?_
    exact go_iret h.1 h.2.2.2.2 (by decide +kernel)
  · refine go_blk h.1 (is := [.iload_n 2]) (pc' := 14) (ls' := [some (.inr (.inr (30, 0))), some (.inl x1), some (.inl x2), some (.inl x3), some (.inl x4), some (.inl x5), none]) (st' := [.inl x2]) (m' := m7) (by decide +kernel) rfl ?_
    refine go_callS h.1 (index := 80) (n := 1) (as := [.inl x2]) (rest := []) (ctr_X7_isSheet (xl X) (xA X) (xC X) (xI X) (xk X) x2 m7) (by decide +kernel) wd_s_X7_80 rfl (h.room (by first | decide | omega) (by decide)) h.cl (Nat.le_of_ble_eq_true rfl) puI_ok rfl (fun r14 m14 _ => ?_)
    show Go X (Em X puI) 17 [some (.inr (.inr (30, 0))), some (.inl x1), some (.inl x2), some (.inl x3), some (.inl x4), some (.inl x5), none] [.inl r14] m14 _
    refine go_ifne h.1 (off := 5) 22 (by decide +kernel) (by decide) (fun c17 => ?_) (fun c17 => ?_)
    · refine go_blk h.1 (is := [.aload_n 0, .iload_n 2, .iload_n 3, .iload 4, .iload 5]) (pc' := 29) (ls' := [some (.inr (.inr (30, 0))), some (.inl x1), some (.inl x2), some (.inl x3), some (.inl x4), some (.inl x5), none]) (st' := [.inl x5, .inl x4, .inl x3, .inl x2, .inr (.inr (30, 0))]) (m' := m14) (by decide +kernel) rfl ?_
      refine go_callV h.1 (index := 187) (n := 4) (t := 30) (i := 0) (ci := 7) (nf := 35) (cz := (RX7, TX7, 35)) (as := [.inl x2, .inl x3, .inl x4, .inl x5]) (rest := []) (ctr_X7_goRow (xl X) (xA X) (xC X) (xI X) (xk X) x2 x3 x4 x5 m14) (by decide +kernel) rfl rfl wd_v_X7_187 rfl (h.room (by first | decide | omega) (by decide)) h.cl (Nat.le_of_ble_eq_true rfl) puI_ok rfl (fun r29 m29 _ => ?_)
      show Go X (Em X puI) 32 [some (.inr (.inr (30, 0))), some (.inl x1), some (.inl x2), some (.inl x3), some (.inl x4), some (.inl x5), none] [.inl r29] m29 _
      refine go_blk h.1 (is := [.istore 6, .iload 6]) (pc' := 36) (ls' := [some (.inr (.inr (30, 0))), some (.inl x1), some (.inl x2), some (.inl x3), some (.inl x4), some (.inl x5), some (.inl r29)]) (st' := [.inl r29]) (m' := m29) (by decide +kernel) rfl ?_
      refine go_ifne h.1 (off := 11) 47 (by decide +kernel) (by decide) (fun c36 => ?_) (fun c36 => ?_)
      · refine go_blk h.1 (is := [.iload 6]) (pc' := 49) (ls' := [some (.inr (.inr (30, 0))), some (.inl x1), some (.inl x2), some (.inl x3), some (.inl x4), some (.inl x5), some (.inl r29)]) (st' := [.inl r29]) (m' := m29) (by decide +kernel) rfl ?_
        exact go_iret h.1 h.2.2.2.2 (by decide +kernel)
      · refine go_blk h.1 (is := [.aload_n 0, .iload_n 1]) (pc' := 41) (ls' := [some (.inr (.inr (30, 0))), some (.inl x1), some (.inl x2), some (.inl x3), some (.inl x4), some (.inl x5), some (.inl r29)]) (st' := [.inl x1, .inr (.inr (30, 0))]) (m' := m29) (by decide +kernel) rfl ?_
        refine go_callV h.1 (index := 146) (n := 1) (t := 30) (i := 0) (ci := 7) (nf := 35) (cz := (RX7, TX7, 35)) (as := [.inl x1]) (rest := []) (ctr_X7_tollNow (xl X) (xA X) (xC X) (xI X) (xk X) x1 m29) (by decide +kernel) rfl rfl wd_v_X7_146 rfl (h.room (by first | decide | omega) (by decide)) h.cl (Nat.le_of_ble_eq_true rfl) puI_ok rfl (fun r41 m41 _ => ?_)
        show Go X (Em X puI) 44 [some (.inr (.inr (30, 0))), some (.inl x1), some (.inl x2), some (.inl x3), some (.inl x4), some (.inl x5), some (.inl r29)] [.inl r41] m41 _
        refine go_goto h.1 (off := 5) 49 (by decide +kernel) (by decide) ?_
        exact go_iret h.1 h.2.2.2.2 (by decide +kernel)
    · refine go_blk h.1 (is := [.iconst (-1)]) (pc' := 21) (ls' := [some (.inr (.inr (30, 0))), some (.inl x1), some (.inl x2), some (.inl x3), some (.inl x4), some (.inl x5), none]) (st' := [.inl (-1 : Int32)]) (m' := m14) (by decide +kernel) rfl ?_
      exact go_iret h.1 h.2.2.2.2 (by decide +kernel)
theorem ctr_X7_toll (l : Launch) (A : AR → Nat) (dC : Nat → ClassId) (dI : Nat → Nat → Nat) (cs : Nat → ClassId) (x1 : Int32) (x2 : Int32) (x3 : Int32) (x4 : Int32) (x5 : Int32) (m : Mem) : Ctr l A dC dI cs yX7_toll prog_9_method_35_code 7 (some .int) 6 puI [.inr (.inr (30, 0)), .inl x1, .inl x2, .inl x3, .inl x4, .inl x5] m (f_X7_toll x1 x2 x3 x4 x5 m) :=
  ctr_of (P := P_X7) (by decide +kernel) rfl pt_X7 rfl rfl (fun X hC _ _ _ _ _ hR h0 h1 hr => g_X7_toll ⟨hC, hR, h0, h1, hr⟩ x1 x2 x3 x4 x5 m)

def f_X7_goWays_b12 (x2 : Int32) (next : Int32 × Int32 × Int32 × Mem → Option (Int32 × Mem)) (exit : Int32 × Mem → Option (Int32 × Mem)) (s : Int32 × Int32 × Int32 × Mem) : Option (Int32 × Mem) :=
  if (s.2.2.2 30 0 7) ≤ s.2.2.1 then
    exit (s.2.1, s.2.2.2)
  else
    if ((x2 >>> ((s.1 &&& (3 : Int32)) &&& 31)) &&& (1 : Int32)) = 0 then
      some ((-9 : Int32), s.2.2.2)
    else
      if inB s.2.2.1 5 = true then
        bnd (f_X7_pass (s.2.2.2 44 0 (ix s.2.2.1)) (s.1 &&& (3 : Int32)) s.2.2.2) (fun r49 m49 =>
          if r49 = 0 then
            some ((-9 : Int32), m49)
          else
            if inB s.2.2.1 5 = true then
              next ((s.1 >>> ((2 : Int32) &&& 31)), ((((50 : Int32) * s.2.1) + ((10 : Int32) * (m49 44 0 (ix s.2.2.1)))) + (s.1 &&& (3 : Int32))), (s.2.2.1 + (1 : Int32)), m49)
            else none)
      else none
theorem g_X7_goWays_b12 {X : XT} (h : MX X prog_9_method_38_code P_X7 4 (some .int)) (x2 : Int32) (next : Int32 × Int32 × Int32 × Mem → Option (Int32 × Mem)) (exit : Int32 × Mem → Option (Int32 × Mem)) (hn : ∀ (y3 : Int32) (y4 : Int32) (y5 : Int32) (n : Mem) (o1 : Option AV) (o6 : Option AV), Go X (Em X puI) 12 [some (.inr (.inr (30, 0))), o1, some (.inl x2), some (.inl y3), some (.inl y4), some (.inl y5), o6] [] n (next (y3, y4, y5, n))) (hx : ∀ (y4 : Int32) (n : Mem) (o0 : Option AV) (o1 : Option AV) (o2 : Option AV) (o3 : Option AV) (o5 : Option AV) (o6 : Option AV), Go X (Em X puI) 85 [o0, o1, o2, o3, some (.inl y4), o5, o6] [] n (exit (y4, n))) (s : Int32 × Int32 × Int32 × Mem) (o1 : Option AV) (o6 : Option AV) : Go X (Em X puI) 12 [some (.inr (.inr (30, 0))), o1, some (.inl x2), some (.inl s.1), some (.inl s.2.1), some (.inl s.2.2.1), o6] [] s.2.2.2 (f_X7_goWays_b12 x2 next exit s) := by
  unfold f_X7_goWays_b12
  refine go_blk h.1 (is := [.iload 5, .aload_n 0, .getfield 74]) (pc' := 18) (ls' := [some (.inr (.inr (30, 0))), o1, some (.inl x2), some (.inl s.1), some (.inl s.2.1), some (.inl s.2.2.1), o6]) (st' := [.inl (s.2.2.2 30 0 7), .inl s.2.2.1]) (m' := s.2.2.2) (by decide +kernel) rfl ?_
  refine go_icmpge h.1 (off := 67) 85 (by decide +kernel) (by decide) (fun c18 => ?_) (fun c18 => ?_)
  · exact hx s.2.1 s.2.2.2 (some (.inr (.inr (30, 0)))) (o1) (some (.inl x2)) (some (.inl s.1)) (some (.inl s.2.2.1)) (o6)
  · refine go_blk h.1 (is := [.iload_n 3, .iconst 3, .iand, .istore 6, .iload_n 3, .iconst 2, .ishr, .istore_n 3, .iload_n 2, .iload 6, .ishr, .iconst 1, .iand]) (pc' := 36) (ls' := [some (.inr (.inr (30, 0))), o1, some (.inl x2), some (.inl (s.1 >>> ((2 : Int32) &&& 31))), some (.inl s.2.1), some (.inl s.2.2.1), some (.inl (s.1 &&& (3 : Int32)))]) (st' := [.inl ((x2 >>> ((s.1 &&& (3 : Int32)) &&& 31)) &&& (1 : Int32))]) (m' := s.2.2.2) (by decide +kernel) rfl ?_
    refine go_ifeq h.1 (off := 19) 55 (by decide +kernel) (by decide) (fun c36 => ?_) (fun c36 => ?_)
    · refine go_blk h.1 (is := [.bipush (-9)]) (pc' := 57) (ls' := [some (.inr (.inr (30, 0))), o1, some (.inl x2), some (.inl (s.1 >>> ((2 : Int32) &&& 31))), some (.inl s.2.1), some (.inl s.2.2.1), some (.inl (s.1 &&& (3 : Int32)))]) (st' := [.inl (-9 : Int32)]) (m' := s.2.2.2) (by decide +kernel) rfl ?_
      exact go_iret h.1 h.2.2.2.2 (by decide +kernel)
    · refine go_blk h.1 (is := [.aload_n 0, .aload_n 0, .getfield 49, .iload 5]) (pc' := 46) (ls' := [some (.inr (.inr (30, 0))), o1, some (.inl x2), some (.inl (s.1 >>> ((2 : Int32) &&& 31))), some (.inl s.2.1), some (.inl s.2.2.1), some (.inl (s.1 &&& (3 : Int32)))]) (st' := [.inl s.2.2.1, .inr (.inr (44, 0)), .inr (.inr (30, 0))]) (m' := s.2.2.2) (by decide +kernel) rfl ?_
      refine go_iald h.1 (by decide +kernel) rfl rfl (fun b46 => ?_)
      show Go X (Em X puI) 47 [some (.inr (.inr (30, 0))), o1, some (.inl x2), some (.inl (s.1 >>> ((2 : Int32) &&& 31))), some (.inl s.2.1), some (.inl s.2.2.1), some (.inl (s.1 &&& (3 : Int32)))] [.inl (s.2.2.2 44 0 (ix s.2.2.1)), .inr (.inr (30, 0))] s.2.2.2 _
      refine go_blk h.1 (is := [.iload 6]) (pc' := 49) (ls' := [some (.inr (.inr (30, 0))), o1, some (.inl x2), some (.inl (s.1 >>> ((2 : Int32) &&& 31))), some (.inl s.2.1), some (.inl s.2.2.1), some (.inl (s.1 &&& (3 : Int32)))]) (st' := [.inl (s.1 &&& (3 : Int32)), .inl (s.2.2.2 44 0 (ix s.2.2.1)), .inr (.inr (30, 0))]) (m' := s.2.2.2) (by decide +kernel) rfl ?_
      refine go_callV h.1 (index := 171) (n := 2) (t := 30) (i := 0) (ci := 7) (nf := 35) (cz := (RX7, TX7, 35)) (as := [.inl (s.2.2.2 44 0 (ix s.2.2.1)), .inl (s.1 &&& (3 : Int32))]) (rest := []) (ctr_X7_pass (xl X) (xA X) (xC X) (xI X) (xk X) (s.2.2.2 44 0 (ix s.2.2.1)) (s.1 &&& (3 : Int32)) s.2.2.2) (by decide +kernel) rfl rfl wd_v_X7_171 rfl (h.room (by first | decide | omega) (by decide)) h.cl (Nat.le_of_ble_eq_true rfl) puI_ok rfl (fun r49 m49 _ => ?_)
      show Go X (Em X puI) 52 [some (.inr (.inr (30, 0))), o1, some (.inl x2), some (.inl (s.1 >>> ((2 : Int32) &&& 31))), some (.inl s.2.1), some (.inl s.2.2.1), some (.inl (s.1 &&& (3 : Int32)))] [.inl r49] m49 _
      refine go_ifne h.1 (off := 6) 58 (by decide +kernel) (by decide) (fun c52 => ?_) (fun c52 => ?_)
      · refine go_blk h.1 (is := [.bipush 50, .iload 4, .imul, .bipush 10, .aload_n 0, .getfield 49, .iload 5]) (pc' := 71) (ls' := [some (.inr (.inr (30, 0))), o1, some (.inl x2), some (.inl (s.1 >>> ((2 : Int32) &&& 31))), some (.inl s.2.1), some (.inl s.2.2.1), some (.inl (s.1 &&& (3 : Int32)))]) (st' := [.inl s.2.2.1, .inr (.inr (44, 0)), .inl (10 : Int32), .inl ((50 : Int32) * s.2.1)]) (m' := m49) (by decide +kernel) rfl ?_
        refine go_iald h.1 (by decide +kernel) rfl rfl (fun b71 => ?_)
        show Go X (Em X puI) 72 [some (.inr (.inr (30, 0))), o1, some (.inl x2), some (.inl (s.1 >>> ((2 : Int32) &&& 31))), some (.inl s.2.1), some (.inl s.2.2.1), some (.inl (s.1 &&& (3 : Int32)))] [.inl (m49 44 0 (ix s.2.2.1)), .inl (10 : Int32), .inl ((50 : Int32) * s.2.1)] m49 _
        refine go_blk h.1 (is := [.imul, .iadd, .iload 6, .iadd, .istore 4, .iinc 5 1]) (pc' := 82) (ls' := [some (.inr (.inr (30, 0))), o1, some (.inl x2), some (.inl (s.1 >>> ((2 : Int32) &&& 31))), some (.inl ((((50 : Int32) * s.2.1) + ((10 : Int32) * (m49 44 0 (ix s.2.2.1)))) + (s.1 &&& (3 : Int32)))), some (.inl (s.2.2.1 + (1 : Int32))), some (.inl (s.1 &&& (3 : Int32)))]) (st' := []) (m' := m49) (by decide +kernel) rfl ?_
        refine go_goto h.1 (off := -70) 12 (by decide +kernel) (by decide) ?_
        exact hn (s.1 >>> ((2 : Int32) &&& 31)) ((((50 : Int32) * s.2.1) + ((10 : Int32) * (m49 44 0 (ix s.2.2.1)))) + (s.1 &&& (3 : Int32))) (s.2.2.1 + (1 : Int32)) m49 (o1) (some (.inl (s.1 &&& (3 : Int32))))
      · refine go_blk h.1 (is := [.bipush (-9)]) (pc' := 57) (ls' := [some (.inr (.inr (30, 0))), o1, some (.inl x2), some (.inl (s.1 >>> ((2 : Int32) &&& 31))), some (.inl s.2.1), some (.inl s.2.2.1), some (.inl (s.1 &&& (3 : Int32)))]) (st' := [.inl (-9 : Int32)]) (m' := m49) (by decide +kernel) rfl ?_
        exact go_iret h.1 h.2.2.2.2 (by decide +kernel)

def f_X7_goWays (x1 : Int32) (x2 : Int32) (m : Mem) : Option (Int32 × Mem) :=
  bnd (f_X7_begin m) (fun _ m1 =>
    lpk (f_X7_goWays_b12 x2) fuelN (x1, (0 : Int32), (0 : Int32), m1) (fun t12 =>
      some (t12.1, t12.2)))
theorem g_X7_goWays {X : XT} (h : MX X prog_9_method_38_code P_X7 4 (some .int)) (x1 : Int32) (x2 : Int32) (m : Mem) : Go X (Em X puI) 0 [some (.inr (.inr (30, 0))), some (.inl x1), some (.inl x2), none, none, none, none] [] m (f_X7_goWays x1 x2 m) := by
  unfold f_X7_goWays
  refine go_blk h.1 (is := [.aload_n 0]) (pc' := 1) (ls' := [some (.inr (.inr (30, 0))), some (.inl x1), some (.inl x2), none, none, none, none]) (st' := [.inr (.inr (30, 0))]) (m' := m) (by decide +kernel) rfl ?_
  refine go_callV h.1 (index := 168) (n := 0) (t := 30) (i := 0) (ci := 7) (nf := 35) (cz := (RX7, TX7, 35)) (as := []) (rest := []) (ctr_X7_begin (xl X) (xA X) (xC X) (xI X) (xk X) m) (by decide +kernel) rfl rfl wd_v_X7_168 rfl (h.room (by first | decide | omega) (by decide)) h.cl (Nat.le_of_ble_eq_true rfl) puV_ok rfl (fun r1 m1 _ => ?_)
  show Go X (Em X puI) 4 [some (.inr (.inr (30, 0))), some (.inl x1), some (.inl x2), none, none, none, none] [] m1 _
  refine go_blk h.1 (is := [.iload_n 1, .istore_n 3, .iconst 0, .istore 4, .iconst 0, .istore 5]) (pc' := 12) (ls' := [some (.inr (.inr (30, 0))), some (.inl x1), some (.inl x2), some (.inl x1), some (.inl (0 : Int32)), some (.inl (0 : Int32)), none]) (st' := []) (m' := m1) (by decide +kernel) rfl ?_
  refine go_lp3 (hd := fun (y3 : Int32) (y4 : Int32) (y5 : Int32) (n : Mem) o => ∀ (o1 : Option AV) (o6 : Option AV), Go X (Em X puI) 12 [some (.inr (.inr (30, 0))), o1, some (.inl x2), some (.inl y3), some (.inl y4), some (.inl y5), o6] [] n o) (fun _ _ _ _ _ _ => go_none) (fun y3 y4 y5 n nx_ hn_ => g_X7_goWays_b12 h x2 nx_ _ hn_ (fun z4_12 z_12 o0_12 o1_12 o2_12 o3_12 o5_12 o6_12 => ?_) (y3, y4, y5, n)) fuelN x1 (0 : Int32) (0 : Int32) m1 (some (.inl x1)) (none)
  refine go_blk h.1 (is := [.iload 4]) (pc' := 87) (ls' := [o0_12, o1_12, o2_12, o3_12, some (.inl z4_12), o5_12, o6_12]) (st' := [.inl z4_12]) (m' := z_12) (by decide +kernel) rfl ?_
  exact go_iret h.1 h.2.2.2.2 (by decide +kernel)
theorem ctr_X7_goWays (l : Launch) (A : AR → Nat) (dC : Nat → ClassId) (dI : Nat → Nat → Nat) (cs : Nat → ClassId) (x1 : Int32) (x2 : Int32) (m : Mem) : Ctr l A dC dI cs yX7_goWays prog_9_method_38_code 7 (some .int) 4 puI [.inr (.inr (30, 0)), .inl x1, .inl x2] m (f_X7_goWays x1 x2 m) :=
  ctr_of (P := P_X7) (by decide +kernel) rfl pt_X7 rfl rfl (fun X hC _ _ _ _ _ hR h0 h1 hr => g_X7_goWays ⟨hC, hR, h0, h1, hr⟩ x1 x2 m)

def f_X7_swap (x1 : Int32) (x2 : Int32) (m : Mem) : Option (Unit × Mem) :=
  if inB x1 5 = true then
    if inB x2 5 = true then
      if inB x1 5 = true then
        if inB x2 5 = true then
          some ((), (mset (mset m 44 0 (ix x1) (m 44 0 (ix x2))) 44 0 (ix x2) (m 44 0 (ix x1))))
        else none
      else none
    else none
  else none
theorem g_X7_swap {X : XT} (h : MX X prog_9_method_36_code P_X7 0 none) (x1 : Int32) (x2 : Int32) (m : Mem) : Go X (Em X puV) 0 [some (.inr (.inr (30, 0))), some (.inl x1), some (.inl x2), none] [] m (f_X7_swap x1 x2 m) := by
  unfold f_X7_swap
  refine go_blk h.1 (is := [.aload_n 0, .getfield 49, .iload_n 1]) (pc' := 5) (ls' := [some (.inr (.inr (30, 0))), some (.inl x1), some (.inl x2), none]) (st' := [.inl x1, .inr (.inr (44, 0))]) (m' := m) (by decide +kernel) rfl ?_
  refine go_iald h.1 (by decide +kernel) rfl rfl (fun b5 => ?_)
  show Go X (Em X puV) 6 [some (.inr (.inr (30, 0))), some (.inl x1), some (.inl x2), none] [.inl (m 44 0 (ix x1))] m _
  refine go_blk h.1 (is := [.istore_n 3, .aload_n 0, .getfield 49, .iload_n 1, .aload_n 0, .getfield 49, .iload_n 2]) (pc' := 17) (ls' := [some (.inr (.inr (30, 0))), some (.inl x1), some (.inl x2), some (.inl (m 44 0 (ix x1)))]) (st' := [.inl x2, .inr (.inr (44, 0)), .inl x1, .inr (.inr (44, 0))]) (m' := m) (by decide +kernel) rfl ?_
  refine go_iald h.1 (by decide +kernel) rfl rfl (fun b17 => ?_)
  show Go X (Em X puV) 18 [some (.inr (.inr (30, 0))), some (.inl x1), some (.inl x2), some (.inl (m 44 0 (ix x1)))] [.inl (m 44 0 (ix x2)), .inl x1, .inr (.inr (44, 0))] m _
  refine go_iast h.1 (by decide +kernel) rfl rfl (fun b18 => ?_)
  refine go_blk h.1 (is := [.aload_n 0, .getfield 49, .iload_n 2, .iload_n 3]) (pc' := 25) (ls' := [some (.inr (.inr (30, 0))), some (.inl x1), some (.inl x2), some (.inl (m 44 0 (ix x1)))]) (st' := [.inl (m 44 0 (ix x1)), .inl x2, .inr (.inr (44, 0))]) (m' := (mset m 44 0 (ix x1) (m 44 0 (ix x2)))) (by decide +kernel) rfl ?_
  refine go_iast h.1 (by decide +kernel) rfl rfl (fun b25 => ?_)
  exact go_vret h.1 h.2.2.2.2 (by decide +kernel)
theorem ctr_X7_swap (l : Launch) (A : AR → Nat) (dC : Nat → ClassId) (dI : Nat → Nat → Nat) (cs : Nat → ClassId) (x1 : Int32) (x2 : Int32) (m : Mem) : Ctr l A dC dI cs yX7_swap prog_9_method_36_code 4 none 0 puV [.inr (.inr (30, 0)), .inl x1, .inl x2] m (f_X7_swap x1 x2 m) :=
  ctr_of (P := P_X7) (by decide +kernel) rfl pt_X7 rfl rfl (fun X hC _ _ _ _ _ hR h0 h1 hr => g_X7_swap ⟨hC, hR, h0, h1, hr⟩ x1 x2 m)

def f_X7_nextOrder_b7 (next : Int32 × Mem → Option (Int32 × Mem)) (exit : Int32 × Mem → Option (Int32 × Mem)) (s : Int32 × Mem) : Option (Int32 × Mem) :=
  if s.1 < 0 then
    exit (s.1, s.2)
  else
    if inB s.1 5 = true then
      if inB (s.1 + (1 : Int32)) 5 = true then
        if (s.2 44 0 (ix s.1)) ≤ (s.2 44 0 (ix (s.1 + (1 : Int32)))) then
          exit (s.1, s.2)
        else
          next ((s.1 + (-1 : Int32)), s.2)
      else none
    else none
theorem g_X7_nextOrder_b7 {X : XT} (h : MX X prog_9_method_37_code P_X7 1 (some .boolean)) (next : Int32 × Mem → Option (Int32 × Mem)) (exit : Int32 × Mem → Option (Int32 × Mem)) (hn : ∀ (y1 : Int32) (n : Mem) (o2 : Option AV) (o3 : Option AV) (o4 : Option AV), Go X (Em X puI) 7 [some (.inr (.inr (30, 0))), some (.inl y1), o2, o3, o4] [] n (next (y1, n))) (hx : ∀ (y1 : Int32) (n : Mem) (o2 : Option AV) (o3 : Option AV) (o4 : Option AV), Go X (Em X puI) 34 [some (.inr (.inr (30, 0))), some (.inl y1), o2, o3, o4] [] n (exit (y1, n))) (s : Int32 × Mem) (o2 : Option AV) (o3 : Option AV) (o4 : Option AV) : Go X (Em X puI) 7 [some (.inr (.inr (30, 0))), some (.inl s.1), o2, o3, o4] [] s.2 (f_X7_nextOrder_b7 next exit s) := by
  unfold f_X7_nextOrder_b7
  refine go_blk h.1 (is := [.iload_n 1]) (pc' := 8) (ls' := [some (.inr (.inr (30, 0))), some (.inl s.1), o2, o3, o4]) (st' := [.inl s.1]) (m' := s.2) (by decide +kernel) rfl ?_
  refine go_iflt h.1 (off := 26) 34 (by decide +kernel) (by decide) (fun c8 => ?_) (fun c8 => ?_)
  · exact hx s.1 s.2 (o2) (o3) (o4)
  · refine go_blk h.1 (is := [.aload_n 0, .getfield 49, .iload_n 1]) (pc' := 16) (ls' := [some (.inr (.inr (30, 0))), some (.inl s.1), o2, o3, o4]) (st' := [.inl s.1, .inr (.inr (44, 0))]) (m' := s.2) (by decide +kernel) rfl ?_
    refine go_iald h.1 (by decide +kernel) rfl rfl (fun b16 => ?_)
    show Go X (Em X puI) 17 [some (.inr (.inr (30, 0))), some (.inl s.1), o2, o3, o4] [.inl (s.2 44 0 (ix s.1))] s.2 _
    refine go_blk h.1 (is := [.aload_n 0, .getfield 49, .iload_n 1, .iconst 1, .iadd]) (pc' := 24) (ls' := [some (.inr (.inr (30, 0))), some (.inl s.1), o2, o3, o4]) (st' := [.inl (s.1 + (1 : Int32)), .inr (.inr (44, 0)), .inl (s.2 44 0 (ix s.1))]) (m' := s.2) (by decide +kernel) rfl ?_
    refine go_iald h.1 (by decide +kernel) rfl rfl (fun b24 => ?_)
    show Go X (Em X puI) 25 [some (.inr (.inr (30, 0))), some (.inl s.1), o2, o3, o4] [.inl (s.2 44 0 (ix (s.1 + (1 : Int32)))), .inl (s.2 44 0 (ix s.1))] s.2 _
    refine go_icmple h.1 (off := 9) 34 (by decide +kernel) (by decide) (fun c25 => ?_) (fun c25 => ?_)
    · exact hx s.1 s.2 (o2) (o3) (o4)
    · refine go_blk h.1 (is := [.iinc 1 (-1)]) (pc' := 31) (ls' := [some (.inr (.inr (30, 0))), some (.inl (s.1 + (-1 : Int32))), o2, o3, o4]) (st' := []) (m' := s.2) (by decide +kernel) rfl ?_
      refine go_goto h.1 (off := -24) 7 (by decide +kernel) (by decide) ?_
      exact hn (s.1 + (-1 : Int32)) s.2 (o2) (o3) (o4)

def f_X7_nextOrder_b47 (x1 : Int32) (next : Int32 × Mem → Option (Int32 × Mem)) (exit : Int32 × Mem → Option (Int32 × Mem)) (s : Int32 × Mem) : Option (Int32 × Mem) :=
  if inB s.1 5 = true then
    if inB x1 5 = true then
      if (s.2 44 0 (ix x1)) ≤ (s.2 44 0 (ix s.1)) then
        exit (s.1, s.2)
      else
        next ((s.1 + (-1 : Int32)), s.2)
    else none
  else none
theorem g_X7_nextOrder_b47 {X : XT} (h : MX X prog_9_method_37_code P_X7 1 (some .boolean)) (x1 : Int32) (next : Int32 × Mem → Option (Int32 × Mem)) (exit : Int32 × Mem → Option (Int32 × Mem)) (hn : ∀ (y2 : Int32) (n : Mem) (o3 : Option AV) (o4 : Option AV), Go X (Em X puI) 47 [some (.inr (.inr (30, 0))), some (.inl x1), some (.inl y2), o3, o4] [] n (next (y2, n))) (hx : ∀ (y2 : Int32) (n : Mem) (o3 : Option AV) (o4 : Option AV), Go X (Em X puI) 68 [some (.inr (.inr (30, 0))), some (.inl x1), some (.inl y2), o3, o4] [] n (exit (y2, n))) (s : Int32 × Mem) (o3 : Option AV) (o4 : Option AV) : Go X (Em X puI) 47 [some (.inr (.inr (30, 0))), some (.inl x1), some (.inl s.1), o3, o4] [] s.2 (f_X7_nextOrder_b47 x1 next exit s) := by
  unfold f_X7_nextOrder_b47
  refine go_blk h.1 (is := [.aload_n 0, .getfield 49, .iload_n 2]) (pc' := 52) (ls' := [some (.inr (.inr (30, 0))), some (.inl x1), some (.inl s.1), o3, o4]) (st' := [.inl s.1, .inr (.inr (44, 0))]) (m' := s.2) (by decide +kernel) rfl ?_
  refine go_iald h.1 (by decide +kernel) rfl rfl (fun b52 => ?_)
  show Go X (Em X puI) 53 [some (.inr (.inr (30, 0))), some (.inl x1), some (.inl s.1), o3, o4] [.inl (s.2 44 0 (ix s.1))] s.2 _
  refine go_blk h.1 (is := [.aload_n 0, .getfield 49, .iload_n 1]) (pc' := 58) (ls' := [some (.inr (.inr (30, 0))), some (.inl x1), some (.inl s.1), o3, o4]) (st' := [.inl x1, .inr (.inr (44, 0)), .inl (s.2 44 0 (ix s.1))]) (m' := s.2) (by decide +kernel) rfl ?_
  refine go_iald h.1 (by decide +kernel) rfl rfl (fun b58 => ?_)
  show Go X (Em X puI) 59 [some (.inr (.inr (30, 0))), some (.inl x1), some (.inl s.1), o3, o4] [.inl (s.2 44 0 (ix x1)), .inl (s.2 44 0 (ix s.1))] s.2 _
  refine go_icmpge h.1 (off := 9) 68 (by decide +kernel) (by decide) (fun c59 => ?_) (fun c59 => ?_)
  · exact hx s.1 s.2 (o3) (o4)
  · refine go_blk h.1 (is := [.iinc 2 (-1)]) (pc' := 65) (ls' := [some (.inr (.inr (30, 0))), some (.inl x1), some (.inl (s.1 + (-1 : Int32))), o3, o4]) (st' := []) (m' := s.2) (by decide +kernel) rfl ?_
    refine go_goto h.1 (off := -18) 47 (by decide +kernel) (by decide) ?_
    exact hn (s.1 + (-1 : Int32)) s.2 (o3) (o4)

def f_X7_nextOrder_b86 (next : Int32 × Int32 × Mem → Option (Int32 × Mem)) (exit : Mem → Option (Int32 × Mem)) (s : Int32 × Int32 × Mem) : Option (Int32 × Mem) :=
  if s.2.1 ≤ s.1 then
    exit (s.2.2)
  else
    bnd (f_X7_swap s.1 s.2.1 s.2.2) (fun _ m96 =>
      next ((s.1 + (1 : Int32)), (s.2.1 + (-1 : Int32)), m96))
theorem g_X7_nextOrder_b86 {X : XT} (h : MX X prog_9_method_37_code P_X7 1 (some .boolean)) (next : Int32 × Int32 × Mem → Option (Int32 × Mem)) (exit : Mem → Option (Int32 × Mem)) (hn : ∀ (y3 : Int32) (y4 : Int32) (n : Mem) (o1 : Option AV) (o2 : Option AV), Go X (Em X puI) 86 [some (.inr (.inr (30, 0))), o1, o2, some (.inl y3), some (.inl y4)] [] n (next (y3, y4, n))) (hx : ∀ (n : Mem) (o0 : Option AV) (o1 : Option AV) (o2 : Option AV) (o3 : Option AV) (o4 : Option AV), Go X (Em X puI) 108 [o0, o1, o2, o3, o4] [] n (exit (n))) (s : Int32 × Int32 × Mem) (o1 : Option AV) (o2 : Option AV) : Go X (Em X puI) 86 [some (.inr (.inr (30, 0))), o1, o2, some (.inl s.1), some (.inl s.2.1)] [] s.2.2 (f_X7_nextOrder_b86 next exit s) := by
  unfold f_X7_nextOrder_b86
  refine go_blk h.1 (is := [.iload_n 3, .iload 4]) (pc' := 89) (ls' := [some (.inr (.inr (30, 0))), o1, o2, some (.inl s.1), some (.inl s.2.1)]) (st' := [.inl s.2.1, .inl s.1]) (m' := s.2.2) (by decide +kernel) rfl ?_
  refine go_icmpge h.1 (off := 19) 108 (by decide +kernel) (by decide) (fun c89 => ?_) (fun c89 => ?_)
  · exact hx s.2.2 (some (.inr (.inr (30, 0)))) (o1) (o2) (some (.inl s.1)) (some (.inl s.2.1))
  · refine go_blk h.1 (is := [.aload_n 0, .iload_n 3, .iload 4]) (pc' := 96) (ls' := [some (.inr (.inr (30, 0))), o1, o2, some (.inl s.1), some (.inl s.2.1)]) (st' := [.inl s.2.1, .inl s.1, .inr (.inr (30, 0))]) (m' := s.2.2) (by decide +kernel) rfl ?_
    refine go_callV h.1 (index := 190) (n := 2) (t := 30) (i := 0) (ci := 7) (nf := 35) (cz := (RX7, TX7, 35)) (as := [.inl s.1, .inl s.2.1]) (rest := []) (ctr_X7_swap (xl X) (xA X) (xC X) (xI X) (xk X) s.1 s.2.1 s.2.2) (by decide +kernel) rfl rfl wd_v_X7_190 rfl (h.room (by first | decide | omega) (by decide)) h.cl (Nat.le_of_ble_eq_true rfl) puV_ok rfl (fun r96 m96 _ => ?_)
    show Go X (Em X puI) 99 [some (.inr (.inr (30, 0))), o1, o2, some (.inl s.1), some (.inl s.2.1)] [] m96 _
    refine go_blk h.1 (is := [.iinc 3 1, .iinc 4 (-1)]) (pc' := 105) (ls' := [some (.inr (.inr (30, 0))), o1, (clrL o2), some (.inl (s.1 + (1 : Int32))), some (.inl (s.2.1 + (-1 : Int32)))]) (st' := []) (m' := m96) (by decide +kernel) rfl ?_
    refine go_goto h.1 (off := -19) 86 (by decide +kernel) (by decide) ?_
    exact hn (s.1 + (1 : Int32)) (s.2.1 + (-1 : Int32)) m96 (o1) ((clrL o2))

def f_X7_nextOrder (m : Mem) : Option (Int32 × Mem) :=
  lpk (f_X7_nextOrder_b7) fuelN (((m 30 0 7) - (2 : Int32)), m) (fun t7 =>
    if 0 ≤ t7.1 then
      lpk (f_X7_nextOrder_b47 t7.1) fuelN (((t7.2 30 0 7) - (1 : Int32)), t7.2) (fun t47 =>
        bnd (f_X7_swap t7.1 t47.1 t47.2) (fun _ m71 =>
          lpk (f_X7_nextOrder_b86) fuelN ((t7.1 + (1 : Int32)), ((m71 30 0 7) - (1 : Int32)), m71) (fun t86 =>
            some ((1 : Int32), t86))))
    else
      some ((0 : Int32), t7.2))
theorem g_X7_nextOrder {X : XT} (h : MX X prog_9_method_37_code P_X7 1 (some .boolean)) (m : Mem) : Go X (Em X puI) 0 [some (.inr (.inr (30, 0))), none, none, none, none] [] m (f_X7_nextOrder m) := by
  unfold f_X7_nextOrder
  refine go_blk h.1 (is := [.aload_n 0, .getfield 74, .iconst 2, .isub, .istore_n 1]) (pc' := 7) (ls' := [some (.inr (.inr (30, 0))), some (.inl ((m 30 0 7) - (2 : Int32))), none, none, none]) (st' := []) (m' := m) (by decide +kernel) rfl ?_
  refine go_lp1 (hd := fun (y1 : Int32) (n : Mem) o => ∀ (o2 : Option AV) (o3 : Option AV) (o4 : Option AV), Go X (Em X puI) 7 [some (.inr (.inr (30, 0))), some (.inl y1), o2, o3, o4] [] n o) (fun _ _ _ _ _ => go_none) (fun y1 n nx_ hn_ => g_X7_nextOrder_b7 h nx_ _ hn_ (fun z1_7 z_7 o2_7 o3_7 o4_7 => ?_) (y1, n)) fuelN ((m 30 0 7) - (2 : Int32)) m (none) (none) (none)
  refine go_blk h.1 (is := [.iload_n 1]) (pc' := 35) (ls' := [some (.inr (.inr (30, 0))), some (.inl z1_7), o2_7, o3_7, o4_7]) (st' := [.inl z1_7]) (m' := z_7) (by decide +kernel) rfl ?_
  refine go_ifge h.1 (off := 5) 40 (by decide +kernel) (by decide) (fun c35 => ?_) (fun c35 => ?_)
  · refine go_blk h.1 (is := [.aload_n 0, .getfield 74, .iconst 1, .isub, .istore_n 2]) (pc' := 47) (ls' := [some (.inr (.inr (30, 0))), some (.inl z1_7), some (.inl ((z_7 30 0 7) - (1 : Int32))), o3_7, o4_7]) (st' := []) (m' := z_7) (by decide +kernel) rfl ?_
    refine go_lp1 (hd := fun (y2 : Int32) (n : Mem) o => ∀ (o3 : Option AV) (o4 : Option AV), Go X (Em X puI) 47 [some (.inr (.inr (30, 0))), some (.inl z1_7), some (.inl y2), o3, o4] [] n o) (fun _ _ _ _ => go_none) (fun y2 n nx_ hn_ => g_X7_nextOrder_b47 h z1_7 nx_ _ hn_ (fun z2_47 z_47 o3_47 o4_47 => ?_) (y2, n)) fuelN ((z_7 30 0 7) - (1 : Int32)) z_7 (o3_7) (o4_7)
    refine go_blk h.1 (is := [.aload_n 0, .iload_n 1, .iload_n 2]) (pc' := 71) (ls' := [some (.inr (.inr (30, 0))), some (.inl z1_7), some (.inl z2_47), o3_47, o4_47]) (st' := [.inl z2_47, .inl z1_7, .inr (.inr (30, 0))]) (m' := z_47) (by decide +kernel) rfl ?_
    refine go_callV h.1 (index := 190) (n := 2) (t := 30) (i := 0) (ci := 7) (nf := 35) (cz := (RX7, TX7, 35)) (as := [.inl z1_7, .inl z2_47]) (rest := []) (ctr_X7_swap (xl X) (xA X) (xC X) (xI X) (xk X) z1_7 z2_47 z_47) (by decide +kernel) rfl rfl wd_v_X7_190 rfl (h.room (by first | decide | omega) (by decide)) h.cl (Nat.le_of_ble_eq_true rfl) puV_ok rfl (fun r71 m71 _ => ?_)
    show Go X (Em X puI) 74 [some (.inr (.inr (30, 0))), some (.inl z1_7), some (.inl z2_47), o3_47, o4_47] [] m71 _
    refine go_blk h.1 (is := [.iload_n 1, .iconst 1, .iadd, .istore_n 3, .aload_n 0, .getfield 74, .iconst 1, .isub, .istore 4]) (pc' := 86) (ls' := [some (.inr (.inr (30, 0))), some (.inl z1_7), some (.inl z2_47), some (.inl (z1_7 + (1 : Int32))), some (.inl ((m71 30 0 7) - (1 : Int32)))]) (st' := []) (m' := m71) (by decide +kernel) rfl ?_
    refine go_lp2 (hd := fun (y3 : Int32) (y4 : Int32) (n : Mem) o => ∀ (o1 : Option AV) (o2 : Option AV), Go X (Em X puI) 86 [some (.inr (.inr (30, 0))), o1, o2, some (.inl y3), some (.inl y4)] [] n o) (fun _ _ _ _ _ => go_none) (fun y3 y4 n nx_ hn_ => g_X7_nextOrder_b86 h nx_ _ hn_ (fun z_86 o0_86 o1_86 o2_86 o3_86 o4_86 => ?_) (y3, y4, n)) fuelN (z1_7 + (1 : Int32)) ((m71 30 0 7) - (1 : Int32)) m71 (some (.inl z1_7)) (some (.inl z2_47))
    refine go_blk h.1 (is := [.iconst 1]) (pc' := 109) (ls' := [o0_86, o1_86, o2_86, o3_86, o4_86]) (st' := [.inl (1 : Int32)]) (m' := z_86) (by decide +kernel) rfl ?_
    exact go_zret h.1 h.2.2.2.2 (Or.inr rfl) (by decide +kernel)
  · refine go_blk h.1 (is := [.iconst 0]) (pc' := 39) (ls' := [some (.inr (.inr (30, 0))), some (.inl z1_7), o2_7, o3_7, o4_7]) (st' := [.inl (0 : Int32)]) (m' := z_7) (by decide +kernel) rfl ?_
    exact go_zret h.1 h.2.2.2.2 (Or.inl rfl) (by decide +kernel)
theorem ctr_X7_nextOrder (l : Launch) (A : AR → Nat) (dC : Nat → ClassId) (dI : Nat → Nat → Nat) (cs : Nat → ClassId) (m : Mem) : Ctr l A dC dI cs yX7_nextOrder prog_9_method_37_code 5 (some .boolean) 1 puI [.inr (.inr (30, 0))] m (f_X7_nextOrder m) :=
  ctr_of (P := P_X7) (by decide +kernel) rfl pt_X7 rfl rfl (fun X hC _ _ _ _ _ hR h0 h1 hr => g_X7_nextOrder ⟨hC, hR, h0, h1, hr⟩ m)

def f_X7_findLeast_b8 (x1 : Int32) (next : Int32 × Mem → Option (Unit × Mem)) (exit : Mem → Option (Unit × Mem)) (s : Int32 × Mem) : Option (Unit × Mem) :=
  if (s.2 30 0 7) ≤ s.1 then
    exit (s.2)
  else
    if inB s.1 5 = true then
      next ((s.1 + (1 : Int32)), (mset s.2 44 0 (ix s.1) s.1))
    else none
theorem g_X7_findLeast_b8 {X : XT} (h : MX X prog_9_method_39_code P_X7 5 none) (x1 : Int32) (next : Int32 × Mem → Option (Unit × Mem)) (exit : Mem → Option (Unit × Mem)) (hn : ∀ (y2 : Int32) (n : Mem) (o3 : Option AV) (o4 : Option AV) (o5 : Option AV), Go X (Em X puV) 8 [some (.inr (.inr (30, 0))), some (.inl x1), some (.inl y2), o3, o4, o5] [] n (next (y2, n))) (hx : ∀ (n : Mem) (o2 : Option AV) (o3 : Option AV) (o4 : Option AV) (o5 : Option AV), Go X (Em X puV) 29 [some (.inr (.inr (30, 0))), some (.inl x1), o2, o3, o4, o5] [] n (exit (n))) (s : Int32 × Mem) (o3 : Option AV) (o4 : Option AV) (o5 : Option AV) : Go X (Em X puV) 8 [some (.inr (.inr (30, 0))), some (.inl x1), some (.inl s.1), o3, o4, o5] [] s.2 (f_X7_findLeast_b8 x1 next exit s) := by
  unfold f_X7_findLeast_b8
  refine go_blk h.1 (is := [.iload_n 2, .aload_n 0, .getfield 74]) (pc' := 13) (ls' := [some (.inr (.inr (30, 0))), some (.inl x1), some (.inl s.1), o3, o4, o5]) (st' := [.inl (s.2 30 0 7), .inl s.1]) (m' := s.2) (by decide +kernel) rfl ?_
  refine go_icmpge h.1 (off := 16) 29 (by decide +kernel) (by decide) (fun c13 => ?_) (fun c13 => ?_)
  · exact hx s.2 (some (.inl s.1)) (o3) (o4) (o5)
  · refine go_blk h.1 (is := [.aload_n 0, .getfield 49, .iload_n 2, .iload_n 2]) (pc' := 22) (ls' := [some (.inr (.inr (30, 0))), some (.inl x1), some (.inl s.1), o3, o4, o5]) (st' := [.inl s.1, .inl s.1, .inr (.inr (44, 0))]) (m' := s.2) (by decide +kernel) rfl ?_
    refine go_iast h.1 (by decide +kernel) rfl rfl (fun b22 => ?_)
    refine go_blk h.1 (is := [.iinc 2 1]) (pc' := 26) (ls' := [some (.inr (.inr (30, 0))), some (.inl x1), some (.inl (s.1 + (1 : Int32))), o3, o4, o5]) (st' := []) (m' := (mset s.2 44 0 (ix s.1) s.1)) (by decide +kernel) rfl ?_
    refine go_goto h.1 (off := -18) 8 (by decide +kernel) (by decide) ?_
    exact hn (s.1 + (1 : Int32)) (mset s.2 44 0 (ix s.1) s.1) (o3) (o4) (o5)

def f_X7_findLeast_j130 (next : Int32 × Mem → Option (Unit × Mem)) (exit : Mem → Option (Unit × Mem)) (x1 : Int32) (x3 : Int32) (m : Mem) : Option (Unit × Mem) :=
  next ((x3 + (1 : Int32)), m)
theorem g_X7_findLeast_j130 {X : XT} (h : MX X prog_9_method_39_code P_X7 5 none) (next : Int32 × Mem → Option (Unit × Mem)) (exit : Mem → Option (Unit × Mem)) (x1 : Int32) (x3 : Int32) (m : Mem) (o2 : Option AV) (o4 : Option AV) (o5 : Option AV) (hn : ∀ (y3 : Int32) (n : Mem) (o2 : Option AV) (o4 : Option AV) (o5 : Option AV), Go X (Em X puV) 37 [some (.inr (.inr (30, 0))), some (.inl x1), o2, some (.inl y3), o4, o5] [] n (next (y3, n))) (hx : ∀ (n : Mem) (o2 : Option AV) (o3 : Option AV) (o4 : Option AV) (o5 : Option AV), Go X (Em X puV) 136 [some (.inr (.inr (30, 0))), some (.inl x1), o2, o3, o4, o5] [] n (exit (n))) : Go X (Em X puV) 130 [some (.inr (.inr (30, 0))), some (.inl x1), o2, some (.inl x3), o4, o5] [] m (f_X7_findLeast_j130 next exit x1 x3 m) := by
  unfold f_X7_findLeast_j130
  refine go_blk h.1 (is := [.iinc 3 1]) (pc' := 133) (ls' := [some (.inr (.inr (30, 0))), some (.inl x1), (clrL o2), some (.inl (x3 + (1 : Int32))), o4, o5]) (st' := []) (m' := m) (by decide +kernel) rfl ?_
  refine go_goto h.1 (off := -96) 37 (by decide +kernel) (by decide) ?_
  exact hn (x3 + (1 : Int32)) m ((clrL o2)) (o4) (o5)

def f_X7_findLeast_j102 (next : Int32 × Mem → Option (Unit × Mem)) (exit : Mem → Option (Unit × Mem)) (s0 : Int32) (x1 : Int32) (x3 : Int32) (x4 : Int32) (m : Mem) : Option (Unit × Mem) :=
  if x4 = (-9 : Int32) then
    f_X7_findLeast_j130 next exit x1 x3 m
  else
    if s0 = 0 then
      f_X7_findLeast_j130 next exit x1 x3 m
    else
      f_X7_findLeast_j130 next exit x1 x3 (mset (mset m 30 0 28 x4) 30 0 29 ((mset m 30 0 28 x4) 30 0 23))
theorem g_X7_findLeast_j102 {X : XT} (h : MX X prog_9_method_39_code P_X7 5 none) (next : Int32 × Mem → Option (Unit × Mem)) (exit : Mem → Option (Unit × Mem)) (s0 : Int32) (x1 : Int32) (x3 : Int32) (x4 : Int32) (m : Mem) (o2 : Option AV) (o5 : Option AV) (hn : ∀ (y3 : Int32) (n : Mem) (o2 : Option AV) (o4 : Option AV) (o5 : Option AV), Go X (Em X puV) 37 [some (.inr (.inr (30, 0))), some (.inl x1), o2, some (.inl y3), o4, o5] [] n (next (y3, n))) (hx : ∀ (n : Mem) (o2 : Option AV) (o3 : Option AV) (o4 : Option AV) (o5 : Option AV), Go X (Em X puV) 136 [some (.inr (.inr (30, 0))), some (.inl x1), o2, o3, o4, o5] [] n (exit (n))) : Go X (Em X puV) 102 [some (.inr (.inr (30, 0))), some (.inl x1), o2, some (.inl x3), some (.inl x4), o5] [.inl s0] m (f_X7_findLeast_j102 next exit s0 x1 x3 x4 m) := by
  unfold f_X7_findLeast_j102
  refine go_blk h.1 (is := [.istore 5, .iload 4, .bipush (-9)]) (pc' := 108) (ls' := [some (.inr (.inr (30, 0))), some (.inl x1), o2, some (.inl x3), some (.inl x4), some (.inl s0)]) (st' := [.inl (-9 : Int32), .inl x4]) (m' := m) (by decide +kernel) rfl ?_
  refine go_icmpeq h.1 (off := 22) 130 (by decide +kernel) (by decide) (fun c108 => ?_) (fun c108 => ?_)
  · exact g_X7_findLeast_j130 h next exit x1 x3 m (o2) (some (.inl x4)) (some (.inl s0)) hn hx
  · refine go_blk h.1 (is := [.iload 5]) (pc' := 113) (ls' := [some (.inr (.inr (30, 0))), some (.inl x1), o2, some (.inl x3), some (.inl x4), some (.inl s0)]) (st' := [.inl s0]) (m' := m) (by decide +kernel) rfl ?_
    refine go_ifeq h.1 (off := 17) 130 (by decide +kernel) (by decide) (fun c113 => ?_) (fun c113 => ?_)
    · exact g_X7_findLeast_j130 h next exit x1 x3 m (o2) (some (.inl x4)) (some (.inl s0)) hn hx
    · refine go_blk h.1 (is := [.aload_n 0, .iload 4, .putfield 194, .aload_n 0, .aload_n 0, .getfield 143, .putfield 200]) (pc' := 130) (ls' := [some (.inr (.inr (30, 0))), some (.inl x1), o2, some (.inl x3), some (.inl x4), some (.inl s0)]) (st' := []) (m' := (mset (mset m 30 0 28 x4) 30 0 29 ((mset m 30 0 28 x4) 30 0 23))) (by decide +kernel) rfl ?_
      exact g_X7_findLeast_j130 h next exit x1 x3 (mset (mset m 30 0 28 x4) 30 0 29 ((mset m 30 0 28 x4) 30 0 23)) (o2) (some (.inl x4)) (some (.inl s0)) hn hx

def f_X7_findLeast_j97 (next : Int32 × Mem → Option (Unit × Mem)) (exit : Mem → Option (Unit × Mem)) (x1 : Int32) (x3 : Int32) (x4 : Int32) (m : Mem) : Option (Unit × Mem) :=
  f_X7_findLeast_j102 next exit (1 : Int32) x1 x3 x4 m
theorem g_X7_findLeast_j97 {X : XT} (h : MX X prog_9_method_39_code P_X7 5 none) (next : Int32 × Mem → Option (Unit × Mem)) (exit : Mem → Option (Unit × Mem)) (x1 : Int32) (x3 : Int32) (x4 : Int32) (m : Mem) (o2 : Option AV) (o5 : Option AV) (hn : ∀ (y3 : Int32) (n : Mem) (o2 : Option AV) (o4 : Option AV) (o5 : Option AV), Go X (Em X puV) 37 [some (.inr (.inr (30, 0))), some (.inl x1), o2, some (.inl y3), o4, o5] [] n (next (y3, n))) (hx : ∀ (n : Mem) (o2 : Option AV) (o3 : Option AV) (o4 : Option AV) (o5 : Option AV), Go X (Em X puV) 136 [some (.inr (.inr (30, 0))), some (.inl x1), o2, o3, o4, o5] [] n (exit (n))) : Go X (Em X puV) 97 [some (.inr (.inr (30, 0))), some (.inl x1), o2, some (.inl x3), some (.inl x4), o5] [] m (f_X7_findLeast_j97 next exit x1 x3 x4 m) := by
  unfold f_X7_findLeast_j97
  refine go_blk h.1 (is := [.iconst 1]) (pc' := 98) (ls' := [some (.inr (.inr (30, 0))), some (.inl x1), o2, some (.inl x3), some (.inl x4), o5]) (st' := [.inl (1 : Int32)]) (m' := m) (by decide +kernel) rfl ?_
  refine go_goto h.1 (off := 4) 102 (by decide +kernel) (by decide) ?_
  exact g_X7_findLeast_j102 h next exit (1 : Int32) x1 x3 x4 m (o2) (o5) hn hx

def f_X7_findLeast_j101 (next : Int32 × Mem → Option (Unit × Mem)) (exit : Mem → Option (Unit × Mem)) (x1 : Int32) (x3 : Int32) (x4 : Int32) (m : Mem) : Option (Unit × Mem) :=
  f_X7_findLeast_j102 next exit (0 : Int32) x1 x3 x4 m
theorem g_X7_findLeast_j101 {X : XT} (h : MX X prog_9_method_39_code P_X7 5 none) (next : Int32 × Mem → Option (Unit × Mem)) (exit : Mem → Option (Unit × Mem)) (x1 : Int32) (x3 : Int32) (x4 : Int32) (m : Mem) (o2 : Option AV) (o5 : Option AV) (hn : ∀ (y3 : Int32) (n : Mem) (o2 : Option AV) (o4 : Option AV) (o5 : Option AV), Go X (Em X puV) 37 [some (.inr (.inr (30, 0))), some (.inl x1), o2, some (.inl y3), o4, o5] [] n (next (y3, n))) (hx : ∀ (n : Mem) (o2 : Option AV) (o3 : Option AV) (o4 : Option AV) (o5 : Option AV), Go X (Em X puV) 136 [some (.inr (.inr (30, 0))), some (.inl x1), o2, o3, o4, o5] [] n (exit (n))) : Go X (Em X puV) 101 [some (.inr (.inr (30, 0))), some (.inl x1), o2, some (.inl x3), some (.inl x4), o5] [] m (f_X7_findLeast_j101 next exit x1 x3 x4 m) := by
  unfold f_X7_findLeast_j101
  refine go_blk h.1 (is := [.iconst 0]) (pc' := 102) (ls' := [some (.inr (.inr (30, 0))), some (.inl x1), o2, some (.inl x3), some (.inl x4), o5]) (st' := [.inl (0 : Int32)]) (m' := m) (by decide +kernel) rfl ?_
  exact g_X7_findLeast_j102 h next exit (0 : Int32) x1 x3 x4 m (o2) (o5) hn hx

def f_X7_findLeast_b37 (x1 : Int32) (next : Int32 × Mem → Option (Unit × Mem)) (exit : Mem → Option (Unit × Mem)) (s : Int32 × Mem) : Option (Unit × Mem) :=
  if ((1 : Int32) <<< (((2 : Int32) * (s.2 30 0 7)) &&& 31)) ≤ s.1 then
    exit (s.2)
  else
    bnd (f_X7_goWays s.1 x1 s.2) (fun r52 m52 =>
      if (m52 30 0 28) = (-9 : Int32) then
        f_X7_findLeast_j97 next exit x1 s.1 r52 m52
      else
        if (m52 30 0 23) < (m52 30 0 29) then
          f_X7_findLeast_j97 next exit x1 s.1 r52 m52
        else
          if (m52 30 0 23) = (m52 30 0 29) then
            if (m52 30 0 28) ≤ r52 then
              f_X7_findLeast_j101 next exit x1 s.1 r52 m52
            else
              f_X7_findLeast_j97 next exit x1 s.1 r52 m52
          else
            f_X7_findLeast_j101 next exit x1 s.1 r52 m52)
theorem g_X7_findLeast_b37 {X : XT} (h : MX X prog_9_method_39_code P_X7 5 none) (x1 : Int32) (next : Int32 × Mem → Option (Unit × Mem)) (exit : Mem → Option (Unit × Mem)) (hn : ∀ (y3 : Int32) (n : Mem) (o2 : Option AV) (o4 : Option AV) (o5 : Option AV), Go X (Em X puV) 37 [some (.inr (.inr (30, 0))), some (.inl x1), o2, some (.inl y3), o4, o5] [] n (next (y3, n))) (hx : ∀ (n : Mem) (o2 : Option AV) (o3 : Option AV) (o4 : Option AV) (o5 : Option AV), Go X (Em X puV) 136 [some (.inr (.inr (30, 0))), some (.inl x1), o2, o3, o4, o5] [] n (exit (n))) (s : Int32 × Mem) (o2 : Option AV) (o4 : Option AV) (o5 : Option AV) : Go X (Em X puV) 37 [some (.inr (.inr (30, 0))), some (.inl x1), o2, some (.inl s.1), o4, o5] [] s.2 (f_X7_findLeast_b37 x1 next exit s) := by
  unfold f_X7_findLeast_b37
  refine go_blk h.1 (is := [.iload_n 3, .iconst 1, .iconst 2, .aload_n 0, .getfield 74, .imul, .ishl]) (pc' := 46) (ls' := [some (.inr (.inr (30, 0))), some (.inl x1), o2, some (.inl s.1), o4, o5]) (st' := [.inl ((1 : Int32) <<< (((2 : Int32) * (s.2 30 0 7)) &&& 31)), .inl s.1]) (m' := s.2) (by decide +kernel) rfl ?_
  refine go_icmpge h.1 (off := 90) 136 (by decide +kernel) (by decide) (fun c46 => ?_) (fun c46 => ?_)
  · exact hx s.2 (o2) (some (.inl s.1)) (o4) (o5)
  · refine go_blk h.1 (is := [.aload_n 0, .iload_n 3, .iload_n 1]) (pc' := 52) (ls' := [some (.inr (.inr (30, 0))), some (.inl x1), o2, some (.inl s.1), o4, o5]) (st' := [.inl x1, .inl s.1, .inr (.inr (30, 0))]) (m' := s.2) (by decide +kernel) rfl ?_
    refine go_callV h.1 (index := 197) (n := 2) (t := 30) (i := 0) (ci := 7) (nf := 35) (cz := (RX7, TX7, 35)) (as := [.inl s.1, .inl x1]) (rest := []) (ctr_X7_goWays (xl X) (xA X) (xC X) (xI X) (xk X) s.1 x1 s.2) (by decide +kernel) rfl rfl wd_v_X7_197 rfl (h.room (by first | decide | omega) (by decide)) h.cl (Nat.le_of_ble_eq_true rfl) puI_ok rfl (fun r52 m52 _ => ?_)
    show Go X (Em X puV) 55 [some (.inr (.inr (30, 0))), some (.inl x1), o2, some (.inl s.1), o4, o5] [.inl r52] m52 _
    refine go_blk h.1 (is := [.istore 4, .aload_n 0, .getfield 194, .bipush (-9)]) (pc' := 63) (ls' := [some (.inr (.inr (30, 0))), some (.inl x1), o2, some (.inl s.1), some (.inl r52), o5]) (st' := [.inl (-9 : Int32), .inl (m52 30 0 28)]) (m' := m52) (by decide +kernel) rfl ?_
    refine go_icmpeq h.1 (off := 34) 97 (by decide +kernel) (by decide) (fun c63 => ?_) (fun c63 => ?_)
    · exact g_X7_findLeast_j97 h next exit x1 s.1 r52 m52 (o2) (o5) hn hx
    · refine go_blk h.1 (is := [.aload_n 0, .getfield 143, .aload_n 0, .getfield 200]) (pc' := 74) (ls' := [some (.inr (.inr (30, 0))), some (.inl x1), o2, some (.inl s.1), some (.inl r52), o5]) (st' := [.inl (m52 30 0 29), .inl (m52 30 0 23)]) (m' := m52) (by decide +kernel) rfl ?_
      refine go_icmplt h.1 (off := 23) 97 (by decide +kernel) (by decide) (fun c74 => ?_) (fun c74 => ?_)
      · exact g_X7_findLeast_j97 h next exit x1 s.1 r52 m52 (o2) (o5) hn hx
      · refine go_blk h.1 (is := [.aload_n 0, .getfield 143, .aload_n 0, .getfield 200]) (pc' := 85) (ls' := [some (.inr (.inr (30, 0))), some (.inl x1), o2, some (.inl s.1), some (.inl r52), o5]) (st' := [.inl (m52 30 0 29), .inl (m52 30 0 23)]) (m' := m52) (by decide +kernel) rfl ?_
        refine go_icmpne h.1 (off := 16) 101 (by decide +kernel) (by decide) (fun c85 => ?_) (fun c85 => ?_)
        · exact g_X7_findLeast_j101 h next exit x1 s.1 r52 m52 (o2) (o5) hn hx
        · refine go_blk h.1 (is := [.iload 4, .aload_n 0, .getfield 194]) (pc' := 94) (ls' := [some (.inr (.inr (30, 0))), some (.inl x1), o2, some (.inl s.1), some (.inl r52), o5]) (st' := [.inl (m52 30 0 28), .inl r52]) (m' := m52) (by decide +kernel) rfl ?_
          refine go_icmpge h.1 (off := 7) 101 (by decide +kernel) (by decide) (fun c94 => ?_) (fun c94 => ?_)
          · exact g_X7_findLeast_j101 h next exit x1 s.1 r52 m52 (o2) (o5) hn hx
          · exact g_X7_findLeast_j97 h next exit x1 s.1 r52 m52 (o2) (o5) hn hx

def f_X7_findLeast_b31 (x1 : Int32) (next : Int32 × Mem → Option (Unit × Mem)) (exit : Mem → Option (Unit × Mem)) (s : Int32 × Mem) : Option (Unit × Mem) :=
  if s.1 = 0 then
    exit (s.2)
  else
    lpk (f_X7_findLeast_b37 x1) fuelN ((0 : Int32), s.2) (fun t37 =>
      bnd (f_X7_nextOrder t37) (fun r137 m137 =>
        next (r137, m137)))
theorem g_X7_findLeast_b31 {X : XT} (h : MX X prog_9_method_39_code P_X7 5 none) (x1 : Int32) (next : Int32 × Mem → Option (Unit × Mem)) (exit : Mem → Option (Unit × Mem)) (hn : ∀ (y2 : Int32) (n : Mem) (o3 : Option AV) (o4 : Option AV) (o5 : Option AV), Go X (Em X puV) 31 [some (.inr (.inr (30, 0))), some (.inl x1), some (.inl y2), o3, o4, o5] [] n (next (y2, n))) (hx : ∀ (n : Mem) (o0 : Option AV) (o1 : Option AV) (o2 : Option AV) (o3 : Option AV) (o4 : Option AV) (o5 : Option AV), Go X (Em X puV) 144 [o0, o1, o2, o3, o4, o5] [] n (exit (n))) (s : Int32 × Mem) (o3 : Option AV) (o4 : Option AV) (o5 : Option AV) : Go X (Em X puV) 31 [some (.inr (.inr (30, 0))), some (.inl x1), some (.inl s.1), o3, o4, o5] [] s.2 (f_X7_findLeast_b31 x1 next exit s) := by
  unfold f_X7_findLeast_b31
  refine go_blk h.1 (is := [.iload_n 2]) (pc' := 32) (ls' := [some (.inr (.inr (30, 0))), some (.inl x1), some (.inl s.1), o3, o4, o5]) (st' := [.inl s.1]) (m' := s.2) (by decide +kernel) rfl ?_
  refine go_ifeq h.1 (off := 112) 144 (by decide +kernel) (by decide) (fun c32 => ?_) (fun c32 => ?_)
  · exact hx s.2 (some (.inr (.inr (30, 0)))) (some (.inl x1)) (some (.inl s.1)) (o3) (o4) (o5)
  · refine go_blk h.1 (is := [.iconst 0, .istore_n 3]) (pc' := 37) (ls' := [some (.inr (.inr (30, 0))), some (.inl x1), some (.inl s.1), some (.inl (0 : Int32)), o4, o5]) (st' := []) (m' := s.2) (by decide +kernel) rfl ?_
    refine go_lp1 (hd := fun (y3 : Int32) (n : Mem) o => ∀ (o2 : Option AV) (o4 : Option AV) (o5 : Option AV), Go X (Em X puV) 37 [some (.inr (.inr (30, 0))), some (.inl x1), o2, some (.inl y3), o4, o5] [] n o) (fun _ _ _ _ _ => go_none) (fun y3 n nx_ hn_ => g_X7_findLeast_b37 h x1 nx_ _ hn_ (fun z_37 o2_37 o3_37 o4_37 o5_37 => ?_) (y3, n)) fuelN (0 : Int32) s.2 (some (.inl s.1)) (o4) (o5)
    refine go_blk h.1 (is := [.aload_n 0]) (pc' := 137) (ls' := [some (.inr (.inr (30, 0))), some (.inl x1), o2_37, o3_37, o4_37, o5_37]) (st' := [.inr (.inr (30, 0))]) (m' := z_37) (by decide +kernel) rfl ?_
    refine go_callV h.1 (index := 203) (n := 0) (t := 30) (i := 0) (ci := 7) (nf := 35) (cz := (RX7, TX7, 35)) (as := []) (rest := []) (ctr_X7_nextOrder (xl X) (xA X) (xC X) (xI X) (xk X) z_37) (by decide +kernel) rfl rfl wd_v_X7_203 rfl (h.room (by first | decide | omega) (by decide)) h.cl (Nat.le_of_ble_eq_true rfl) puI_ok rfl (fun r137 m137 _ => ?_)
    show Go X (Em X puV) 140 [some (.inr (.inr (30, 0))), some (.inl x1), o2_37, o3_37, o4_37, o5_37] [.inl r137] m137 _
    refine go_blk h.1 (is := [.istore_n 2]) (pc' := 141) (ls' := [some (.inr (.inr (30, 0))), some (.inl x1), some (.inl r137), o3_37, o4_37, o5_37]) (st' := []) (m' := m137) (by decide +kernel) rfl ?_
    refine go_goto h.1 (off := -110) 31 (by decide +kernel) (by decide) ?_
    exact hn r137 m137 (o3_37) (o4_37) (o5_37)

def f_X7_findLeast (x1 : Int32) (m : Mem) : Option (Unit × Mem) :=
  lpk (f_X7_findLeast_b8 x1) fuelN ((0 : Int32), (mset m 30 0 28 (-9 : Int32))) (fun t8 =>
    lpk (f_X7_findLeast_b31 x1) fuelN ((1 : Int32), t8) (fun t31 =>
      some ((), t31)))
theorem g_X7_findLeast {X : XT} (h : MX X prog_9_method_39_code P_X7 5 none) (x1 : Int32) (m : Mem) : Go X (Em X puV) 0 [some (.inr (.inr (30, 0))), some (.inl x1), none, none, none, none] [] m (f_X7_findLeast x1 m) := by
  unfold f_X7_findLeast
  refine go_blk h.1 (is := [.aload_n 0, .bipush (-9), .putfield 194, .iconst 0, .istore_n 2]) (pc' := 8) (ls' := [some (.inr (.inr (30, 0))), some (.inl x1), some (.inl (0 : Int32)), none, none, none]) (st' := []) (m' := (mset m 30 0 28 (-9 : Int32))) (by decide +kernel) rfl ?_
  refine go_lp1 (hd := fun (y2 : Int32) (n : Mem) o => ∀ (o3 : Option AV) (o4 : Option AV) (o5 : Option AV), Go X (Em X puV) 8 [some (.inr (.inr (30, 0))), some (.inl x1), some (.inl y2), o3, o4, o5] [] n o) (fun _ _ _ _ _ => go_none) (fun y2 n nx_ hn_ => g_X7_findLeast_b8 h x1 nx_ _ hn_ (fun z_8 o2_8 o3_8 o4_8 o5_8 => ?_) (y2, n)) fuelN (0 : Int32) (mset m 30 0 28 (-9 : Int32)) (none) (none) (none)
  refine go_blk h.1 (is := [.iconst 1, .istore_n 2]) (pc' := 31) (ls' := [some (.inr (.inr (30, 0))), some (.inl x1), some (.inl (1 : Int32)), o3_8, o4_8, o5_8]) (st' := []) (m' := z_8) (by decide +kernel) rfl ?_
  refine go_lp1 (hd := fun (y2 : Int32) (n : Mem) o => ∀ (o3 : Option AV) (o4 : Option AV) (o5 : Option AV), Go X (Em X puV) 31 [some (.inr (.inr (30, 0))), some (.inl x1), some (.inl y2), o3, o4, o5] [] n o) (fun _ _ _ _ _ => go_none) (fun y2 n nx_ hn_ => g_X7_findLeast_b31 h x1 nx_ _ hn_ (fun z_31 o0_31 o1_31 o2_31 o3_31 o4_31 o5_31 => ?_) (y2, n)) fuelN (1 : Int32) z_8 (o3_8) (o4_8) (o5_8)
  exact go_vret h.1 h.2.2.2.2 (by decide +kernel)
theorem ctr_X7_findLeast (l : Launch) (A : AR → Nat) (dC : Nat → ClassId) (dI : Nat → Nat → Nat) (cs : Nat → ClassId) (x1 : Int32) (m : Mem) : Ctr l A dC dI cs yX7_findLeast prog_9_method_39_code 6 none 5 puV [.inr (.inr (30, 0)), .inl x1] m (f_X7_findLeast x1 m) :=
  ctr_of (P := P_X7) (by decide +kernel) rfl pt_X7 rfl rfl (fun X hC _ _ _ _ _ hR h0 h1 hr => g_X7_findLeast ⟨hC, hR, h0, h1, hr⟩ x1 m)

def f_X7_least_b78 (x2 : Int32) (next : Int32 × Int32 × Mem → Option (Int32 × Mem)) (exit : Int32 × Mem → Option (Int32 × Mem)) (s : Int32 × Int32 × Mem) : Option (Int32 × Mem) :=
  if s.2.1 ≤ x2 then
    exit (s.1, s.2.2)
  else
    if ¬ (50 : Int32) = 0 then dv (s.1 / (50 : Int32)) (fun q87 =>
      next (q87, (s.2.1 + (-1 : Int32)), s.2.2))
    else none
theorem g_X7_least_b78 {X : XT} (h : MX X prog_9_method_40_code P_X7 6 (some .int)) (x2 : Int32) (next : Int32 × Int32 × Mem → Option (Int32 × Mem)) (exit : Int32 × Mem → Option (Int32 × Mem)) (hn : ∀ (y3 : Int32) (y4 : Int32) (n : Mem) (o0 : Option AV) (o1 : Option AV), Go X (Em X puI) 78 [o0, o1, some (.inl x2), some (.inl y3), some (.inl y4)] [] n (next (y3, y4, n))) (hx : ∀ (y3 : Int32) (n : Mem) (o0 : Option AV) (o1 : Option AV) (o2 : Option AV) (o4 : Option AV), Go X (Em X puI) 95 [o0, o1, o2, some (.inl y3), o4] [] n (exit (y3, n))) (s : Int32 × Int32 × Mem) (o0 : Option AV) (o1 : Option AV) : Go X (Em X puI) 78 [o0, o1, some (.inl x2), some (.inl s.1), some (.inl s.2.1)] [] s.2.2 (f_X7_least_b78 x2 next exit s) := by
  unfold f_X7_least_b78
  refine go_blk h.1 (is := [.iload 4, .iload_n 2]) (pc' := 81) (ls' := [o0, o1, some (.inl x2), some (.inl s.1), some (.inl s.2.1)]) (st' := [.inl x2, .inl s.2.1]) (m' := s.2.2) (by decide +kernel) rfl ?_
  refine go_icmple h.1 (off := 14) 95 (by decide +kernel) (by decide) (fun c81 => ?_) (fun c81 => ?_)
  · exact hx s.1 s.2.2 (o0) (o1) (some (.inl x2)) (some (.inl s.2.1))
  · refine go_blk h.1 (is := [.iload_n 3, .bipush 50]) (pc' := 87) (ls' := [o0, o1, some (.inl x2), some (.inl s.1), some (.inl s.2.1)]) (st' := [.inl (50 : Int32), .inl s.1]) (m' := s.2.2) (by decide +kernel) rfl ?_
    refine go_idiv h.1 (by decide +kernel) (fun z87 q87 _ => ?_)
    refine go_blk h.1 (is := [.istore_n 3, .iinc 4 (-1)]) (pc' := 92) (ls' := [o0, o1, some (.inl x2), some (.inl q87), some (.inl (s.2.1 + (-1 : Int32)))]) (st' := []) (m' := s.2.2) (by decide +kernel) rfl ?_
    refine go_goto h.1 (off := -14) 78 (by decide +kernel) (by decide) ?_
    exact hn q87 (s.2.1 + (-1 : Int32)) s.2.2 (o0) (o1)

def f_X7_least (x1 : Int32) (x2 : Int32) (m : Mem) : Option (Int32 × Mem) :=
  if (-1 : Int32) ≤ x2 then
    bnd (f_X7_within x1 (1 : Int32) (15 : Int32) m) (fun r11 m11 =>
      if r11 = 0 then
        some ((-2 : Int32), m11)
      else
        if (m11 30 0 5) = 0 then
          some ((-3 : Int32), m11)
        else
          bnd (f_X7_findLeast x1 m11) (fun _ m32 =>
            if (m32 30 0 28) = (-9 : Int32) then
              some ((-9 : Int32), m32)
            else
              if x2 < (m32 30 0 7) then
                if x2 = (-1 : Int32) then
                  some ((m32 30 0 29), m32)
                else
                  lpk (f_X7_least_b78 x2) fuelN ((m32 30 0 28), ((m32 30 0 7) - (1 : Int32)), m32) (fun t78 =>
                    if ¬ (50 : Int32) = 0 then dv (t78.1 - t78.1 / (50 : Int32) * (50 : Int32)) (fun q98 =>
                      some (q98, t78.2))
                    else none)
              else
                some ((-9 : Int32), m32)))
  else
    some ((-1 : Int32), m)
theorem g_X7_least {X : XT} (h : MX X prog_9_method_40_code P_X7 6 (some .int)) (x1 : Int32) (x2 : Int32) (m : Mem) : Go X (Em X puI) 0 [some (.inr (.inr (30, 0))), some (.inl x1), some (.inl x2), none, none] [] m (f_X7_least x1 x2 m) := by
  unfold f_X7_least
  refine go_blk h.1 (is := [.iload_n 2, .iconst (-1)]) (pc' := 2) (ls' := [some (.inr (.inr (30, 0))), some (.inl x1), some (.inl x2), none, none]) (st' := [.inl (-1 : Int32), .inl x2]) (m' := m) (by decide +kernel) rfl ?_
  refine go_icmpge h.1 (off := 5) 7 (by decide +kernel) (by decide) (fun c2 => ?_) (fun c2 => ?_)
  · refine go_blk h.1 (is := [.iload_n 1, .iconst 1, .bipush 15]) (pc' := 11) (ls' := [some (.inr (.inr (30, 0))), some (.inl x1), some (.inl x2), none, none]) (st' := [.inl (15 : Int32), .inl (1 : Int32), .inl x1]) (m' := m) (by decide +kernel) rfl ?_
    refine go_callS h.1 (index := 70) (n := 3) (as := [.inl x1, .inl (1 : Int32), .inl (15 : Int32)]) (rest := []) (ctr_X7_within (xl X) (xA X) (xC X) (xI X) (xk X) x1 (1 : Int32) (15 : Int32) m) (by decide +kernel) wd_s_X7_70 rfl (h.room (by first | decide | omega) (by decide)) h.cl (Nat.le_of_ble_eq_true rfl) puI_ok rfl (fun r11 m11 _ => ?_)
    show Go X (Em X puI) 14 [some (.inr (.inr (30, 0))), some (.inl x1), some (.inl x2), none, none] [.inl r11] m11 _
    refine go_ifne h.1 (off := 6) 20 (by decide +kernel) (by decide) (fun c14 => ?_) (fun c14 => ?_)
    · refine go_blk h.1 (is := [.aload_n 0, .getfield 98]) (pc' := 24) (ls' := [some (.inr (.inr (30, 0))), some (.inl x1), some (.inl x2), none, none]) (st' := [.inl (m11 30 0 5)]) (m' := m11) (by decide +kernel) rfl ?_
      refine go_ifne h.1 (off := 6) 30 (by decide +kernel) (by decide) (fun c24 => ?_) (fun c24 => ?_)
      · refine go_blk h.1 (is := [.aload_n 0, .iload_n 1]) (pc' := 32) (ls' := [some (.inr (.inr (30, 0))), some (.inl x1), some (.inl x2), none, none]) (st' := [.inl x1, .inr (.inr (30, 0))]) (m' := m11) (by decide +kernel) rfl ?_
        refine go_callV h.1 (index := 207) (n := 1) (t := 30) (i := 0) (ci := 7) (nf := 35) (cz := (RX7, TX7, 35)) (as := [.inl x1]) (rest := []) (ctr_X7_findLeast (xl X) (xA X) (xC X) (xI X) (xk X) x1 m11) (by decide +kernel) rfl rfl wd_v_X7_207 rfl (h.room (by first | decide | omega) (by decide)) h.cl (Nat.le_of_ble_eq_true rfl) puV_ok rfl (fun r32 m32 _ => ?_)
        show Go X (Em X puI) 35 [some (.inr (.inr (30, 0))), some (.inl x1), some (.inl x2), none, none] [] m32 _
        refine go_blk h.1 (is := [.aload_n 0, .getfield 194, .bipush (-9)]) (pc' := 41) (ls' := [some (.inr (.inr (30, 0))), some (.inl x1), some (.inl x2), none, none]) (st' := [.inl (-9 : Int32), .inl (m32 30 0 28)]) (m' := m32) (by decide +kernel) rfl ?_
        refine go_icmpeq h.1 (off := 11) 52 (by decide +kernel) (by decide) (fun c41 => ?_) (fun c41 => ?_)
        · refine go_blk h.1 (is := [.bipush (-9)]) (pc' := 54) (ls' := [some (.inr (.inr (30, 0))), some (.inl x1), some (.inl x2), none, none]) (st' := [.inl (-9 : Int32)]) (m' := m32) (by decide +kernel) rfl ?_
          exact go_iret h.1 h.2.2.2.2 (by decide +kernel)
        · refine go_blk h.1 (is := [.iload_n 2, .aload_n 0, .getfield 74]) (pc' := 49) (ls' := [some (.inr (.inr (30, 0))), some (.inl x1), some (.inl x2), none, none]) (st' := [.inl (m32 30 0 7), .inl x2]) (m' := m32) (by decide +kernel) rfl ?_
          refine go_icmplt h.1 (off := 6) 55 (by decide +kernel) (by decide) (fun c49 => ?_) (fun c49 => ?_)
          · refine go_blk h.1 (is := [.iload_n 2, .iconst (-1)]) (pc' := 57) (ls' := [some (.inr (.inr (30, 0))), some (.inl x1), some (.inl x2), none, none]) (st' := [.inl (-1 : Int32), .inl x2]) (m' := m32) (by decide +kernel) rfl ?_
            refine go_icmpne h.1 (off := 8) 65 (by decide +kernel) (by decide) (fun c57 => ?_) (fun c57 => ?_)
            · refine go_blk h.1 (is := [.aload_n 0, .getfield 194, .istore_n 3, .aload_n 0, .getfield 74, .iconst 1, .isub, .istore 4]) (pc' := 78) (ls' := [some (.inr (.inr (30, 0))), some (.inl x1), some (.inl x2), some (.inl (m32 30 0 28)), some (.inl ((m32 30 0 7) - (1 : Int32)))]) (st' := []) (m' := m32) (by decide +kernel) rfl ?_
              refine go_lp2 (hd := fun (y3 : Int32) (y4 : Int32) (n : Mem) o => ∀ (o0 : Option AV) (o1 : Option AV), Go X (Em X puI) 78 [o0, o1, some (.inl x2), some (.inl y3), some (.inl y4)] [] n o) (fun _ _ _ _ _ => go_none) (fun y3 y4 n nx_ hn_ => g_X7_least_b78 h x2 nx_ _ hn_ (fun z3_78 z_78 o0_78 o1_78 o2_78 o4_78 => ?_) (y3, y4, n)) fuelN (m32 30 0 28) ((m32 30 0 7) - (1 : Int32)) m32 (some (.inr (.inr (30, 0)))) (some (.inl x1))
              refine go_blk h.1 (is := [.iload_n 3, .bipush 50]) (pc' := 98) (ls' := [o0_78, o1_78, o2_78, some (.inl z3_78), o4_78]) (st' := [.inl (50 : Int32), .inl z3_78]) (m' := z_78) (by decide +kernel) rfl ?_
              refine go_irem h.1 (by decide +kernel) (fun z98 q98 _ => ?_)
              exact go_iret h.1 h.2.2.2.2 (by decide +kernel)
            · refine go_blk h.1 (is := [.aload_n 0, .getfield 200]) (pc' := 64) (ls' := [some (.inr (.inr (30, 0))), some (.inl x1), some (.inl x2), none, none]) (st' := [.inl (m32 30 0 29)]) (m' := m32) (by decide +kernel) rfl ?_
              exact go_iret h.1 h.2.2.2.2 (by decide +kernel)
          · refine go_blk h.1 (is := [.bipush (-9)]) (pc' := 54) (ls' := [some (.inr (.inr (30, 0))), some (.inl x1), some (.inl x2), none, none]) (st' := [.inl (-9 : Int32)]) (m' := m32) (by decide +kernel) rfl ?_
            exact go_iret h.1 h.2.2.2.2 (by decide +kernel)
      · refine go_blk h.1 (is := [.bipush (-3)]) (pc' := 29) (ls' := [some (.inr (.inr (30, 0))), some (.inl x1), some (.inl x2), none, none]) (st' := [.inl (-3 : Int32)]) (m' := m11) (by decide +kernel) rfl ?_
        exact go_iret h.1 h.2.2.2.2 (by decide +kernel)
    · refine go_blk h.1 (is := [.bipush (-2)]) (pc' := 19) (ls' := [some (.inr (.inr (30, 0))), some (.inl x1), some (.inl x2), none, none]) (st' := [.inl (-2 : Int32)]) (m' := m11) (by decide +kernel) rfl ?_
      exact go_iret h.1 h.2.2.2.2 (by decide +kernel)
  · refine go_blk h.1 (is := [.iconst (-1)]) (pc' := 6) (ls' := [some (.inr (.inr (30, 0))), some (.inl x1), some (.inl x2), none, none]) (st' := [.inl (-1 : Int32)]) (m' := m) (by decide +kernel) rfl ?_
    exact go_iret h.1 h.2.2.2.2 (by decide +kernel)
theorem ctr_X7_least (l : Launch) (A : AR → Nat) (dC : Nat → ClassId) (dI : Nat → Nat → Nat) (cs : Nat → ClassId) (x1 : Int32) (x2 : Int32) (m : Mem) : Ctr l A dC dI cs yX7_least prog_9_method_40_code 5 (some .int) 6 puI [.inr (.inr (30, 0)), .inl x1, .inl x2] m (f_X7_least x1 x2 m) :=
  ctr_of (P := P_X7) (by decide +kernel) rfl pt_X7 rfl rfl (fun X hC _ _ _ _ _ hR h0 h1 hr => g_X7_least ⟨hC, hR, h0, h1, hr⟩ x1 x2 m)

