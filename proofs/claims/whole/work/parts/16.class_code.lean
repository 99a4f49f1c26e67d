/-! ===== printed by wip/whole/tr.py out of the listing ===== -/
def f_X6_tell (x1 : Int32) (m : Mem) : Option (Int32 × Mem) :=
  bnd (f_X5_has x1 m) (fun r5 m5 =>
    if r5 = 0 then
      some ((-1 : Int32), m5)
    else
      if inB x1 5 = true then
        if (m5 6 (ix x1) 0) = (1 : Int32) then
          bnd (f_X6_eelsTelling (ix x1) m5) (fun r60 m60 =>
            some (r60, m60))
        else
          if (m5 6 (ix x1) 0) = (2 : Int32) then
            bnd (f_X6_pikesTelling (ix x1) m5) (fun r54 m54 =>
              some (r54, m54))
          else
            bnd (f_X6_fishsTelling (ix x1) m5) (fun r66 m66 =>
              some (r66, m66))
      else none)
theorem g_X6_tell {X : XT} (h : MX X prog_1_method_24_code P_X6 4 (some .int)) (x1 : Int32) (m : Mem) : Go X (Em X puI) 0 [some (.inr (.inr (0, 0))), some (.inl x1), none] [] m (f_X6_tell x1 m) := by
  unfold f_X6_tell
  refine go_blk h.1 (is := [.aload_n 0, .getfield 21, .iload_n 1]) (pc' := 5) (ls' := [some (.inr (.inr (0, 0))), some (.inl x1), none]) (st' := [.inl x1, .inr (.inr (4, 0))]) (m' := m) (by decide +kernel) rfl ?_
  refine go_callV h.1 (index := 83) (n := 1) (t := 4) (i := 0) (ci := 5) (nf := 4) (cz := (RX5, TX5, 4)) (as := [.inl x1]) (rest := []) (ctr_X5_has (xl X) (xA X) (xC X) (xI X) (xk X) x1 m) (by decide +kernel) rfl rfl wd_v_X6_83 rfl (h.room (by first | decide | omega) (by decide)) h.cl (Nat.le_of_ble_eq_true rfl) puI_ok rfl (fun r5 m5 _ => ?_)
  show Go X (Em X puI) 8 [some (.inr (.inr (0, 0))), some (.inl x1), none] [.inl r5] m5 _
  refine go_ifne h.1 (off := 5) 13 (by decide +kernel) (by decide) (fun c8 => ?_) (fun c8 => ?_)
  · refine go_blk h.1 (is := [.aload_n 0, .getfield 21, .getfield 86, .iload_n 1]) (pc' := 21) (ls' := [some (.inr (.inr (0, 0))), some (.inl x1), none]) (st' := [.inl x1, .inr (.inr (5, 0))]) (m' := m5) (by decide +kernel) rfl ?_
    refine go_aald h.1 (kd := 1) (z := (6, (ix x1))) (by decide +kernel) rfl rfl (by decide) rfl (fun b21 => ?_)
    refine go_blk h.1 (is := [.astore_n 2, .aload_n 2, .getfield 90]) (pc' := 27) (ls' := [some (.inr (.inr (0, 0))), some (.inl x1), some (.inr (.inr (6, (ix x1))))]) (st' := [.inl (m5 6 (ix x1) 0)]) (m' := m5) (by decide +kernel) rfl ?_
    refine go_ite (fun w27_0 => ?_) (fun w27_0 => ?_)
    · refine go_lsIn h.1 (dflt := 37) (ps := #[(1, 31), (2, 25)]) (len := 25) (off := 31) (1 : Int32) 58 w27_0 (by decide +kernel) (by decide) rfl (by decide) ?_
      refine go_blk h.1 (is := [.aload_n 0, .aload_n 2]) (pc' := 60) (ls' := [some (.inr (.inr (0, 0))), some (.inl x1), some (.inr (.inr (6, (ix x1))))]) (st' := [.inr (.inr (6, (ix x1))), .inr (.inr (0, 0))]) (m' := m5) (by decide +kernel) rfl ?_
      refine go_callV h.1 (index := 226) (n := 1) (t := 0) (i := 0) (ci := 6) (nf := 7) (cz := (RX6, TX6, 7)) (as := [.inr (.inr (6, (ix x1)))]) (rest := []) (ctr_X6_eelsTelling (xl X) (xA X) (xC X) (xI X) (xk X) (ix x1) m5) (by decide +kernel) rfl rfl wd_v_X6_226 rfl (h.room (by first | decide | omega) (by decide)) h.cl (Nat.le_of_ble_eq_true rfl) puI_ok rfl (fun r60 m60 _ => ?_)
      show Go X (Em X puI) 63 [some (.inr (.inr (0, 0))), some (.inl x1), some (.inr (.inr (6, (ix x1))))] [.inl r60] m60 _
      exact go_iret h.1 h.2.2.2.2 (by decide +kernel)
    · refine go_ite (fun w27_1 => ?_) (fun w27_1 => ?_)
      · refine go_lsIn h.1 (dflt := 37) (ps := #[(1, 31), (2, 25)]) (len := 25) (off := 25) (2 : Int32) 52 w27_1 (by decide +kernel) (by decide) rfl (by decide) ?_
        refine go_blk h.1 (is := [.aload_n 0, .aload_n 2]) (pc' := 54) (ls' := [some (.inr (.inr (0, 0))), some (.inl x1), some (.inr (.inr (6, (ix x1))))]) (st' := [.inr (.inr (6, (ix x1))), .inr (.inr (0, 0))]) (m' := m5) (by decide +kernel) rfl ?_
        refine go_callV h.1 (index := 222) (n := 1) (t := 0) (i := 0) (ci := 6) (nf := 7) (cz := (RX6, TX6, 7)) (as := [.inr (.inr (6, (ix x1)))]) (rest := []) (ctr_X6_pikesTelling (xl X) (xA X) (xC X) (xI X) (xk X) (ix x1) m5) (by decide +kernel) rfl rfl wd_v_X6_222 rfl (h.room (by first | decide | omega) (by decide)) h.cl (Nat.le_of_ble_eq_true rfl) puI_ok rfl (fun r54 m54 _ => ?_)
        show Go X (Em X puI) 57 [some (.inr (.inr (0, 0))), some (.inl x1), some (.inr (.inr (6, (ix x1))))] [.inl r54] m54 _
        exact go_iret h.1 h.2.2.2.2 (by decide +kernel)
      · refine go_ls h.1 (dflt := 37) (ps := #[(1, 31), (2, 25)]) (len := 25) 64 (off := 37) (by decide +kernel) (by decide) (by simp only [Op.lookupswitch.offset]; rw [if_neg (fun q => toInt_ne w27_0 q.symm)]; rw [if_neg (fun q => toInt_ne w27_1 q.symm)]) (by decide) ?_
        refine go_blk h.1 (is := [.aload_n 0, .aload_n 2]) (pc' := 66) (ls' := [some (.inr (.inr (0, 0))), some (.inl x1), some (.inr (.inr (6, (ix x1))))]) (st' := [.inr (.inr (6, (ix x1))), .inr (.inr (0, 0))]) (m' := m5) (by decide +kernel) rfl ?_
        refine go_callV h.1 (index := 229) (n := 1) (t := 0) (i := 0) (ci := 6) (nf := 7) (cz := (RX6, TX6, 7)) (as := [.inr (.inr (6, (ix x1)))]) (rest := []) (ctr_X6_fishsTelling (xl X) (xA X) (xC X) (xI X) (xk X) (ix x1) m5) (by decide +kernel) rfl rfl wd_v_X6_229 rfl (h.room (by first | decide | omega) (by decide)) h.cl (Nat.le_of_ble_eq_true rfl) puI_ok rfl (fun r66 m66 _ => ?_)
        show Go X (Em X puI) 69 [some (.inr (.inr (0, 0))), some (.inl x1), some (.inr (.inr (6, (ix x1))))] [.inl r66] m66 _
        exact go_iret h.1 h.2.2.2.2 (by decide +kernel)
  · refine go_blk h.1 (is := [.iconst (-1)]) (pc' := 12) (ls' := [some (.inr (.inr (0, 0))), some (.inl x1), none]) (st' := [.inl (-1 : Int32)]) (m' := m5) (by decide +kernel) rfl ?_
    exact go_iret h.1 h.2.2.2.2 (by decide +kernel)
theorem ctr_X6_tell (l : Launch) (A : AR → Nat) (dC : Nat → ClassId) (dI : Nat → Nat → Nat) (cs : Nat → ClassId) (x1 : Int32) (m : Mem) : Ctr l A dC dI cs yX6_tell prog_1_method_24_code 3 (some .int) 4 puI [.inr (.inr (0, 0)), .inl x1] m (f_X6_tell x1 m) :=
  ctr_of (P := P_X6) (by decide +kernel) rfl pt_X6 rfl rfl (fun X hC _ _ _ _ _ hR h0 h1 hr => g_X6_tell ⟨hC, hR, h0, h1, hr⟩ x1 m)

def f_X6_let (x1 : Int32) (m : Mem) : Option (Int32 × Mem) :=
  bnd (f_X5_has x1 m) (fun r5 m5 =>
    if r5 = 0 then
      some ((-1 : Int32), m5)
    else
      if inB x1 5 = true then
        if (m5 6 (ix x1) 0) = (2 : Int32) then
          bnd (f_X6_leaveTrace (5 : Int32) m5) (fun _ m31 =>
            some ((90 : Int32), m31))
        else
          bnd (f_X6_leaveTrace (4 : Int32) m5) (fun _ m39 =>
            some (x1, m39))
      else none)
theorem g_X6_let {X : XT} (h : MX X prog_1_method_25_code P_X6 1 (some .int)) (x1 : Int32) (m : Mem) : Go X (Em X puI) 0 [some (.inr (.inr (0, 0))), some (.inl x1)] [] m (f_X6_let x1 m) := by
  unfold f_X6_let
  refine go_blk h.1 (is := [.aload_n 0, .getfield 21, .iload_n 1]) (pc' := 5) (ls' := [some (.inr (.inr (0, 0))), some (.inl x1)]) (st' := [.inl x1, .inr (.inr (4, 0))]) (m' := m) (by decide +kernel) rfl ?_
  refine go_callV h.1 (index := 83) (n := 1) (t := 4) (i := 0) (ci := 5) (nf := 4) (cz := (RX5, TX5, 4)) (as := [.inl x1]) (rest := []) (ctr_X5_has (xl X) (xA X) (xC X) (xI X) (xk X) x1 m) (by decide +kernel) rfl rfl wd_v_X6_83 rfl (h.room (by first | decide | omega) (by decide)) h.cl (Nat.le_of_ble_eq_true rfl) puI_ok rfl (fun r5 m5 _ => ?_)
  show Go X (Em X puI) 8 [some (.inr (.inr (0, 0))), some (.inl x1)] [.inl r5] m5 _
  refine go_ifne h.1 (off := 5) 13 (by decide +kernel) (by decide) (fun c8 => ?_) (fun c8 => ?_)
  · refine go_blk h.1 (is := [.aload_n 0, .getfield 21, .getfield 86, .iload_n 1]) (pc' := 21) (ls' := [some (.inr (.inr (0, 0))), some (.inl x1)]) (st' := [.inl x1, .inr (.inr (5, 0))]) (m' := m5) (by decide +kernel) rfl ?_
    refine go_aald h.1 (kd := 1) (z := (6, (ix x1))) (by decide +kernel) rfl rfl (by decide) rfl (fun b21 => ?_)
    refine go_blk h.1 (is := [.getfield 90, .iconst 2]) (pc' := 26) (ls' := [some (.inr (.inr (0, 0))), some (.inl x1)]) (st' := [.inl (2 : Int32), .inl (m5 6 (ix x1) 0)]) (m' := m5) (by decide +kernel) rfl ?_
    refine go_icmpne h.1 (off := 11) 37 (by decide +kernel) (by decide) (fun c26 => ?_) (fun c26 => ?_)
    · refine go_blk h.1 (is := [.aload_n 0, .iconst 4]) (pc' := 39) (ls' := [some (.inr (.inr (0, 0))), some (.inl x1)]) (st' := [.inl (4 : Int32), .inr (.inr (0, 0))]) (m' := m5) (by decide +kernel) rfl ?_
      refine go_callV h.1 (index := 232) (n := 1) (t := 0) (i := 0) (ci := 6) (nf := 7) (cz := (RX6, TX6, 7)) (as := [.inl (4 : Int32)]) (rest := []) (ctr_X6_leaveTrace (xl X) (xA X) (xC X) (xI X) (xk X) (4 : Int32) m5) (by decide +kernel) rfl rfl wd_v_X6_232 rfl (h.room (by first | decide | omega) (by decide)) h.cl (Nat.le_of_ble_eq_true rfl) puV_ok rfl (fun r39 m39 _ => ?_)
      show Go X (Em X puI) 42 [some (.inr (.inr (0, 0))), some (.inl x1)] [] m39 _
      refine go_blk h.1 (is := [.iload_n 1]) (pc' := 43) (ls' := [some (.inr (.inr (0, 0))), some (.inl x1)]) (st' := [.inl x1]) (m' := m39) (by decide +kernel) rfl ?_
      exact go_iret h.1 h.2.2.2.2 (by decide +kernel)
    · refine go_blk h.1 (is := [.aload_n 0, .iconst 5]) (pc' := 31) (ls' := [some (.inr (.inr (0, 0))), some (.inl x1)]) (st' := [.inl (5 : Int32), .inr (.inr (0, 0))]) (m' := m5) (by decide +kernel) rfl ?_
      refine go_callV h.1 (index := 232) (n := 1) (t := 0) (i := 0) (ci := 6) (nf := 7) (cz := (RX6, TX6, 7)) (as := [.inl (5 : Int32)]) (rest := []) (ctr_X6_leaveTrace (xl X) (xA X) (xC X) (xI X) (xk X) (5 : Int32) m5) (by decide +kernel) rfl rfl wd_v_X6_232 rfl (h.room (by first | decide | omega) (by decide)) h.cl (Nat.le_of_ble_eq_true rfl) puV_ok rfl (fun r31 m31 _ => ?_)
      show Go X (Em X puI) 34 [some (.inr (.inr (0, 0))), some (.inl x1)] [] m31 _
      refine go_blk h.1 (is := [.bipush 90]) (pc' := 36) (ls' := [some (.inr (.inr (0, 0))), some (.inl x1)]) (st' := [.inl (90 : Int32)]) (m' := m31) (by decide +kernel) rfl ?_
      exact go_iret h.1 h.2.2.2.2 (by decide +kernel)
  · refine go_blk h.1 (is := [.iconst (-1)]) (pc' := 12) (ls' := [some (.inr (.inr (0, 0))), some (.inl x1)]) (st' := [.inl (-1 : Int32)]) (m' := m5) (by decide +kernel) rfl ?_
    exact go_iret h.1 h.2.2.2.2 (by decide +kernel)
theorem ctr_X6_let (l : Launch) (A : AR → Nat) (dC : Nat → ClassId) (dI : Nat → Nat → Nat) (cs : Nat → ClassId) (x1 : Int32) (m : Mem) : Ctr l A dC dI cs yX6_let prog_1_method_25_code 2 (some .int) 1 puI [.inr (.inr (0, 0)), .inl x1] m (f_X6_let x1 m) :=
  ctr_of (P := P_X6) (by decide +kernel) rfl pt_X6 rfl rfl (fun X hC _ _ _ _ _ hR h0 h1 hr => g_X6_let ⟨hC, hR, h0, h1, hr⟩ x1 m)

def f_X6_as (x1 : Int32) (x2 : Int32) (m : Mem) : Option (Int32 × Mem) :=
  bnd (f_X5_has x1 (mset m 0 0 6 (0 : Int32))) (fun r10 m10 =>
    if r10 = 0 then
      some ((-1 : Int32), m10)
    else
      bnd (f_X6_isWithin x2 (0 : Int32) (2 : Int32) m10) (fun r21 m21 =>
        if r21 = 0 then
          some ((-2 : Int32), m21)
        else
          if inB x1 5 = true then
            if (m21 6 (ix x1) 0) < x2 then
              bnd (f_X6_faulty (2 : Int32) m21) (fun r52 m52 =>
                some (r52, m52))
            else
              some ((1 : Int32), m21)
          else none))
theorem g_X6_as {X : XT} (h : MX X prog_1_method_26_code P_X6 1 (some .int)) (x1 : Int32) (x2 : Int32) (m : Mem) : Go X (Em X puI) 0 [some (.inr (.inr (0, 0))), some (.inl x1), some (.inl x2)] [] m (f_X6_as x1 x2 m) := by
  unfold f_X6_as
  refine go_blk h.1 (is := [.aload_n 0, .iconst 0, .putfield 50, .aload_n 0, .getfield 21, .iload_n 1]) (pc' := 10) (ls' := [some (.inr (.inr (0, 0))), some (.inl x1), some (.inl x2)]) (st' := [.inl x1, .inr (.inr (4, 0))]) (m' := (mset m 0 0 6 (0 : Int32))) (by decide +kernel) rfl ?_
  refine go_callV h.1 (index := 83) (n := 1) (t := 4) (i := 0) (ci := 5) (nf := 4) (cz := (RX5, TX5, 4)) (as := [.inl x1]) (rest := []) (ctr_X5_has (xl X) (xA X) (xC X) (xI X) (xk X) x1 (mset m 0 0 6 (0 : Int32))) (by decide +kernel) rfl rfl wd_v_X6_83 rfl (h.room (by first | decide | omega) (by decide)) h.cl (Nat.le_of_ble_eq_true rfl) puI_ok rfl (fun r10 m10 _ => ?_)
  show Go X (Em X puI) 13 [some (.inr (.inr (0, 0))), some (.inl x1), some (.inl x2)] [.inl r10] m10 _
  refine go_ifne h.1 (off := 5) 18 (by decide +kernel) (by decide) (fun c13 => ?_) (fun c13 => ?_)
  · refine go_blk h.1 (is := [.iload_n 2, .iconst 0, .iconst 2]) (pc' := 21) (ls' := [some (.inr (.inr (0, 0))), some (.inl x1), some (.inl x2)]) (st' := [.inl (2 : Int32), .inl (0 : Int32), .inl x2]) (m' := m10) (by decide +kernel) rfl ?_
    refine go_callS h.1 (index := 111) (n := 3) (as := [.inl x2, .inl (0 : Int32), .inl (2 : Int32)]) (rest := []) (ctr_X6_isWithin (xl X) (xA X) (xC X) (xI X) (xk X) x2 (0 : Int32) (2 : Int32) m10) (by decide +kernel) wd_s_X6_111 rfl (h.room (by first | decide | omega) (by decide)) h.cl (Nat.le_of_ble_eq_true rfl) puI_ok rfl (fun r21 m21 _ => ?_)
    show Go X (Em X puI) 24 [some (.inr (.inr (0, 0))), some (.inl x1), some (.inl x2)] [.inl r21] m21 _
    refine go_ifne h.1 (off := 6) 30 (by decide +kernel) (by decide) (fun c24 => ?_) (fun c24 => ?_)
    · refine go_blk h.1 (is := [.aload_n 0, .getfield 21, .getfield 86, .iload_n 1]) (pc' := 38) (ls' := [some (.inr (.inr (0, 0))), some (.inl x1), some (.inl x2)]) (st' := [.inl x1, .inr (.inr (5, 0))]) (m' := m21) (by decide +kernel) rfl ?_
      refine go_aald h.1 (kd := 1) (z := (6, (ix x1))) (by decide +kernel) rfl rfl (by decide) rfl (fun b38 => ?_)
      refine go_blk h.1 (is := [.getfield 90, .iload_n 2]) (pc' := 43) (ls' := [some (.inr (.inr (0, 0))), some (.inl x1), some (.inl x2)]) (st' := [.inl x2, .inl (m21 6 (ix x1) 0)]) (m' := m21) (by decide +kernel) rfl ?_
      refine go_icmplt h.1 (off := 7) 50 (by decide +kernel) (by decide) (fun c43 => ?_) (fun c43 => ?_)
      · refine go_blk h.1 (is := [.aload_n 0, .iconst 2]) (pc' := 52) (ls' := [some (.inr (.inr (0, 0))), some (.inl x1), some (.inl x2)]) (st' := [.inl (2 : Int32), .inr (.inr (0, 0))]) (m' := m21) (by decide +kernel) rfl ?_
        refine go_callV h.1 (index := 64) (n := 1) (t := 0) (i := 0) (ci := 6) (nf := 7) (cz := (RX6, TX6, 7)) (as := [.inl (2 : Int32)]) (rest := []) (ctr_X6_faulty (xl X) (xA X) (xC X) (xI X) (xk X) (2 : Int32) m21) (by decide +kernel) rfl rfl wd_v_X6_64 rfl (h.room (by first | decide | omega) (by decide)) h.cl (Nat.le_of_ble_eq_true rfl) puI_ok rfl (fun r52 m52 _ => ?_)
        show Go X (Em X puI) 55 [some (.inr (.inr (0, 0))), some (.inl x1), some (.inl x2)] [.inl r52] m52 _
        exact go_iret h.1 h.2.2.2.2 (by decide +kernel)
      · refine go_blk h.1 (is := [.iconst 1]) (pc' := 47) (ls' := [some (.inr (.inr (0, 0))), some (.inl x1), some (.inl x2)]) (st' := [.inl (1 : Int32)]) (m' := m21) (by decide +kernel) rfl ?_
        refine go_goto h.1 (off := 8) 55 (by decide +kernel) (by decide) ?_
        exact go_iret h.1 h.2.2.2.2 (by decide +kernel)
    · refine go_blk h.1 (is := [.bipush (-2)]) (pc' := 29) (ls' := [some (.inr (.inr (0, 0))), some (.inl x1), some (.inl x2)]) (st' := [.inl (-2 : Int32)]) (m' := m21) (by decide +kernel) rfl ?_
      exact go_iret h.1 h.2.2.2.2 (by decide +kernel)
  · refine go_blk h.1 (is := [.iconst (-1)]) (pc' := 17) (ls' := [some (.inr (.inr (0, 0))), some (.inl x1), some (.inl x2)]) (st' := [.inl (-1 : Int32)]) (m' := m10) (by decide +kernel) rfl ?_
    exact go_iret h.1 h.2.2.2.2 (by decide +kernel)
theorem ctr_X6_as (l : Launch) (A : AR → Nat) (dC : Nat → ClassId) (dI : Nat → Nat → Nat) (cs : Nat → ClassId) (x1 : Int32) (x2 : Int32) (m : Mem) : Ctr l A dC dI cs yX6_as prog_1_method_26_code 3 (some .int) 1 puI [.inr (.inr (0, 0)), .inl x1, .inl x2] m (f_X6_as x1 x2 m) :=
  ctr_of (P := P_X6) (by decide +kernel) rfl pt_X6 rfl rfl (fun X hC _ _ _ _ _ hR h0 h1 hr => g_X6_as ⟨hC, hR, h0, h1, hr⟩ x1 x2 m)

def f_X6_trace (m : Mem) : Option (Int32 × Mem) :=
  some ((m 0 0 5), m)
theorem g_X6_trace {X : XT} (h : MX X prog_1_method_27_code P_X6 0 (some .int)) (m : Mem) : Go X (Em X puI) 0 [some (.inr (.inr (0, 0)))] [] m (f_X6_trace m) := by
  unfold f_X6_trace
  refine go_blk h.1 (is := [.aload_n 0, .getfield 46]) (pc' := 4) (ls' := [some (.inr (.inr (0, 0)))]) (st' := [.inl (m 0 0 5)]) (m' := m) (by decide +kernel) rfl ?_
  exact go_iret h.1 h.2.2.2.2 (by decide +kernel)
theorem ctr_X6_trace (l : Launch) (A : AR → Nat) (dC : Nat → ClassId) (dI : Nat → Nat → Nat) (cs : Nat → ClassId) (m : Mem) : Ctr l A dC dI cs yX6_trace prog_1_method_27_code 1 (some .int) 0 puI [.inr (.inr (0, 0))] m (f_X6_trace m) :=
  ctr_of (P := P_X6) (by decide +kernel) rfl pt_X6 rfl rfl (fun X hC _ _ _ _ _ hR h0 h1 hr => g_X6_trace ⟨hC, hR, h0, h1, hr⟩ m)

def f_X6_fault (m : Mem) : Option (Int32 × Mem) :=
  some ((m 0 0 6), m)
theorem g_X6_fault {X : XT} (h : MX X prog_1_method_28_code P_X6 0 (some .int)) (m : Mem) : Go X (Em X puI) 0 [some (.inr (.inr (0, 0)))] [] m (f_X6_fault m) := by
  unfold f_X6_fault
  refine go_blk h.1 (is := [.aload_n 0, .getfield 50]) (pc' := 4) (ls' := [some (.inr (.inr (0, 0)))]) (st' := [.inl (m 0 0 6)]) (m' := m) (by decide +kernel) rfl ?_
  exact go_iret h.1 h.2.2.2.2 (by decide +kernel)
theorem ctr_X6_fault (l : Launch) (A : AR → Nat) (dC : Nat → ClassId) (dI : Nat → Nat → Nat) (cs : Nat → ClassId) (m : Mem) : Ctr l A dC dI cs yX6_fault prog_1_method_28_code 1 (some .int) 0 puI [.inr (.inr (0, 0))] m (f_X6_fault m) :=
  ctr_of (P := P_X6) (by decide +kernel) rfl pt_X6 rfl rfl (fun X hC _ _ _ _ _ hR h0 h1 hr => g_X6_fault ⟨hC, hR, h0, h1, hr⟩ m)

def f_X6_many (x1 : Int32) (m : Mem) : Option (Int32 × Mem) :=
  if x1 = (0 : Int32) then
    some ((m 4 0 1), m)
  else
    if x1 = (1 : Int32) then
      some ((m 4 0 2), m)
    else
      if x1 = (2 : Int32) then
        some ((m 4 0 3), m)
      else
        if x1 = (3 : Int32) then
          some ((m 20 0 2), m)
        else
          some ((-2 : Int32), m)
theorem g_X6_many {X : XT} (h : MX X prog_1_method_29_code P_X6 0 (some .int)) (x1 : Int32) (m : Mem) : Go X (Em X puI) 0 [some (.inr (.inr (0, 0))), some (.inl x1)] [] m (f_X6_many x1 m) := by
  unfold f_X6_many
  refine go_blk h.1 (is := [.iload_n 1]) (pc' := 1) (ls' := [some (.inr (.inr (0, 0))), some (.inl x1)]) (st' := [.inl x1]) (m' := m) (by decide +kernel) rfl ?_
  refine go_ite (fun w1_0 => ?_) (fun w1_0 => ?_)
  · refine go_tsIn h.1 (dflt := 63) (lo := 0) (hi := 3) (offs := #[31, 39, 47, 55]) (len := 31) (off := 31) (0 : Int32) 32 w1_0 (by decide +kernel) (by decide) rfl (by decide) ?_
    refine go_blk h.1 (is := [.aload_n 0, .getfield 21, .getfield 82]) (pc' := 39) (ls' := [some (.inr (.inr (0, 0))), some (.inl x1)]) (st' := [.inl (m 4 0 1)]) (m' := m) (by decide +kernel) rfl ?_
    exact go_iret h.1 h.2.2.2.2 (by decide +kernel)
  · refine go_ite (fun w1_1 => ?_) (fun w1_1 => ?_)
    · refine go_tsIn h.1 (dflt := 63) (lo := 0) (hi := 3) (offs := #[31, 39, 47, 55]) (len := 31) (off := 39) (1 : Int32) 40 w1_1 (by decide +kernel) (by decide) rfl (by decide) ?_
      refine go_blk h.1 (is := [.aload_n 0, .getfield 21, .getfield 115]) (pc' := 47) (ls' := [some (.inr (.inr (0, 0))), some (.inl x1)]) (st' := [.inl (m 4 0 2)]) (m' := m) (by decide +kernel) rfl ?_
      exact go_iret h.1 h.2.2.2.2 (by decide +kernel)
    · refine go_ite (fun w1_2 => ?_) (fun w1_2 => ?_)
      · refine go_tsIn h.1 (dflt := 63) (lo := 0) (hi := 3) (offs := #[31, 39, 47, 55]) (len := 31) (off := 47) (2 : Int32) 48 w1_2 (by decide +kernel) (by decide) rfl (by decide) ?_
        refine go_blk h.1 (is := [.aload_n 0, .getfield 21, .getfield 118]) (pc' := 55) (ls' := [some (.inr (.inr (0, 0))), some (.inl x1)]) (st' := [.inl (m 4 0 3)]) (m' := m) (by decide +kernel) rfl ?_
        exact go_iret h.1 h.2.2.2.2 (by decide +kernel)
      · refine go_ite (fun w1_3 => ?_) (fun w1_3 => ?_)
        · refine go_tsIn h.1 (dflt := 63) (lo := 0) (hi := 3) (offs := #[31, 39, 47, 55]) (len := 31) (off := 55) (3 : Int32) 56 w1_3 (by decide +kernel) (by decide) rfl (by decide) ?_
          refine go_blk h.1 (is := [.aload_n 0, .getfield 42, .getfield 76]) (pc' := 63) (ls' := [some (.inr (.inr (0, 0))), some (.inl x1)]) (st' := [.inl (m 20 0 2)]) (m' := m) (by decide +kernel) rfl ?_
          exact go_iret h.1 h.2.2.2.2 (by decide +kernel)
        · refine go_tsOut h.1 (dflt := 63) (lo := 0) (hi := 3) (offs := #[31, 39, 47, 55]) (len := 31) 64 (by decide +kernel) (sw_out (n := 4) (by decide) ((lt_s (lt_s (lt_s (lt_s lt_0 w1_0) w1_1) w1_2) w1_3) : ∀ j : Nat, j < 4 → ¬ x1 = Int32.ofInt (0 + (j : Int)))) (by decide) ?_
          refine go_blk h.1 (is := [.bipush (-2)]) (pc' := 66) (ls' := [some (.inr (.inr (0, 0))), some (.inl x1)]) (st' := [.inl (-2 : Int32)]) (m' := m) (by decide +kernel) rfl ?_
          exact go_iret h.1 h.2.2.2.2 (by decide +kernel)
theorem ctr_X6_many (l : Launch) (A : AR → Nat) (dC : Nat → ClassId) (dI : Nat → Nat → Nat) (cs : Nat → ClassId) (x1 : Int32) (m : Mem) : Ctr l A dC dI cs yX6_many prog_1_method_29_code 2 (some .int) 0 puI [.inr (.inr (0, 0)), .inl x1] m (f_X6_many x1 m) :=
  ctr_of (P := P_X6) (by decide +kernel) rfl pt_X6 rfl rfl (fun X hC _ _ _ _ _ hR h0 h1 hr => g_X6_many ⟨hC, hR, h0, h1, hr⟩ x1 m)

