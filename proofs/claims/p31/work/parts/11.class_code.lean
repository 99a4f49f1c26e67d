/-! ===== printed by wip/p31/tr.py out of the listing ===== -/
def f_X6_isWithin (x0 : Int32) (x1 : Int32) (x2 : Int32) (m : Mem) : Option (Int32 × Mem) :=
  if x0 < x1 then
    some ((0 : Int32), m)
  else
    if x2 < x0 then
      some ((0 : Int32), m)
    else
      some ((1 : Int32), m)
theorem g_X6_isWithin {X : XT} (h : MX X prog_1_method_30_code P_X6 0 (some .boolean)) (x0 : Int32) (x1 : Int32) (x2 : Int32) (m : Mem) : Go X (Em X puI) 0 [some (.inl x0), some (.inl x1), some (.inl x2)] [] m (f_X6_isWithin x0 x1 x2 m) := by
  unfold f_X6_isWithin
  refine go_blk h.1 (is := [.iload_n 0, .iload_n 1]) (pc' := 2) (ls' := [some (.inl x0), some (.inl x1), some (.inl x2)]) (st' := [.inl x1, .inl x0]) (m' := m) (by decide +kernel) rfl ?_
  refine go_icmplt h.1 (off := 12) 14 (by decide +kernel) (by decide) (fun c2 => ?_) (fun c2 => ?_)
  · refine go_blk h.1 (is := [.iconst 0]) (pc' := 15) (ls' := [some (.inl x0), some (.inl x1), some (.inl x2)]) (st' := [.inl (0 : Int32)]) (m' := m) (by decide +kernel) rfl ?_
    exact go_zret h.1 h.2.2.2.2 (Or.inl rfl) (by decide +kernel)
  · refine go_blk h.1 (is := [.iload_n 0, .iload_n 2]) (pc' := 7) (ls' := [some (.inl x0), some (.inl x1), some (.inl x2)]) (st' := [.inl x2, .inl x0]) (m' := m) (by decide +kernel) rfl ?_
    refine go_icmpgt h.1 (off := 7) 14 (by decide +kernel) (by decide) (fun c7 => ?_) (fun c7 => ?_)
    · refine go_blk h.1 (is := [.iconst 0]) (pc' := 15) (ls' := [some (.inl x0), some (.inl x1), some (.inl x2)]) (st' := [.inl (0 : Int32)]) (m' := m) (by decide +kernel) rfl ?_
      exact go_zret h.1 h.2.2.2.2 (Or.inl rfl) (by decide +kernel)
    · refine go_blk h.1 (is := [.iconst 1]) (pc' := 11) (ls' := [some (.inl x0), some (.inl x1), some (.inl x2)]) (st' := [.inl (1 : Int32)]) (m' := m) (by decide +kernel) rfl ?_
      refine go_goto h.1 (off := 4) 15 (by decide +kernel) (by decide) ?_
      exact go_zret h.1 h.2.2.2.2 (Or.inr rfl) (by decide +kernel)
theorem ctr_X6_isWithin (Z : ZT) (x0 : Int32) (x1 : Int32) (x2 : Int32) (m : Mem) : Ctr Z yX6_isWithin prog_1_method_30_code 3 (some .boolean) 0 puI [.inl x0, .inl x1, .inl x2] m (f_X6_isWithin x0 x1 x2 m) :=
  ctr_of (P := P_X6) (by decide +kernel) rfl pt_X6 rfl rfl (fun X hC hZ hR h0 h1 hr => by subst hZ; exact g_X6_isWithin ⟨hC, hR, h0, h1, hr⟩ x0 x1 x2 m)

def f_X6_isSheet (x0 : Int32) (m : Mem) : Option (Int32 × Mem) :=
  bnd (f_X6_isWithin x0 (0 : Int32) (3 : Int32) m) (fun r3 m3 =>
    if r3 = 0 ∨ r3 = 1 then some (r3, m3) else none)
theorem g_X6_isSheet {X : XT} (h : MX X prog_1_method_31_code P_X6 1 (some .boolean)) (x0 : Int32) (m : Mem) : Go X (Em X puI) 0 [some (.inl x0)] [] m (f_X6_isSheet x0 m) := by
  unfold f_X6_isSheet
  refine go_blk h.1 (is := [.iload_n 0, .iconst 0, .iconst 3]) (pc' := 3) (ls' := [some (.inl x0)]) (st' := [.inl (3 : Int32), .inl (0 : Int32), .inl x0]) (m' := m) (by decide +kernel) rfl ?_
  refine go_callS h.1 (index := 111) (n := 3) (as := [.inl x0, .inl (0 : Int32), .inl (3 : Int32)]) (rest := []) (ctr_X6_isWithin (xZ X) x0 (0 : Int32) (3 : Int32) m) (by decide +kernel) wd_s_X6_111 rfl (h.room (by first | decide | omega) (by decide)) h.cl (Nat.le_of_ble_eq_true rfl) puI_ok rfl (fun r3 m3 _ => ?_)
  show Go X (Em X puI) 6 [some (.inl x0)] [.inl r3] m3 _
  exact go_zretG h.1 h.2.2.2.2 (by decide +kernel)
theorem ctr_X6_isSheet (Z : ZT) (x0 : Int32) (m : Mem) : Ctr Z yX6_isSheet prog_1_method_31_code 1 (some .boolean) 1 puI [.inl x0] m (f_X6_isSheet x0 m) :=
  ctr_of (P := P_X6) (by decide +kernel) rfl pt_X6 rfl rfl (fun X hC hZ hR h0 h1 hr => by subst hZ; exact g_X6_isSheet ⟨hC, hR, h0, h1, hr⟩ x0 m)

def f_X6_isLane (x0 : Int32) (m : Mem) : Option (Int32 × Mem) :=
  bnd (f_X6_isWithin x0 (0 : Int32) (2 : Int32) m) (fun r3 m3 =>
    if r3 = 0 ∨ r3 = 1 then some (r3, m3) else none)
theorem g_X6_isLane {X : XT} (h : MX X prog_1_method_32_code P_X6 1 (some .boolean)) (x0 : Int32) (m : Mem) : Go X (Em X puI) 0 [some (.inl x0)] [] m (f_X6_isLane x0 m) := by
  unfold f_X6_isLane
  refine go_blk h.1 (is := [.iload_n 0, .iconst 0, .iconst 2]) (pc' := 3) (ls' := [some (.inl x0)]) (st' := [.inl (2 : Int32), .inl (0 : Int32), .inl x0]) (m' := m) (by decide +kernel) rfl ?_
  refine go_callS h.1 (index := 111) (n := 3) (as := [.inl x0, .inl (0 : Int32), .inl (2 : Int32)]) (rest := []) (ctr_X6_isWithin (xZ X) x0 (0 : Int32) (2 : Int32) m) (by decide +kernel) wd_s_X6_111 rfl (h.room (by first | decide | omega) (by decide)) h.cl (Nat.le_of_ble_eq_true rfl) puI_ok rfl (fun r3 m3 _ => ?_)
  show Go X (Em X puI) 6 [some (.inl x0)] [.inl r3] m3 _
  exact go_zretG h.1 h.2.2.2.2 (by decide +kernel)
theorem ctr_X6_isLane (Z : ZT) (x0 : Int32) (m : Mem) : Ctr Z yX6_isLane prog_1_method_32_code 1 (some .boolean) 1 puI [.inl x0] m (f_X6_isLane x0 m) :=
  ctr_of (P := P_X6) (by decide +kernel) rfl pt_X6 rfl rfl (fun X hC hZ hR h0 h1 hr => by subst hZ; exact g_X6_isLane ⟨hC, hR, h0, h1, hr⟩ x0 m)

def f_X4_holds (w : Nat) (x1 : Int32) (x2 : Int32) (m : Mem) : Option (Int32 × Mem) :=
  if x1 < 0 then
    some ((0 : Int32), m)
  else
    if x2 < 0 then
      some ((0 : Int32), m)
    else
      if ((m 2 w 3) - x2) < x1 then
        some ((0 : Int32), m)
      else
        some ((1 : Int32), m)
theorem g_X4_holds {X : XT} (h : MX X prog_6_method_3_code P_X4 0 (some .boolean)) (w : Nat) (x1 : Int32) (x2 : Int32) (m : Mem) : Go X (Em X puI) 0 [some (.inr (.inr (2, w))), some (.inl x1), some (.inl x2)] [] m (f_X4_holds w x1 x2 m) := by
  unfold f_X4_holds
  refine go_blk h.1 (is := [.iload_n 1]) (pc' := 1) (ls' := [some (.inr (.inr (2, w))), some (.inl x1), some (.inl x2)]) (st' := [.inl x1]) (m' := m) (by decide +kernel) rfl ?_
  refine go_iflt h.1 (off := 21) 22 (by decide +kernel) (by decide) (fun c1 => ?_) (fun c1 => ?_)
  · refine go_blk h.1 (is := [.iconst 0]) (pc' := 23) (ls' := [some (.inr (.inr (2, w))), some (.inl x1), some (.inl x2)]) (st' := [.inl (0 : Int32)]) (m' := m) (by decide +kernel) rfl ?_
    exact go_zret h.1 h.2.2.2.2 (Or.inl rfl) (by decide +kernel)
  · refine go_blk h.1 (is := [.iload_n 2]) (pc' := 5) (ls' := [some (.inr (.inr (2, w))), some (.inl x1), some (.inl x2)]) (st' := [.inl x2]) (m' := m) (by decide +kernel) rfl ?_
    refine go_iflt h.1 (off := 17) 22 (by decide +kernel) (by decide) (fun c5 => ?_) (fun c5 => ?_)
    · refine go_blk h.1 (is := [.iconst 0]) (pc' := 23) (ls' := [some (.inr (.inr (2, w))), some (.inl x1), some (.inl x2)]) (st' := [.inl (0 : Int32)]) (m' := m) (by decide +kernel) rfl ?_
      exact go_zret h.1 h.2.2.2.2 (Or.inl rfl) (by decide +kernel)
    · refine go_blk h.1 (is := [.iload_n 1, .aload_n 0, .getfield 23, .iload_n 2, .isub]) (pc' := 15) (ls' := [some (.inr (.inr (2, w))), some (.inl x1), some (.inl x2)]) (st' := [.inl ((m 2 w 3) - x2), .inl x1]) (m' := m) (by decide +kernel) rfl ?_
      refine go_icmpgt h.1 (off := 7) 22 (by decide +kernel) (by decide) (fun c15 => ?_) (fun c15 => ?_)
      · refine go_blk h.1 (is := [.iconst 0]) (pc' := 23) (ls' := [some (.inr (.inr (2, w))), some (.inl x1), some (.inl x2)]) (st' := [.inl (0 : Int32)]) (m' := m) (by decide +kernel) rfl ?_
        exact go_zret h.1 h.2.2.2.2 (Or.inl rfl) (by decide +kernel)
      · refine go_blk h.1 (is := [.iconst 1]) (pc' := 19) (ls' := [some (.inr (.inr (2, w))), some (.inl x1), some (.inl x2)]) (st' := [.inl (1 : Int32)]) (m' := m) (by decide +kernel) rfl ?_
        refine go_goto h.1 (off := 4) 23 (by decide +kernel) (by decide) ?_
        exact go_zret h.1 h.2.2.2.2 (Or.inr rfl) (by decide +kernel)
theorem ctr_X4_holds (Z : ZT) (w : Nat) (x1 : Int32) (x2 : Int32) (m : Mem) : Ctr Z yX4_holds prog_6_method_3_code 3 (some .boolean) 0 puI [.inr (.inr (2, w)), .inl x1, .inl x2] m (f_X4_holds w x1 x2 m) :=
  ctr_of (P := P_X4) (by decide +kernel) rfl pt_X4 rfl rfl (fun X hC hZ hR h0 h1 hr => by subst hZ; exact g_X4_holds ⟨hC, hR, h0, h1, hr⟩ w x1 x2 m)

def f_X4_faultAt (w : Nat) (x1 : Int32) (x2 : Int32) (x3 : Int32) (m : Mem) : Option (Int32 × Mem) :=
  if (m 2 w 1) = 0 then
    some ((1 : Int32), m)
  else
    if (m 2 w 2) = x1 then
      if 0 ≤ x3 then
        bnd (f_X4_holds w x2 x3 m) (fun r28 m28 =>
          if r28 = 0 then
            some ((3 : Int32), m28)
          else
            some ((0 : Int32), m28))
      else
        some ((4 : Int32), m)
    else
      some ((2 : Int32), m)
theorem g_X4_faultAt {X : XT} (h : MX X prog_6_method_4_code P_X4 1 (some .int)) (w : Nat) (x1 : Int32) (x2 : Int32) (x3 : Int32) (m : Mem) : Go X (Em X puI) 0 [some (.inr (.inr (2, w))), some (.inl x1), some (.inl x2), some (.inl x3)] [] m (f_X4_faultAt w x1 x2 x3 m) := by
  unfold f_X4_faultAt
  refine go_blk h.1 (is := [.aload_n 0, .getfield 15]) (pc' := 4) (ls' := [some (.inr (.inr (2, w))), some (.inl x1), some (.inl x2), some (.inl x3)]) (st' := [.inl (m 2 w 1)]) (m' := m) (by decide +kernel) rfl ?_
  refine go_ifne h.1 (off := 5) 9 (by decide +kernel) (by decide) (fun c4 => ?_) (fun c4 => ?_)
  · refine go_blk h.1 (is := [.aload_n 0, .getfield 19, .iload_n 1]) (pc' := 14) (ls' := [some (.inr (.inr (2, w))), some (.inl x1), some (.inl x2), some (.inl x3)]) (st' := [.inl x1, .inl (m 2 w 2)]) (m' := m) (by decide +kernel) rfl ?_
    refine go_icmpeq h.1 (off := 5) 19 (by decide +kernel) (by decide) (fun c14 => ?_) (fun c14 => ?_)
    · refine go_blk h.1 (is := [.iload_n 3]) (pc' := 20) (ls' := [some (.inr (.inr (2, w))), some (.inl x1), some (.inl x2), some (.inl x3)]) (st' := [.inl x3]) (m' := m) (by decide +kernel) rfl ?_
      refine go_ifge h.1 (off := 5) 25 (by decide +kernel) (by decide) (fun c20 => ?_) (fun c20 => ?_)
      · refine go_blk h.1 (is := [.aload_n 0, .iload_n 2, .iload_n 3]) (pc' := 28) (ls' := [some (.inr (.inr (2, w))), some (.inl x1), some (.inl x2), some (.inl x3)]) (st' := [.inl x3, .inl x2, .inr (.inr (2, w))]) (m' := m) (by decide +kernel) rfl ?_
        refine go_callV h.1 (index := 41) (n := 2) (t := 2) (i := w) (ci := 4) (nf := 4) (cz := (RX4, TX4, 4)) (as := [.inl x2, .inl x3]) (rest := []) (ctr_X4_holds (xZ X) w x2 x3 m) (by decide +kernel) rfl rfl wd_v_X4_41 rfl (h.room (by first | decide | omega) (by decide)) h.cl (Nat.le_of_ble_eq_true rfl) puI_ok rfl (fun r28 m28 _ => ?_)
        show Go X (Em X puI) 31 [some (.inr (.inr (2, w))), some (.inl x1), some (.inl x2), some (.inl x3)] [.inl r28] m28 _
        refine go_ifeq h.1 (off := 7) 38 (by decide +kernel) (by decide) (fun c31 => ?_) (fun c31 => ?_)
        · refine go_blk h.1 (is := [.iconst 3]) (pc' := 39) (ls' := [some (.inr (.inr (2, w))), some (.inl x1), some (.inl x2), some (.inl x3)]) (st' := [.inl (3 : Int32)]) (m' := m28) (by decide +kernel) rfl ?_
          exact go_iret h.1 h.2.2.2.2 (by decide +kernel)
        · refine go_blk h.1 (is := [.iconst 0]) (pc' := 35) (ls' := [some (.inr (.inr (2, w))), some (.inl x1), some (.inl x2), some (.inl x3)]) (st' := [.inl (0 : Int32)]) (m' := m28) (by decide +kernel) rfl ?_
          refine go_goto h.1 (off := 4) 39 (by decide +kernel) (by decide) ?_
          exact go_iret h.1 h.2.2.2.2 (by decide +kernel)
      · refine go_blk h.1 (is := [.iconst 4]) (pc' := 24) (ls' := [some (.inr (.inr (2, w))), some (.inl x1), some (.inl x2), some (.inl x3)]) (st' := [.inl (4 : Int32)]) (m' := m) (by decide +kernel) rfl ?_
        exact go_iret h.1 h.2.2.2.2 (by decide +kernel)
    · refine go_blk h.1 (is := [.iconst 2]) (pc' := 18) (ls' := [some (.inr (.inr (2, w))), some (.inl x1), some (.inl x2), some (.inl x3)]) (st' := [.inl (2 : Int32)]) (m' := m) (by decide +kernel) rfl ?_
      exact go_iret h.1 h.2.2.2.2 (by decide +kernel)
  · refine go_blk h.1 (is := [.iconst 1]) (pc' := 8) (ls' := [some (.inr (.inr (2, w))), some (.inl x1), some (.inl x2), some (.inl x3)]) (st' := [.inl (1 : Int32)]) (m' := m) (by decide +kernel) rfl ?_
    exact go_iret h.1 h.2.2.2.2 (by decide +kernel)
theorem ctr_X4_faultAt (Z : ZT) (w : Nat) (x1 : Int32) (x2 : Int32) (x3 : Int32) (m : Mem) : Ctr Z yX4_faultAt prog_6_method_4_code 4 (some .int) 1 puI [.inr (.inr (2, w)), .inl x1, .inl x2, .inl x3] m (f_X4_faultAt w x1 x2 x3 m) :=
  ctr_of (P := P_X4) (by decide +kernel) rfl pt_X4 rfl rfl (fun X hC hZ hR h0 h1 hr => by subst hZ; exact g_X4_faultAt ⟨hC, hR, h0, h1, hr⟩ w x1 x2 x3 m)

def f_X4_at (w : Nat) (x1 : Int32) (m : Mem) : Option (Int32 × Mem) :=
  bnd (f_X4_holds w x1 (1 : Int32) m) (fun r3 m3 =>
    if r3 = 0 then
      some ((0 : Int32), m3)
    else
      if inB x1 60 = true then
        some ((m3 3 w (ix x1)), m3)
      else none)
theorem g_X4_at {X : XT} (h : MX X prog_6_method_5_code P_X4 1 (some .int)) (w : Nat) (x1 : Int32) (m : Mem) : Go X (Em X puI) 0 [some (.inr (.inr (2, w))), some (.inl x1)] [] m (f_X4_at w x1 m) := by
  unfold f_X4_at
  refine go_blk h.1 (is := [.aload_n 0, .iload_n 1, .iconst 1]) (pc' := 3) (ls' := [some (.inr (.inr (2, w))), some (.inl x1)]) (st' := [.inl (1 : Int32), .inl x1, .inr (.inr (2, w))]) (m' := m) (by decide +kernel) rfl ?_
  refine go_callV h.1 (index := 41) (n := 2) (t := 2) (i := w) (ci := 4) (nf := 4) (cz := (RX4, TX4, 4)) (as := [.inl x1, .inl (1 : Int32)]) (rest := []) (ctr_X4_holds (xZ X) w x1 (1 : Int32) m) (by decide +kernel) rfl rfl wd_v_X4_41 rfl (h.room (by first | decide | omega) (by decide)) h.cl (Nat.le_of_ble_eq_true rfl) puI_ok rfl (fun r3 m3 _ => ?_)
  show Go X (Em X puI) 6 [some (.inr (.inr (2, w))), some (.inl x1)] [.inl r3] m3 _
  refine go_ifeq h.1 (off := 12) 18 (by decide +kernel) (by decide) (fun c6 => ?_) (fun c6 => ?_)
  · refine go_blk h.1 (is := [.iconst 0]) (pc' := 19) (ls' := [some (.inr (.inr (2, w))), some (.inl x1)]) (st' := [.inl (0 : Int32)]) (m' := m3) (by decide +kernel) rfl ?_
    exact go_iret h.1 h.2.2.2.2 (by decide +kernel)
  · refine go_blk h.1 (is := [.aload_n 0, .getfield 9, .iload_n 1]) (pc' := 14) (ls' := [some (.inr (.inr (2, w))), some (.inl x1)]) (st' := [.inl x1, .inr (.inr (3, w))]) (m' := m3) (by decide +kernel) rfl ?_
    refine go_iald h.1 (by decide +kernel) rfl rfl (fun b14 => ?_)
    show Go X (Em X puI) 15 [some (.inr (.inr (2, w))), some (.inl x1)] [.inl (m3 3 w (ix x1))] m3 _
    refine go_goto h.1 (off := 4) 19 (by decide +kernel) (by decide) ?_
    exact go_iret h.1 h.2.2.2.2 (by decide +kernel)
theorem ctr_X4_at (Z : ZT) (w : Nat) (x1 : Int32) (m : Mem) : Ctr Z yX4_at prog_6_method_5_code 2 (some .int) 1 puI [.inr (.inr (2, w)), .inl x1] m (f_X4_at w x1 m) :=
  ctr_of (P := P_X4) (by decide +kernel) rfl pt_X4 rfl rfl (fun X hC hZ hR h0 h1 hr => by subst hZ; exact g_X4_at ⟨hC, hR, h0, h1, hr⟩ w x1 m)

def f_X6_isDigit (x0 : Int32) (x1 : Int32) (x2 : Int32) (m : Mem) : Option (Int32 × Mem) :=
  bnd (f_X6_isWithin x0 ((48 : Int32) + x1) ((48 : Int32) + x2) m) (fun r9 m9 =>
    if r9 = 0 ∨ r9 = 1 then some (r9, m9) else none)
theorem g_X6_isDigit {X : XT} (h : MX X prog_1_method_48_code P_X6 1 (some .boolean)) (x0 : Int32) (x1 : Int32) (x2 : Int32) (m : Mem) : Go X (Em X puI) 0 [some (.inl x0), some (.inl x1), some (.inl x2)] [] m (f_X6_isDigit x0 x1 x2 m) := by
  unfold f_X6_isDigit
  refine go_blk h.1 (is := [.iload_n 0, .bipush 48, .iload_n 1, .iadd, .bipush 48, .iload_n 2, .iadd]) (pc' := 9) (ls' := [some (.inl x0), some (.inl x1), some (.inl x2)]) (st' := [.inl ((48 : Int32) + x2), .inl ((48 : Int32) + x1), .inl x0]) (m' := m) (by decide +kernel) rfl ?_
  refine go_callS h.1 (index := 111) (n := 3) (as := [.inl x0, .inl ((48 : Int32) + x1), .inl ((48 : Int32) + x2)]) (rest := []) (ctr_X6_isWithin (xZ X) x0 ((48 : Int32) + x1) ((48 : Int32) + x2) m) (by decide +kernel) wd_s_X6_111 rfl (h.room (by first | decide | omega) (by decide)) h.cl (Nat.le_of_ble_eq_true rfl) puI_ok rfl (fun r9 m9 _ => ?_)
  show Go X (Em X puI) 12 [some (.inl x0), some (.inl x1), some (.inl x2)] [.inl r9] m9 _
  exact go_zretG h.1 h.2.2.2.2 (by decide +kernel)
theorem ctr_X6_isDigit (Z : ZT) (x0 : Int32) (x1 : Int32) (x2 : Int32) (m : Mem) : Ctr Z yX6_isDigit prog_1_method_48_code 3 (some .boolean) 1 puI [.inl x0, .inl x1, .inl x2] m (f_X6_isDigit x0 x1 x2 m) :=
  ctr_of (P := P_X6) (by decide +kernel) rfl pt_X6 rfl rfl (fun X hC hZ hR h0 h1 hr => by subst hZ; exact g_X6_isDigit ⟨hC, hR, h0, h1, hr⟩ x0 x1 x2 m)

def f_X6_goesOn (x0 : Int32) (x1 : Int32) (m : Mem) : Option (Int32 × Mem) :=
  if (2 : Int32) ≤ x0 then
    if x0 < (32 : Int32) then
      if ¬ (6 : Int32) = 0 then dv ((x0 - (2 : Int32)) - (x0 - (2 : Int32)) / (6 : Int32) * (6 : Int32)) (fun q44 =>
        if q44 = (0 : Int32) then
          if x1 = (59 : Int32) then
            some ((1 : Int32), m)
          else
            some ((0 : Int32), m)
        else
          if q44 = (1 : Int32) then
            if x1 = (102 : Int32) then
              some ((1 : Int32), m)
            else
              if x1 = (101 : Int32) then
                some ((1 : Int32), m)
              else
                if x1 = (112 : Int32) then
                  some ((1 : Int32), m)
                else
                  some ((0 : Int32), m)
          else
            if q44 = (2 : Int32) then
              bnd (f_X6_isDigit x1 (1 : Int32) (9 : Int32) m) (fun r120 m120 =>
                if r120 = 0 ∨ r120 = 1 then some (r120, m120) else none)
            else
              if q44 = (3 : Int32) then
                bnd (f_X6_isDigit x1 (0 : Int32) (9 : Int32) m) (fun r128 m128 =>
                  if r128 = 0 ∨ r128 = 1 then some (r128, m128) else none)
              else
                if q44 = (4 : Int32) then
                  bnd (f_X6_isDigit x1 (0 : Int32) (6 : Int32) m) (fun r136 m136 =>
                    if r136 = 0 ∨ r136 = 1 then some (r136, m136) else none)
                else
                  bnd (f_X6_isDigit x1 (0 : Int32) (5 : Int32) m) (fun r143 m143 =>
                    if r143 = 0 ∨ r143 = 1 then some (r143, m143) else none))
      else none
    else
      some ((0 : Int32), m)
  else
    if x0 = 0 then
      if x1 = (104 : Int32) then
        some ((1 : Int32), m)
      else
        some ((0 : Int32), m)
    else
      bnd (f_X6_isDigit x1 (0 : Int32) (9 : Int32) m) (fun r27 m27 =>
        if r27 = 0 ∨ r27 = 1 then some (r27, m27) else none)
theorem g_X6_goesOn {X : XT} (h : MX X prog_1_method_47_code P_X6 2 (some .boolean)) (x0 : Int32) (x1 : Int32) (m : Mem) : Go X (Em X puI) 0 [some (.inl x0), some (.inl x1)] [] m (f_X6_goesOn x0 x1 m) := by
  unfold f_X6_goesOn
  refine go_blk h.1 (is := [.iload_n 0, .iconst 2]) (pc' := 2) (ls' := [some (.inl x0), some (.inl x1)]) (st' := [.inl (2 : Int32), .inl x0]) (m' := m) (by decide +kernel) rfl ?_
  refine go_icmpge h.1 (off := 29) 31 (by decide +kernel) (by decide) (fun c2 => ?_) (fun c2 => ?_)
  · refine go_blk h.1 (is := [.iload_n 0, .bipush 32]) (pc' := 34) (ls' := [some (.inl x0), some (.inl x1)]) (st' := [.inl (32 : Int32), .inl x0]) (m' := m) (by decide +kernel) rfl ?_
    refine go_icmplt h.1 (off := 5) 39 (by decide +kernel) (by decide) (fun c34 => ?_) (fun c34 => ?_)
    · refine go_blk h.1 (is := [.iload_n 0, .iconst 2, .isub, .bipush 6]) (pc' := 44) (ls' := [some (.inl x0), some (.inl x1)]) (st' := [.inl (6 : Int32), .inl (x0 - (2 : Int32))]) (m' := m) (by decide +kernel) rfl ?_
      refine go_irem h.1 (by decide +kernel) (fun z44 q44 _ => ?_)
      refine go_ite (fun w45_0 => ?_) (fun w45_0 => ?_)
      · refine go_tsIn h.1 (dflt := 95) (lo := 0) (hi := 4) (offs := #[35, 47, 71, 79, 87]) (len := 35) (off := 35) (0 : Int32) 80 w45_0 (by decide +kernel) (by decide) rfl (by decide) ?_
        refine go_blk h.1 (is := [.iload_n 1, .bipush 59]) (pc' := 83) (ls' := [some (.inl x0), some (.inl x1)]) (st' := [.inl (59 : Int32), .inl x1]) (m' := m) (by decide +kernel) rfl ?_
        refine go_icmpne h.1 (off := 7) 90 (by decide +kernel) (by decide) (fun c83 => ?_) (fun c83 => ?_)
        · refine go_blk h.1 (is := [.iconst 0]) (pc' := 91) (ls' := [some (.inl x0), some (.inl x1)]) (st' := [.inl (0 : Int32)]) (m' := m) (by decide +kernel) rfl ?_
          exact go_zret h.1 h.2.2.2.2 (Or.inl rfl) (by decide +kernel)
        · refine go_blk h.1 (is := [.iconst 1]) (pc' := 87) (ls' := [some (.inl x0), some (.inl x1)]) (st' := [.inl (1 : Int32)]) (m' := m) (by decide +kernel) rfl ?_
          refine go_goto h.1 (off := 4) 91 (by decide +kernel) (by decide) ?_
          exact go_zret h.1 h.2.2.2.2 (Or.inr rfl) (by decide +kernel)
      · refine go_ite (fun w45_1 => ?_) (fun w45_1 => ?_)
        · refine go_tsIn h.1 (dflt := 95) (lo := 0) (hi := 4) (offs := #[35, 47, 71, 79, 87]) (len := 35) (off := 47) (1 : Int32) 92 w45_1 (by decide +kernel) (by decide) rfl (by decide) ?_
          refine go_blk h.1 (is := [.iload_n 1, .bipush 102]) (pc' := 95) (ls' := [some (.inl x0), some (.inl x1)]) (st' := [.inl (102 : Int32), .inl x1]) (m' := m) (by decide +kernel) rfl ?_
          refine go_icmpeq h.1 (off := 15) 110 (by decide +kernel) (by decide) (fun c95 => ?_) (fun c95 => ?_)
          · refine go_blk h.1 (is := [.iconst 1]) (pc' := 111) (ls' := [some (.inl x0), some (.inl x1)]) (st' := [.inl (1 : Int32)]) (m' := m) (by decide +kernel) rfl ?_
            refine go_goto h.1 (off := 4) 115 (by decide +kernel) (by decide) ?_
            exact go_zret h.1 h.2.2.2.2 (Or.inr rfl) (by decide +kernel)
          · refine go_blk h.1 (is := [.iload_n 1, .bipush 101]) (pc' := 101) (ls' := [some (.inl x0), some (.inl x1)]) (st' := [.inl (101 : Int32), .inl x1]) (m' := m) (by decide +kernel) rfl ?_
            refine go_icmpeq h.1 (off := 9) 110 (by decide +kernel) (by decide) (fun c101 => ?_) (fun c101 => ?_)
            · refine go_blk h.1 (is := [.iconst 1]) (pc' := 111) (ls' := [some (.inl x0), some (.inl x1)]) (st' := [.inl (1 : Int32)]) (m' := m) (by decide +kernel) rfl ?_
              refine go_goto h.1 (off := 4) 115 (by decide +kernel) (by decide) ?_
              exact go_zret h.1 h.2.2.2.2 (Or.inr rfl) (by decide +kernel)
            · refine go_blk h.1 (is := [.iload_n 1, .bipush 112]) (pc' := 107) (ls' := [some (.inl x0), some (.inl x1)]) (st' := [.inl (112 : Int32), .inl x1]) (m' := m) (by decide +kernel) rfl ?_
              refine go_icmpne h.1 (off := 7) 114 (by decide +kernel) (by decide) (fun c107 => ?_) (fun c107 => ?_)
              · refine go_blk h.1 (is := [.iconst 0]) (pc' := 115) (ls' := [some (.inl x0), some (.inl x1)]) (st' := [.inl (0 : Int32)]) (m' := m) (by decide +kernel) rfl ?_
                exact go_zret h.1 h.2.2.2.2 (Or.inl rfl) (by decide +kernel)
              · refine go_blk h.1 (is := [.iconst 1]) (pc' := 111) (ls' := [some (.inl x0), some (.inl x1)]) (st' := [.inl (1 : Int32)]) (m' := m) (by decide +kernel) rfl ?_
                refine go_goto h.1 (off := 4) 115 (by decide +kernel) (by decide) ?_
                exact go_zret h.1 h.2.2.2.2 (Or.inr rfl) (by decide +kernel)
        · refine go_ite (fun w45_2 => ?_) (fun w45_2 => ?_)
          · refine go_tsIn h.1 (dflt := 95) (lo := 0) (hi := 4) (offs := #[35, 47, 71, 79, 87]) (len := 35) (off := 71) (2 : Int32) 116 w45_2 (by decide +kernel) (by decide) rfl (by decide) ?_
            refine go_blk h.1 (is := [.iload_n 1, .iconst 1, .bipush 9]) (pc' := 120) (ls' := [some (.inl x0), some (.inl x1)]) (st' := [.inl (9 : Int32), .inl (1 : Int32), .inl x1]) (m' := m) (by decide +kernel) rfl ?_
            refine go_callS h.1 (index := 243) (n := 3) (as := [.inl x1, .inl (1 : Int32), .inl (9 : Int32)]) (rest := []) (ctr_X6_isDigit (xZ X) x1 (1 : Int32) (9 : Int32) m) (by decide +kernel) wd_s_X6_243 rfl (h.room (by first | decide | omega) (by decide)) h.cl (Nat.le_of_ble_eq_true rfl) puI_ok rfl (fun r120 m120 _ => ?_)
            show Go X (Em X puI) 123 [some (.inl x0), some (.inl x1)] [.inl r120] m120 _
            exact go_zretG h.1 h.2.2.2.2 (by decide +kernel)
          · refine go_ite (fun w45_3 => ?_) (fun w45_3 => ?_)
            · refine go_tsIn h.1 (dflt := 95) (lo := 0) (hi := 4) (offs := #[35, 47, 71, 79, 87]) (len := 35) (off := 79) (3 : Int32) 124 w45_3 (by decide +kernel) (by decide) rfl (by decide) ?_
              refine go_blk h.1 (is := [.iload_n 1, .iconst 0, .bipush 9]) (pc' := 128) (ls' := [some (.inl x0), some (.inl x1)]) (st' := [.inl (9 : Int32), .inl (0 : Int32), .inl x1]) (m' := m) (by decide +kernel) rfl ?_
              refine go_callS h.1 (index := 243) (n := 3) (as := [.inl x1, .inl (0 : Int32), .inl (9 : Int32)]) (rest := []) (ctr_X6_isDigit (xZ X) x1 (0 : Int32) (9 : Int32) m) (by decide +kernel) wd_s_X6_243 rfl (h.room (by first | decide | omega) (by decide)) h.cl (Nat.le_of_ble_eq_true rfl) puI_ok rfl (fun r128 m128 _ => ?_)
              show Go X (Em X puI) 131 [some (.inl x0), some (.inl x1)] [.inl r128] m128 _
              exact go_zretG h.1 h.2.2.2.2 (by decide +kernel)
            · refine go_ite (fun w45_4 => ?_) (fun w45_4 => ?_)
              · refine go_tsIn h.1 (dflt := 95) (lo := 0) (hi := 4) (offs := #[35, 47, 71, 79, 87]) (len := 35) (off := 87) (4 : Int32) 132 w45_4 (by decide +kernel) (by decide) rfl (by decide) ?_
                refine go_blk h.1 (is := [.iload_n 1, .iconst 0, .bipush 6]) (pc' := 136) (ls' := [some (.inl x0), some (.inl x1)]) (st' := [.inl (6 : Int32), .inl (0 : Int32), .inl x1]) (m' := m) (by decide +kernel) rfl ?_
                refine go_callS h.1 (index := 243) (n := 3) (as := [.inl x1, .inl (0 : Int32), .inl (6 : Int32)]) (rest := []) (ctr_X6_isDigit (xZ X) x1 (0 : Int32) (6 : Int32) m) (by decide +kernel) wd_s_X6_243 rfl (h.room (by first | decide | omega) (by decide)) h.cl (Nat.le_of_ble_eq_true rfl) puI_ok rfl (fun r136 m136 _ => ?_)
                show Go X (Em X puI) 139 [some (.inl x0), some (.inl x1)] [.inl r136] m136 _
                exact go_zretG h.1 h.2.2.2.2 (by decide +kernel)
              · refine go_tsOut h.1 (dflt := 95) (lo := 0) (hi := 4) (offs := #[35, 47, 71, 79, 87]) (len := 35) 140 (by decide +kernel) (sw_out (n := 5) (by decide) ((lt_s (lt_s (lt_s (lt_s (lt_s lt_0 w45_0) w45_1) w45_2) w45_3) w45_4) : ∀ j : Nat, j < 5 → ¬ q44 = Int32.ofInt (0 + (j : Int)))) (by decide) ?_
                refine go_blk h.1 (is := [.iload_n 1, .iconst 0, .iconst 5]) (pc' := 143) (ls' := [some (.inl x0), some (.inl x1)]) (st' := [.inl (5 : Int32), .inl (0 : Int32), .inl x1]) (m' := m) (by decide +kernel) rfl ?_
                refine go_callS h.1 (index := 243) (n := 3) (as := [.inl x1, .inl (0 : Int32), .inl (5 : Int32)]) (rest := []) (ctr_X6_isDigit (xZ X) x1 (0 : Int32) (5 : Int32) m) (by decide +kernel) wd_s_X6_243 rfl (h.room (by first | decide | omega) (by decide)) h.cl (Nat.le_of_ble_eq_true rfl) puI_ok rfl (fun r143 m143 _ => ?_)
                show Go X (Em X puI) 146 [some (.inl x0), some (.inl x1)] [.inl r143] m143 _
                exact go_zretG h.1 h.2.2.2.2 (by decide +kernel)
    · refine go_blk h.1 (is := [.iconst 0]) (pc' := 38) (ls' := [some (.inl x0), some (.inl x1)]) (st' := [.inl (0 : Int32)]) (m' := m) (by decide +kernel) rfl ?_
      exact go_zret h.1 h.2.2.2.2 (Or.inl rfl) (by decide +kernel)
  · refine go_blk h.1 (is := [.iload_n 0]) (pc' := 6) (ls' := [some (.inl x0), some (.inl x1)]) (st' := [.inl x0]) (m' := m) (by decide +kernel) rfl ?_
    refine go_ifne h.1 (off := 17) 23 (by decide +kernel) (by decide) (fun c6 => ?_) (fun c6 => ?_)
    · refine go_blk h.1 (is := [.iload_n 1, .iconst 0, .bipush 9]) (pc' := 27) (ls' := [some (.inl x0), some (.inl x1)]) (st' := [.inl (9 : Int32), .inl (0 : Int32), .inl x1]) (m' := m) (by decide +kernel) rfl ?_
      refine go_callS h.1 (index := 243) (n := 3) (as := [.inl x1, .inl (0 : Int32), .inl (9 : Int32)]) (rest := []) (ctr_X6_isDigit (xZ X) x1 (0 : Int32) (9 : Int32) m) (by decide +kernel) wd_s_X6_243 rfl (h.room (by first | decide | omega) (by decide)) h.cl (Nat.le_of_ble_eq_true rfl) puI_ok rfl (fun r27 m27 _ => ?_)
      show Go X (Em X puI) 30 [some (.inl x0), some (.inl x1)] [.inl r27] m27 _
      exact go_zretG h.1 h.2.2.2.2 (by decide +kernel)
    · refine go_blk h.1 (is := [.iload_n 1, .bipush 104]) (pc' := 12) (ls' := [some (.inl x0), some (.inl x1)]) (st' := [.inl (104 : Int32), .inl x1]) (m' := m) (by decide +kernel) rfl ?_
      refine go_icmpne h.1 (off := 7) 19 (by decide +kernel) (by decide) (fun c12 => ?_) (fun c12 => ?_)
      · refine go_blk h.1 (is := [.iconst 0]) (pc' := 20) (ls' := [some (.inl x0), some (.inl x1)]) (st' := [.inl (0 : Int32)]) (m' := m) (by decide +kernel) rfl ?_
        refine go_goto h.1 (off := 10) 30 (by decide +kernel) (by decide) ?_
        exact go_zret h.1 h.2.2.2.2 (Or.inl rfl) (by decide +kernel)
      · refine go_blk h.1 (is := [.iconst 1]) (pc' := 16) (ls' := [some (.inl x0), some (.inl x1)]) (st' := [.inl (1 : Int32)]) (m' := m) (by decide +kernel) rfl ?_
        refine go_goto h.1 (off := 14) 30 (by decide +kernel) (by decide) ?_
        exact go_zret h.1 h.2.2.2.2 (Or.inr rfl) (by decide +kernel)
theorem ctr_X6_goesOn (Z : ZT) (x0 : Int32) (x1 : Int32) (m : Mem) : Ctr Z yX6_goesOn prog_1_method_47_code 2 (some .boolean) 2 puI [.inl x0, .inl x1] m (f_X6_goesOn x0 x1 m) :=
  ctr_of (P := P_X6) (by decide +kernel) rfl pt_X6 rfl rfl (fun X hC hZ hR h0 h1 hr => by subst hZ; exact g_X6_goesOn ⟨hC, hR, h0, h1, hr⟩ x0 x1 m)

def f_X6_firstFault_b2 (w : Nat) (x1 : Int32) (x2 : Int32) (next : Int32 × Mem → Option (Int32 × Mem)) (exit : Mem → Option (Int32 × Mem)) (s : Int32 × Mem) : Option (Int32 × Mem) :=
  if x2 ≤ s.1 then
    exit (s.2)
  else
    bnd (f_X4_at w (x1 + s.1) s.2) (fun r12 m12 =>
      bnd (f_X6_goesOn s.1 r12 m12) (fun r15 m15 =>
        if r15 = 0 then
          some (s.1, m15)
        else
          next ((s.1 + (1 : Int32)), m15)))
theorem g_X6_firstFault_b2 {X : XT} (h : MX X prog_1_method_46_code P_X6 3 (some .int)) (w : Nat) (x1 : Int32) (x2 : Int32) (next : Int32 × Mem → Option (Int32 × Mem)) (exit : Mem → Option (Int32 × Mem)) (hn : ∀ (y3 : Int32) (n : Mem), Go X (Em X puI) 2 [some (.inr (.inr (2, w))), some (.inl x1), some (.inl x2), some (.inl y3)] [] n (next (y3, n))) (hx : ∀ (n : Mem) (o0 : Option AV) (o1 : Option AV) (o3 : Option AV), Go X (Em X puI) 29 [o0, o1, some (.inl x2), o3] [] n (exit (n))) (s : Int32 × Mem) : Go X (Em X puI) 2 [some (.inr (.inr (2, w))), some (.inl x1), some (.inl x2), some (.inl s.1)] [] s.2 (f_X6_firstFault_b2 w x1 x2 next exit s) := by
  unfold f_X6_firstFault_b2
  refine go_blk h.1 (is := [.iload_n 3, .iload_n 2]) (pc' := 4) (ls' := [some (.inr (.inr (2, w))), some (.inl x1), some (.inl x2), some (.inl s.1)]) (st' := [.inl x2, .inl s.1]) (m' := s.2) (by decide +kernel) rfl ?_
  refine go_icmpge h.1 (off := 25) 29 (by decide +kernel) (by decide) (fun c4 => ?_) (fun c4 => ?_)
  · exact hx s.2 (some (.inr (.inr (2, w)))) (some (.inl x1)) (some (.inl s.1))
  · refine go_blk h.1 (is := [.iload_n 3, .aload_n 0, .iload_n 1, .iload_n 3, .iadd]) (pc' := 12) (ls' := [some (.inr (.inr (2, w))), some (.inl x1), some (.inl x2), some (.inl s.1)]) (st' := [.inl (x1 + s.1), .inr (.inr (2, w)), .inl s.1]) (m' := s.2) (by decide +kernel) rfl ?_
    refine go_callV h.1 (index := 207) (n := 1) (t := 2) (i := w) (ci := 4) (nf := 4) (cz := (RX4, TX4, 4)) (as := [.inl (x1 + s.1)]) (rest := [.inl s.1]) (ctr_X4_at (xZ X) w (x1 + s.1) s.2) (by decide +kernel) rfl rfl wd_v_X6_207 rfl (h.room (by first | decide | omega) (by decide)) h.cl (Nat.le_of_ble_eq_true rfl) puI_ok rfl (fun r12 m12 _ => ?_)
    show Go X (Em X puI) 15 [some (.inr (.inr (2, w))), some (.inl x1), some (.inl x2), some (.inl s.1)] [.inl r12, .inl s.1] m12 _
    refine go_callS h.1 (index := 240) (n := 2) (as := [.inl s.1, .inl r12]) (rest := []) (ctr_X6_goesOn (xZ X) s.1 r12 m12) (by decide +kernel) wd_s_X6_240 rfl (h.room (by first | decide | omega) (by decide)) h.cl (Nat.le_of_ble_eq_true rfl) puI_ok rfl (fun r15 m15 _ => ?_)
    show Go X (Em X puI) 18 [some (.inr (.inr (2, w))), some (.inl x1), some (.inl x2), some (.inl s.1)] [.inl r15] m15 _
    refine go_ifne h.1 (off := 5) 23 (by decide +kernel) (by decide) (fun c18 => ?_) (fun c18 => ?_)
    · refine go_blk h.1 (is := [.iinc 3 1]) (pc' := 26) (ls' := [some (.inr (.inr (2, w))), some (.inl x1), some (.inl x2), some (.inl (s.1 + (1 : Int32)))]) (st' := []) (m' := m15) (by decide +kernel) rfl ?_
      refine go_goto h.1 (off := -24) 2 (by decide +kernel) (by decide) ?_
      exact hn (s.1 + (1 : Int32)) m15
    · refine go_blk h.1 (is := [.iload_n 3]) (pc' := 22) (ls' := [some (.inr (.inr (2, w))), some (.inl x1), some (.inl x2), some (.inl s.1)]) (st' := [.inl s.1]) (m' := m15) (by decide +kernel) rfl ?_
      exact go_iret h.1 h.2.2.2.2 (by decide +kernel)

def f_X6_firstFault_j49 (w : Nat) (s0 : Int32) (x2 : Int32) (m : Mem) : Option (Int32 × Mem) :=
  if s0 = 0 then
    some (x2, m)
  else
    some ((-9 : Int32), m)
theorem g_X6_firstFault_j49 {X : XT} (h : MX X prog_1_method_46_code P_X6 3 (some .int)) (w : Nat) (s0 : Int32) (x2 : Int32) (m : Mem) (o0 : Option AV) (o1 : Option AV) (o3 : Option AV) : Go X (Em X puI) 49 [o0, o1, some (.inl x2), o3] [.inl s0] m (f_X6_firstFault_j49 w s0 x2 m) := by
  unfold f_X6_firstFault_j49
  refine go_blk h.1 (is := [.istore_n 3, .iload_n 3]) (pc' := 51) (ls' := [o0, o1, some (.inl x2), some (.inl s0)]) (st' := [.inl s0]) (m' := m) (by decide +kernel) rfl ?_
  refine go_ifeq h.1 (off := 8) 59 (by decide +kernel) (by decide) (fun c51 => ?_) (fun c51 => ?_)
  · refine go_blk h.1 (is := [.iload_n 2]) (pc' := 60) (ls' := [o0, o1, some (.inl x2), some (.inl s0)]) (st' := [.inl x2]) (m' := m) (by decide +kernel) rfl ?_
    exact go_iret h.1 h.2.2.2.2 (by decide +kernel)
  · refine go_blk h.1 (is := [.bipush (-9)]) (pc' := 56) (ls' := [o0, o1, some (.inl x2), some (.inl s0)]) (st' := [.inl (-9 : Int32)]) (m' := m) (by decide +kernel) rfl ?_
    refine go_goto h.1 (off := 4) 60 (by decide +kernel) (by decide) ?_
    exact go_iret h.1 h.2.2.2.2 (by decide +kernel)

def f_X6_firstFault_j48 (w : Nat) (x2 : Int32) (m : Mem) : Option (Int32 × Mem) :=
  f_X6_firstFault_j49 w (0 : Int32) x2 m
theorem g_X6_firstFault_j48 {X : XT} (h : MX X prog_1_method_46_code P_X6 3 (some .int)) (w : Nat) (x2 : Int32) (m : Mem) (o0 : Option AV) (o1 : Option AV) (o3 : Option AV) : Go X (Em X puI) 48 [o0, o1, some (.inl x2), o3] [] m (f_X6_firstFault_j48 w x2 m) := by
  unfold f_X6_firstFault_j48
  refine go_blk h.1 (is := [.iconst 0]) (pc' := 49) (ls' := [o0, o1, some (.inl x2), o3]) (st' := [.inl (0 : Int32)]) (m' := m) (by decide +kernel) rfl ?_
  exact g_X6_firstFault_j49 h w (0 : Int32) x2 m (o0) (o1) (o3)

def f_X6_firstFault (w : Nat) (x1 : Int32) (x2 : Int32) (m : Mem) : Option (Int32 × Mem) :=
  lpk (f_X6_firstFault_b2 w x1 x2) fuelN ((0 : Int32), m) (fun t2 =>
    if x2 < (8 : Int32) then
      f_X6_firstFault_j48 w x2 t2
    else
      if ¬ (6 : Int32) = 0 then dv ((x2 - (2 : Int32)) - (x2 - (2 : Int32)) / (6 : Int32) * (6 : Int32)) (fun q40 =>
        if q40 = 0 then
          f_X6_firstFault_j49 w (1 : Int32) x2 t2
        else
          f_X6_firstFault_j48 w x2 t2)
      else none)
theorem g_X6_firstFault {X : XT} (h : MX X prog_1_method_46_code P_X6 3 (some .int)) (w : Nat) (x1 : Int32) (x2 : Int32) (m : Mem) : Go X (Em X puI) 0 [some (.inr (.inr (2, w))), some (.inl x1), some (.inl x2), none] [] m (f_X6_firstFault w x1 x2 m) := by
  unfold f_X6_firstFault
  refine go_blk h.1 (is := [.iconst 0, .istore_n 3]) (pc' := 2) (ls' := [some (.inr (.inr (2, w))), some (.inl x1), some (.inl x2), some (.inl (0 : Int32))]) (st' := []) (m' := m) (by decide +kernel) rfl ?_
  refine go_lp1 (hd := fun (y3 : Int32) (n : Mem) o => Go X (Em X puI) 2 [some (.inr (.inr (2, w))), some (.inl x1), some (.inl x2), some (.inl y3)] [] n o) (fun _ _ => go_none) (fun y3 n nx_ hn_ => g_X6_firstFault_b2 h w x1 x2 nx_ _ hn_ (fun z_2 o0_2 o1_2 o3_2 => ?_) (y3, n)) fuelN (0 : Int32) m
  refine go_blk h.1 (is := [.iload_n 2, .bipush 8]) (pc' := 32) (ls' := [o0_2, o1_2, some (.inl x2), o3_2]) (st' := [.inl (8 : Int32), .inl x2]) (m' := z_2) (by decide +kernel) rfl ?_
  refine go_icmplt h.1 (off := 16) 48 (by decide +kernel) (by decide) (fun c32 => ?_) (fun c32 => ?_)
  · exact g_X6_firstFault_j48 h w x2 z_2 (o0_2) (o1_2) (o3_2)
  · refine go_blk h.1 (is := [.iload_n 2, .iconst 2, .isub, .bipush 6]) (pc' := 40) (ls' := [o0_2, o1_2, some (.inl x2), o3_2]) (st' := [.inl (6 : Int32), .inl (x2 - (2 : Int32))]) (m' := z_2) (by decide +kernel) rfl ?_
    refine go_irem h.1 (by decide +kernel) (fun z40 q40 _ => ?_)
    refine go_ifne h.1 (off := 7) 48 (by decide +kernel) (by decide) (fun c41 => ?_) (fun c41 => ?_)
    · exact g_X6_firstFault_j48 h w x2 z_2 (o0_2) (o1_2) (o3_2)
    · refine go_blk h.1 (is := [.iconst 1]) (pc' := 45) (ls' := [o0_2, o1_2, some (.inl x2), o3_2]) (st' := [.inl (1 : Int32)]) (m' := z_2) (by decide +kernel) rfl ?_
      refine go_goto h.1 (off := 4) 49 (by decide +kernel) (by decide) ?_
      exact g_X6_firstFault_j49 h w (1 : Int32) x2 z_2 (o0_2) (o1_2) (o3_2)
theorem ctr_X6_firstFault (Z : ZT) (w : Nat) (x1 : Int32) (x2 : Int32) (m : Mem) : Ctr Z yX6_firstFault prog_1_method_46_code 4 (some .int) 3 puI [.inr (.inr (2, w)), .inl x1, .inl x2] m (f_X6_firstFault w x1 x2 m) :=
  ctr_of (P := P_X6) (by decide +kernel) rfl pt_X6 rfl rfl (fun X hC hZ hR h0 h1 hr => by subst hZ; exact g_X6_firstFault ⟨hC, hR, h0, h1, hr⟩ w x1 x2 m)

def f_X6_kindOf (x0 : Int32) (m : Mem) : Option (Int32 × Mem) :=
  if x0 = (112 : Int32) then
    some ((2 : Int32), m)
  else
    if x0 = (101 : Int32) then
      some ((1 : Int32), m)
    else
      some ((0 : Int32), m)
theorem g_X6_kindOf {X : XT} (h : MX X prog_1_method_49_code P_X6 0 (some .int)) (x0 : Int32) (m : Mem) : Go X (Em X puI) 0 [some (.inl x0)] [] m (f_X6_kindOf x0 m) := by
  unfold f_X6_kindOf
  refine go_blk h.1 (is := [.iload_n 0, .bipush 112]) (pc' := 3) (ls' := [some (.inl x0)]) (st' := [.inl (112 : Int32), .inl x0]) (m' := m) (by decide +kernel) rfl ?_
  refine go_icmpne h.1 (off := 5) 8 (by decide +kernel) (by decide) (fun c3 => ?_) (fun c3 => ?_)
  · refine go_blk h.1 (is := [.iload_n 0, .bipush 101]) (pc' := 11) (ls' := [some (.inl x0)]) (st' := [.inl (101 : Int32), .inl x0]) (m' := m) (by decide +kernel) rfl ?_
    refine go_icmpne h.1 (off := 7) 18 (by decide +kernel) (by decide) (fun c11 => ?_) (fun c11 => ?_)
    · refine go_blk h.1 (is := [.iconst 0]) (pc' := 19) (ls' := [some (.inl x0)]) (st' := [.inl (0 : Int32)]) (m' := m) (by decide +kernel) rfl ?_
      exact go_iret h.1 h.2.2.2.2 (by decide +kernel)
    · refine go_blk h.1 (is := [.iconst 1]) (pc' := 15) (ls' := [some (.inl x0)]) (st' := [.inl (1 : Int32)]) (m' := m) (by decide +kernel) rfl ?_
      refine go_goto h.1 (off := 4) 19 (by decide +kernel) (by decide) ?_
      exact go_iret h.1 h.2.2.2.2 (by decide +kernel)
  · refine go_blk h.1 (is := [.iconst 2]) (pc' := 7) (ls' := [some (.inl x0)]) (st' := [.inl (2 : Int32)]) (m' := m) (by decide +kernel) rfl ?_
    exact go_iret h.1 h.2.2.2.2 (by decide +kernel)
theorem ctr_X6_kindOf (Z : ZT) (x0 : Int32) (m : Mem) : Ctr Z yX6_kindOf prog_1_method_49_code 1 (some .int) 0 puI [.inl x0] m (f_X6_kindOf x0 m) :=
  ctr_of (P := P_X6) (by decide +kernel) rfl pt_X6 rfl rfl (fun X hC hZ hR h0 h1 hr => by subst hZ; exact g_X6_kindOf ⟨hC, hR, h0, h1, hr⟩ x0 m)

def f_X1_take (w : Nat) (a1 : Nat) (x2 : Int32) (m : Mem) : Option (Unit × Mem) :=
  bnd (f_X4_at a1 (x2 + (1 : Int32)) m) (fun r5 m5 =>
    bnd (f_X6_kindOf r5 m5) (fun r8 m8 =>
      bnd (f_X4_at a1 (x2 + (2 : Int32)) (mset m8 6 w 0 r8)) (fun r19 m19 =>
        bnd (f_X4_at a1 (x2 + (3 : Int32)) (mset m19 6 w 1 (r19 - (48 : Int32)))) (fun r33 m33 =>
          bnd (f_X4_at a1 (x2 + (4 : Int32)) (mset m33 6 w 2 (r33 - (48 : Int32)))) (fun r47 m47 =>
            bnd (f_X4_at a1 (x2 + (5 : Int32)) (mset m47 6 w 3 (r47 - (48 : Int32)))) (fun r61 m61 =>
              some ((), (mset m61 6 w 4 (r61 - (48 : Int32))))))))))
theorem g_X1_take {X : XT} (h : MX X prog_3_method_2_code P_X1 2 none) (w : Nat) (a1 : Nat) (x2 : Int32) (m : Mem) : Go X (Em X puV) 0 [some (.inr (.inr (6, w))), some (.inr (.inr (2, a1))), some (.inl x2)] [] m (f_X1_take w a1 x2 m) := by
  unfold f_X1_take
  refine go_blk h.1 (is := [.aload_n 0, .aload_n 1, .iload_n 2, .iconst 1, .iadd]) (pc' := 5) (ls' := [some (.inr (.inr (6, w))), some (.inr (.inr (2, a1))), some (.inl x2)]) (st' := [.inl (x2 + (1 : Int32)), .inr (.inr (2, a1)), .inr (.inr (6, w))]) (m' := m) (by decide +kernel) rfl ?_
  refine go_callV h.1 (index := 7) (n := 1) (t := 2) (i := a1) (ci := 4) (nf := 4) (cz := (RX4, TX4, 4)) (as := [.inl (x2 + (1 : Int32))]) (rest := [.inr (.inr (6, w))]) (ctr_X4_at (xZ X) a1 (x2 + (1 : Int32)) m) (by decide +kernel) rfl rfl wd_v_X1_7 rfl (h.room (by first | decide | omega) (by decide)) h.cl (Nat.le_of_ble_eq_true rfl) puI_ok rfl (fun r5 m5 _ => ?_)
  show Go X (Em X puV) 8 [some (.inr (.inr (6, w))), some (.inr (.inr (2, a1))), some (.inl x2)] [.inl r5, .inr (.inr (6, w))] m5 _
  refine go_callN h.1 (index := 13) (n := 1) (as := [.inl r5]) (rest := [.inr (.inr (6, w))]) (ctr_X6_kindOf (xZ X) r5 m5) (by decide +kernel) wd_n_X1_13 rfl (h.room (by first | decide | omega) (by decide)) h.cl (Nat.le_of_ble_eq_true rfl) puI_ok rfl (fun r8 m8 _ => ?_)
  show Go X (Em X puV) 11 [some (.inr (.inr (6, w))), some (.inr (.inr (2, a1))), some (.inl x2)] [.inl r8, .inr (.inr (6, w))] m8 _
  refine go_blk h.1 (is := [.putfield 18, .aload_n 0, .aload_n 1, .iload_n 2, .iconst 2, .iadd]) (pc' := 19) (ls' := [some (.inr (.inr (6, w))), some (.inr (.inr (2, a1))), some (.inl x2)]) (st' := [.inl (x2 + (2 : Int32)), .inr (.inr (2, a1)), .inr (.inr (6, w))]) (m' := (mset m8 6 w 0 r8)) (by decide +kernel) rfl ?_
  refine go_callV h.1 (index := 7) (n := 1) (t := 2) (i := a1) (ci := 4) (nf := 4) (cz := (RX4, TX4, 4)) (as := [.inl (x2 + (2 : Int32))]) (rest := [.inr (.inr (6, w))]) (ctr_X4_at (xZ X) a1 (x2 + (2 : Int32)) (mset m8 6 w 0 r8)) (by decide +kernel) rfl rfl wd_v_X1_7 rfl (h.room (by first | decide | omega) (by decide)) h.cl (Nat.le_of_ble_eq_true rfl) puI_ok rfl (fun r19 m19 _ => ?_)
  show Go X (Em X puV) 22 [some (.inr (.inr (6, w))), some (.inr (.inr (2, a1))), some (.inl x2)] [.inl r19, .inr (.inr (6, w))] m19 _
  refine go_blk h.1 (is := [.bipush 48, .isub, .putfield 24, .aload_n 0, .aload_n 1, .iload_n 2, .iconst 3, .iadd]) (pc' := 33) (ls' := [some (.inr (.inr (6, w))), some (.inr (.inr (2, a1))), some (.inl x2)]) (st' := [.inl (x2 + (3 : Int32)), .inr (.inr (2, a1)), .inr (.inr (6, w))]) (m' := (mset m19 6 w 1 (r19 - (48 : Int32)))) (by decide +kernel) rfl ?_
  refine go_callV h.1 (index := 7) (n := 1) (t := 2) (i := a1) (ci := 4) (nf := 4) (cz := (RX4, TX4, 4)) (as := [.inl (x2 + (3 : Int32))]) (rest := [.inr (.inr (6, w))]) (ctr_X4_at (xZ X) a1 (x2 + (3 : Int32)) (mset m19 6 w 1 (r19 - (48 : Int32)))) (by decide +kernel) rfl rfl wd_v_X1_7 rfl (h.room (by first | decide | omega) (by decide)) h.cl (Nat.le_of_ble_eq_true rfl) puI_ok rfl (fun r33 m33 _ => ?_)
  show Go X (Em X puV) 36 [some (.inr (.inr (6, w))), some (.inr (.inr (2, a1))), some (.inl x2)] [.inl r33, .inr (.inr (6, w))] m33 _
  refine go_blk h.1 (is := [.bipush 48, .isub, .putfield 27, .aload_n 0, .aload_n 1, .iload_n 2, .iconst 4, .iadd]) (pc' := 47) (ls' := [some (.inr (.inr (6, w))), some (.inr (.inr (2, a1))), some (.inl x2)]) (st' := [.inl (x2 + (4 : Int32)), .inr (.inr (2, a1)), .inr (.inr (6, w))]) (m' := (mset m33 6 w 2 (r33 - (48 : Int32)))) (by decide +kernel) rfl ?_
  refine go_callV h.1 (index := 7) (n := 1) (t := 2) (i := a1) (ci := 4) (nf := 4) (cz := (RX4, TX4, 4)) (as := [.inl (x2 + (4 : Int32))]) (rest := [.inr (.inr (6, w))]) (ctr_X4_at (xZ X) a1 (x2 + (4 : Int32)) (mset m33 6 w 2 (r33 - (48 : Int32)))) (by decide +kernel) rfl rfl wd_v_X1_7 rfl (h.room (by first | decide | omega) (by decide)) h.cl (Nat.le_of_ble_eq_true rfl) puI_ok rfl (fun r47 m47 _ => ?_)
  show Go X (Em X puV) 50 [some (.inr (.inr (6, w))), some (.inr (.inr (2, a1))), some (.inl x2)] [.inl r47, .inr (.inr (6, w))] m47 _
  refine go_blk h.1 (is := [.bipush 48, .isub, .putfield 30, .aload_n 0, .aload_n 1, .iload_n 2, .iconst 5, .iadd]) (pc' := 61) (ls' := [some (.inr (.inr (6, w))), some (.inr (.inr (2, a1))), some (.inl x2)]) (st' := [.inl (x2 + (5 : Int32)), .inr (.inr (2, a1)), .inr (.inr (6, w))]) (m' := (mset m47 6 w 3 (r47 - (48 : Int32)))) (by decide +kernel) rfl ?_
  refine go_callV h.1 (index := 7) (n := 1) (t := 2) (i := a1) (ci := 4) (nf := 4) (cz := (RX4, TX4, 4)) (as := [.inl (x2 + (5 : Int32))]) (rest := [.inr (.inr (6, w))]) (ctr_X4_at (xZ X) a1 (x2 + (5 : Int32)) (mset m47 6 w 3 (r47 - (48 : Int32)))) (by decide +kernel) rfl rfl wd_v_X1_7 rfl (h.room (by first | decide | omega) (by decide)) h.cl (Nat.le_of_ble_eq_true rfl) puI_ok rfl (fun r61 m61 _ => ?_)
  show Go X (Em X puV) 64 [some (.inr (.inr (6, w))), some (.inr (.inr (2, a1))), some (.inl x2)] [.inl r61, .inr (.inr (6, w))] m61 _
  refine go_blk h.1 (is := [.bipush 48, .isub, .putfield 33]) (pc' := 70) (ls' := [some (.inr (.inr (6, w))), some (.inr (.inr (2, a1))), some (.inl x2)]) (st' := []) (m' := (mset m61 6 w 4 (r61 - (48 : Int32)))) (by decide +kernel) rfl ?_
  exact go_vret h.1 h.2.2.2.2 (by decide +kernel)
theorem ctr_X1_take (Z : ZT) (w : Nat) (a1 : Nat) (x2 : Int32) (m : Mem) : Ctr Z yX1_take prog_3_method_2_code 3 none 2 puV [.inr (.inr (6, w)), .inr (.inr (2, a1)), .inl x2] m (f_X1_take w a1 x2 m) :=
  ctr_of (P := P_X1) (by decide +kernel) rfl pt_X1 rfl rfl (fun X hC hZ hR h0 h1 hr => by subst hZ; exact g_X1_take ⟨hC, hR, h0, h1, hr⟩ w a1 x2 m)

def f_X5_take_b36 (w : Nat) (x2 : Int32) (next : Int32 × Mem → Option (Unit × Mem)) (exit : Mem → Option (Unit × Mem)) (s : Int32 × Mem) : Option (Unit × Mem) :=
  if (s.2 4 0 1) ≤ s.1 then
    exit (s.2)
  else
    if inB s.1 5 = true then
      bnd (f_X1_take (ix s.1) w ((x2 + (2 : Int32)) + (s.1 * (6 : Int32))) s.2) (fun _ m62 =>
        next ((s.1 + (1 : Int32)), m62))
    else none
theorem g_X5_take_b36 {X : XT} (h : MX X prog_7_method_3_code P_X5 3 none) (w : Nat) (x2 : Int32) (next : Int32 × Mem → Option (Unit × Mem)) (exit : Mem → Option (Unit × Mem)) (hn : ∀ (y4 : Int32) (n : Mem) (o3 : Option AV), Go X (Em X puV) 36 [some (.inr (.inr (4, 0))), some (.inr (.inr (2, w))), some (.inl x2), o3, some (.inl y4)] [] n (next (y4, n))) (hx : ∀ (n : Mem) (o0 : Option AV) (o1 : Option AV) (o2 : Option AV) (o3 : Option AV) (o4 : Option AV), Go X (Em X puV) 71 [o0, o1, o2, o3, o4] [] n (exit (n))) (s : Int32 × Mem) (o3 : Option AV) : Go X (Em X puV) 36 [some (.inr (.inr (4, 0))), some (.inr (.inr (2, w))), some (.inl x2), o3, some (.inl s.1)] [] s.2 (f_X5_take_b36 w x2 next exit s) := by
  unfold f_X5_take_b36
  refine go_blk h.1 (is := [.iload 4, .aload_n 0, .getfield 18]) (pc' := 42) (ls' := [some (.inr (.inr (4, 0))), some (.inr (.inr (2, w))), some (.inl x2), o3, some (.inl s.1)]) (st' := [.inl (s.2 4 0 1), .inl s.1]) (m' := s.2) (by decide +kernel) rfl ?_
  refine go_icmpge h.1 (off := 29) 71 (by decide +kernel) (by decide) (fun c42 => ?_) (fun c42 => ?_)
  · exact hx s.2 (some (.inr (.inr (4, 0)))) (some (.inr (.inr (2, w)))) (some (.inl x2)) (o3) (some (.inl s.1))
  · refine go_blk h.1 (is := [.aload_n 0, .getfield 11, .iload 4]) (pc' := 51) (ls' := [some (.inr (.inr (4, 0))), some (.inr (.inr (2, w))), some (.inl x2), o3, some (.inl s.1)]) (st' := [.inl s.1, .inr (.inr (5, 0))]) (m' := s.2) (by decide +kernel) rfl ?_
    refine go_aald h.1 (kd := 1) (z := (6, (ix s.1))) (by decide +kernel) rfl rfl (by decide) rfl (fun b51 => ?_)
    refine go_blk h.1 (is := [.aload_n 1, .iload_n 2, .iconst 2, .iadd, .iload 4, .bipush 6, .imul, .iadd]) (pc' := 62) (ls' := [some (.inr (.inr (4, 0))), some (.inr (.inr (2, w))), some (.inl x2), o3, some (.inl s.1)]) (st' := [.inl ((x2 + (2 : Int32)) + (s.1 * (6 : Int32))), .inr (.inr (2, w)), .inr (.inr (6, (ix s.1)))]) (m' := s.2) (by decide +kernel) rfl ?_
    refine go_callV h.1 (index := 40) (n := 2) (t := 6) (i := (ix s.1)) (ci := 1) (nf := 5) (cz := (RX1, TX1, 5)) (as := [.inr (.inr (2, w)), .inl ((x2 + (2 : Int32)) + (s.1 * (6 : Int32)))]) (rest := []) (ctr_X1_take (xZ X) (ix s.1) w ((x2 + (2 : Int32)) + (s.1 * (6 : Int32))) s.2) (by decide +kernel) rfl rfl wd_v_X5_40 rfl (h.room (by first | decide | omega) (by decide)) h.cl (Nat.le_of_ble_eq_true rfl) puV_ok rfl (fun r62 m62 _ => ?_)
    show Go X (Em X puV) 65 [some (.inr (.inr (4, 0))), some (.inr (.inr (2, w))), some (.inl x2), o3, some (.inl s.1)] [] m62 _
    refine go_blk h.1 (is := [.iinc 4 1]) (pc' := 68) (ls' := [some (.inr (.inr (4, 0))), some (.inr (.inr (2, w))), some (.inl x2), (clrL o3), some (.inl (s.1 + (1 : Int32)))]) (st' := []) (m' := m62) (by decide +kernel) rfl ?_
    refine go_goto h.1 (off := -32) 36 (by decide +kernel) (by decide) ?_
    exact hn (s.1 + (1 : Int32)) m62 ((clrL o3))

def f_X5_take (w : Nat) (x2 : Int32) (x3 : Int32) (m : Mem) : Option (Unit × Mem) :=
  bnd (f_X4_at w (x2 + (1 : Int32)) m) (fun r5 m5 =>
    if ¬ (6 : Int32) = 0 then dv ((x3 - (2 : Int32)) / (6 : Int32)) (fun q25 =>
      lpk (f_X5_take_b36 w x2) fuelN ((0 : Int32), (mset (mset (mset m5 4 0 2 (r5 - (48 : Int32))) 4 0 3 (0 : Int32)) 4 0 1 (if (5 : Int32) < q25 then (5 : Int32) else q25))) (fun t36 =>
        some ((), t36)))
    else none)
theorem g_X5_take {X : XT} (h : MX X prog_7_method_3_code P_X5 3 none) (w : Nat) (x2 : Int32) (x3 : Int32) (m : Mem) : Go X (Em X puV) 0 [some (.inr (.inr (4, 0))), some (.inr (.inr (2, w))), some (.inl x2), some (.inl x3), none] [] m (f_X5_take w x2 x3 m) := by
  unfold f_X5_take
  refine go_blk h.1 (is := [.aload_n 0, .aload_n 1, .iload_n 2, .iconst 1, .iadd]) (pc' := 5) (ls' := [some (.inr (.inr (4, 0))), some (.inr (.inr (2, w))), some (.inl x2), some (.inl x3), none]) (st' := [.inl (x2 + (1 : Int32)), .inr (.inr (2, w)), .inr (.inr (4, 0))]) (m' := m) (by decide +kernel) rfl ?_
  refine go_callV h.1 (index := 28) (n := 1) (t := 2) (i := w) (ci := 4) (nf := 4) (cz := (RX4, TX4, 4)) (as := [.inl (x2 + (1 : Int32))]) (rest := [.inr (.inr (4, 0))]) (ctr_X4_at (xZ X) w (x2 + (1 : Int32)) m) (by decide +kernel) rfl rfl wd_v_X5_28 rfl (h.room (by first | decide | omega) (by decide)) h.cl (Nat.le_of_ble_eq_true rfl) puI_ok rfl (fun r5 m5 _ => ?_)
  show Go X (Em X puV) 8 [some (.inr (.inr (4, 0))), some (.inr (.inr (2, w))), some (.inl x2), some (.inl x3), none] [.inl r5, .inr (.inr (4, 0))] m5 _
  refine go_blk h.1 (is := [.bipush 48, .isub, .putfield 22, .aload_n 0, .iconst 0, .putfield 25, .aload_n 0, .iload_n 3, .iconst 2, .isub, .bipush 6]) (pc' := 25) (ls' := [some (.inr (.inr (4, 0))), some (.inr (.inr (2, w))), some (.inl x2), some (.inl x3), none]) (st' := [.inl (6 : Int32), .inl (x3 - (2 : Int32)), .inr (.inr (4, 0))]) (m' := (mset (mset m5 4 0 2 (r5 - (48 : Int32))) 4 0 3 (0 : Int32))) (by decide +kernel) rfl ?_
  refine go_idiv h.1 (by decide +kernel) (fun z25 q25 _ => ?_)
  refine go_blk h.1 (is := [.iconst 5]) (pc' := 27) (ls' := [some (.inr (.inr (4, 0))), some (.inr (.inr (2, w))), some (.inl x2), some (.inl x3), none]) (st' := [.inl (5 : Int32), .inl q25, .inr (.inr (4, 0))]) (m' := (mset (mset m5 4 0 2 (r5 - (48 : Int32))) 4 0 3 (0 : Int32))) (by decide +kernel) rfl ?_
  refine go_min h (index := 34) (by first | decide | omega) (by decide +kernel) wd_ml_X5_34 wd_st_min wd_in_Math wd_co_min (Nat.le_of_ble_eq_true rfl) ?_
  show Go X (Em X puV) 30 [some (.inr (.inr (4, 0))), some (.inr (.inr (2, w))), some (.inl x2), some (.inl x3), none] [.inl (if (5 : Int32) < q25 then (5 : Int32) else q25), .inr (.inr (4, 0))] (mset (mset m5 4 0 2 (r5 - (48 : Int32))) 4 0 3 (0 : Int32)) _
  refine go_blk h.1 (is := [.putfield 18, .iconst 0, .istore 4]) (pc' := 36) (ls' := [some (.inr (.inr (4, 0))), some (.inr (.inr (2, w))), some (.inl x2), some (.inl x3), some (.inl (0 : Int32))]) (st' := []) (m' := (mset (mset (mset m5 4 0 2 (r5 - (48 : Int32))) 4 0 3 (0 : Int32)) 4 0 1 (if (5 : Int32) < q25 then (5 : Int32) else q25))) (by decide +kernel) rfl ?_
  refine go_lp1 (hd := fun (y4 : Int32) (n : Mem) o => ∀ (o3 : Option AV), Go X (Em X puV) 36 [some (.inr (.inr (4, 0))), some (.inr (.inr (2, w))), some (.inl x2), o3, some (.inl y4)] [] n o) (fun _ _ _ => go_none) (fun y4 n nx_ hn_ => g_X5_take_b36 h w x2 nx_ _ hn_ (fun z_36 o0_36 o1_36 o2_36 o3_36 o4_36 => ?_) (y4, n)) fuelN (0 : Int32) (mset (mset (mset m5 4 0 2 (r5 - (48 : Int32))) 4 0 3 (0 : Int32)) 4 0 1 (if (5 : Int32) < q25 then (5 : Int32) else q25)) (some (.inl x3))
  exact go_vret h.1 h.2.2.2.2 (by decide +kernel)
theorem ctr_X5_take (Z : ZT) (w : Nat) (x2 : Int32) (x3 : Int32) (m : Mem) : Ctr Z yX5_take prog_7_method_3_code 5 none 3 puV [.inr (.inr (4, 0)), .inr (.inr (2, w)), .inl x2, .inl x3] m (f_X5_take w x2 x3 m) :=
  ctr_of (P := P_X5) (by decide +kernel) rfl pt_X5 rfl rfl (fun X hC hZ hR h0 h1 hr => by subst hZ; exact g_X5_take ⟨hC, hR, h0, h1, hr⟩ w x2 x3 m)

def f_X3_forget (m : Mem) : Option (Unit × Mem) :=
  some ((), (mset m 17 0 3 (0 : Int32)))
theorem g_X3_forget {X : XT} (h : MX X prog_5_method_2_code P_X3 0 none) (m : Mem) : Go X (Em X puV) 0 [some (.inr (.inr (17, 0)))] [] m (f_X3_forget m) := by
  unfold f_X3_forget
  refine go_blk h.1 (is := [.aload_n 0, .iconst 0, .putfield 25]) (pc' := 5) (ls' := [some (.inr (.inr (17, 0)))]) (st' := []) (m' := (mset m 17 0 3 (0 : Int32))) (by decide +kernel) rfl ?_
  exact go_vret h.1 h.2.2.2.2 (by decide +kernel)
theorem ctr_X3_forget (Z : ZT) (m : Mem) : Ctr Z yX3_forget prog_5_method_2_code 1 none 0 puV [.inr (.inr (17, 0))] m (f_X3_forget m) :=
  ctr_of (P := P_X3) (by decide +kernel) rfl pt_X3 rfl rfl (fun X hC hZ hR h0 h1 hr => by subst hZ; exact g_X3_forget ⟨hC, hR, h0, h1, hr⟩ m)

def f_X6_faulty (x1 : Int32) (m : Mem) : Option (Int32 × Mem) :=
  some (((-10 : Int32) - x1), (mset m 0 0 6 x1))
theorem g_X6_faulty {X : XT} (h : MX X prog_1_method_36_code P_X6 0 (some .int)) (x1 : Int32) (m : Mem) : Go X (Em X puI) 0 [some (.inr (.inr (0, 0))), some (.inl x1)] [] m (f_X6_faulty x1 m) := by
  unfold f_X6_faulty
  refine go_blk h.1 (is := [.aload_n 0, .iload_n 1, .putfield 50, .bipush (-10), .iload_n 1, .isub]) (pc' := 9) (ls' := [some (.inr (.inr (0, 0))), some (.inl x1)]) (st' := [.inl ((-10 : Int32) - x1)]) (m' := (mset m 0 0 6 x1)) (by decide +kernel) rfl ?_
  exact go_iret h.1 h.2.2.2.2 (by decide +kernel)
theorem ctr_X6_faulty (Z : ZT) (x1 : Int32) (m : Mem) : Ctr Z yX6_faulty prog_1_method_36_code 2 (some .int) 0 puI [.inr (.inr (0, 0)), .inl x1] m (f_X6_faulty x1 m) :=
  ctr_of (P := P_X6) (by decide +kernel) rfl pt_X6 rfl rfl (fun X hC hZ hR h0 h1 hr => by subst hZ; exact g_X6_faulty ⟨hC, hR, h0, h1, hr⟩ x1 m)

def f_X6_ford (x1 : Int32) (x2 : Int32) (x3 : Int32) (x4 : Int32) (m : Mem) : Option (Int32 × Mem) :=
  bnd (f_X6_isSheet x1 (mset m 0 0 6 (0 : Int32))) (fun r6 m6 =>
    if r6 = 0 then
      some ((-1 : Int32), m6)
    else
      bnd (f_X6_isLane x2 m6) (fun r15 m15 =>
        if r15 = 0 then
          some ((-2 : Int32), m15)
        else
          if inB x1 4 = true then
            bnd (f_X4_faultAt (ix x1) x2 x3 x4 m15) (fun r38 m38 =>
              if r38 = 0 then
                bnd (f_X6_firstFault (ix x1) x3 x4 m38) (fun r60 m60 =>
                  if r60 = (-9 : Int32) then
                    bnd (f_X5_take (ix x1) x3 x4 m60) (fun _ m87 =>
                      bnd (f_X3_forget (mset m87 20 0 2 (0 : Int32))) (fun _ m102 =>
                        some ((m102 4 0 1), m102)))
                  else
                    some (((-100 : Int32) - r60), m60))
              else
                bnd (f_X6_faulty r38 m38) (fun r51 m51 =>
                  some (r51, m51)))
          else none))
theorem g_X6_ford {X : XT} (h : MX X prog_1_method_2_code P_X6 4 (some .int)) (x1 : Int32) (x2 : Int32) (x3 : Int32) (x4 : Int32) (m : Mem) : Go X (Em X puI) 0 [some (.inr (.inr (0, 0))), some (.inl x1), some (.inl x2), some (.inl x3), some (.inl x4), none, none, none] [] m (f_X6_ford x1 x2 x3 x4 m) := by
  unfold f_X6_ford
  refine go_blk h.1 (is := [.aload_n 0, .iconst 0, .putfield 50, .iload_n 1]) (pc' := 6) (ls' := [some (.inr (.inr (0, 0))), some (.inl x1), some (.inl x2), some (.inl x3), some (.inl x4), none, none, none]) (st' := [.inl x1]) (m' := (mset m 0 0 6 (0 : Int32))) (by decide +kernel) rfl ?_
  refine go_callS h.1 (index := 53) (n := 1) (as := [.inl x1]) (rest := []) (ctr_X6_isSheet (xZ X) x1 (mset m 0 0 6 (0 : Int32))) (by decide +kernel) wd_s_X6_53 rfl (h.room (by first | decide | omega) (by decide)) h.cl (Nat.le_of_ble_eq_true rfl) puI_ok rfl (fun r6 m6 _ => ?_)
  show Go X (Em X puI) 9 [some (.inr (.inr (0, 0))), some (.inl x1), some (.inl x2), some (.inl x3), some (.inl x4), none, none, none] [.inl r6] m6 _
  refine go_ifne h.1 (off := 5) 14 (by decide +kernel) (by decide) (fun c9 => ?_) (fun c9 => ?_)
  · refine go_blk h.1 (is := [.iload_n 2]) (pc' := 15) (ls' := [some (.inr (.inr (0, 0))), some (.inl x1), some (.inl x2), some (.inl x3), some (.inl x4), none, none, none]) (st' := [.inl x2]) (m' := m6) (by decide +kernel) rfl ?_
    refine go_callS h.1 (index := 57) (n := 1) (as := [.inl x2]) (rest := []) (ctr_X6_isLane (xZ X) x2 m6) (by decide +kernel) wd_s_X6_57 rfl (h.room (by first | decide | omega) (by decide)) h.cl (Nat.le_of_ble_eq_true rfl) puI_ok rfl (fun r15 m15 _ => ?_)
    show Go X (Em X puI) 18 [some (.inr (.inr (0, 0))), some (.inl x1), some (.inl x2), some (.inl x3), some (.inl x4), none, none, none] [.inl r15] m15 _
    refine go_ifne h.1 (off := 6) 24 (by decide +kernel) (by decide) (fun c18 => ?_) (fun c18 => ?_)
    · refine go_blk h.1 (is := [.aload_n 0, .getfield 13, .iload_n 1]) (pc' := 29) (ls' := [some (.inr (.inr (0, 0))), some (.inl x1), some (.inl x2), some (.inl x3), some (.inl x4), none, none, none]) (st' := [.inl x1, .inr (.inr (1, 0))]) (m' := m15) (by decide +kernel) rfl ?_
      refine go_aald h.1 (kd := 0) (z := (2, (ix x1))) (by decide +kernel) rfl rfl (by decide) rfl (fun b29 => ?_)
      refine go_blk h.1 (is := [.astore 5, .aload 5, .iload_n 2, .iload_n 3, .iload 4]) (pc' := 38) (ls' := [some (.inr (.inr (0, 0))), some (.inl x1), some (.inl x2), some (.inl x3), some (.inl x4), some (.inr (.inr (2, (ix x1)))), none, none]) (st' := [.inl x4, .inl x3, .inl x2, .inr (.inr (2, (ix x1)))]) (m' := m15) (by decide +kernel) rfl ?_
      refine go_callV h.1 (index := 60) (n := 3) (t := 2) (i := (ix x1)) (ci := 4) (nf := 4) (cz := (RX4, TX4, 4)) (as := [.inl x2, .inl x3, .inl x4]) (rest := []) (ctr_X4_faultAt (xZ X) (ix x1) x2 x3 x4 m15) (by decide +kernel) rfl rfl wd_v_X6_60 rfl (h.room (by first | decide | omega) (by decide)) h.cl (Nat.le_of_ble_eq_true rfl) puI_ok rfl (fun r38 m38 _ => ?_)
      show Go X (Em X puI) 41 [some (.inr (.inr (0, 0))), some (.inl x1), some (.inl x2), some (.inl x3), some (.inl x4), some (.inr (.inr (2, (ix x1)))), none, none] [.inl r38] m38 _
      refine go_blk h.1 (is := [.istore 6, .iload 6]) (pc' := 45) (ls' := [some (.inr (.inr (0, 0))), some (.inl x1), some (.inl x2), some (.inl x3), some (.inl x4), some (.inr (.inr (2, (ix x1)))), some (.inl r38), none]) (st' := [.inl r38]) (m' := m38) (by decide +kernel) rfl ?_
      refine go_ifeq h.1 (off := 10) 55 (by decide +kernel) (by decide) (fun c45 => ?_) (fun c45 => ?_)
      · refine go_blk h.1 (is := [.aload 5, .iload_n 3, .iload 4]) (pc' := 60) (ls' := [some (.inr (.inr (0, 0))), some (.inl x1), some (.inl x2), some (.inl x3), some (.inl x4), some (.inr (.inr (2, (ix x1)))), some (.inl r38), none]) (st' := [.inl x4, .inl x3, .inr (.inr (2, (ix x1)))]) (m' := m38) (by decide +kernel) rfl ?_
        refine go_callS h.1 (index := 68) (n := 3) (as := [.inr (.inr (2, (ix x1))), .inl x3, .inl x4]) (rest := []) (ctr_X6_firstFault (xZ X) (ix x1) x3 x4 m38) (by decide +kernel) wd_s_X6_68 rfl (h.room (by first | decide | omega) (by decide)) h.cl (Nat.le_of_ble_eq_true rfl) puI_ok rfl (fun r60 m60 _ => ?_)
        show Go X (Em X puI) 63 [some (.inr (.inr (0, 0))), some (.inl x1), some (.inl x2), some (.inl x3), some (.inl x4), some (.inr (.inr (2, (ix x1)))), some (.inl r38), none] [.inl r60] m60 _
        refine go_blk h.1 (is := [.istore 7, .iload 7, .bipush (-9)]) (pc' := 69) (ls' := [some (.inr (.inr (0, 0))), some (.inl x1), some (.inl x2), some (.inl x3), some (.inl x4), some (.inr (.inr (2, (ix x1)))), some (.inl r38), some (.inl r60)]) (st' := [.inl (-9 : Int32), .inl r60]) (m' := m60) (by decide +kernel) rfl ?_
        refine go_icmpeq h.1 (off := 9) 78 (by decide +kernel) (by decide) (fun c69 => ?_) (fun c69 => ?_)
        · refine go_blk h.1 (is := [.aload_n 0, .getfield 21, .aload 5, .iload_n 3, .iload 4]) (pc' := 87) (ls' := [some (.inr (.inr (0, 0))), some (.inl x1), some (.inl x2), some (.inl x3), some (.inl x4), some (.inr (.inr (2, (ix x1)))), some (.inl r38), some (.inl r60)]) (st' := [.inl x4, .inl x3, .inr (.inr (2, (ix x1))), .inr (.inr (4, 0))]) (m' := m60) (by decide +kernel) rfl ?_
          refine go_callV h.1 (index := 72) (n := 3) (t := 4) (i := 0) (ci := 5) (nf := 4) (cz := (RX5, TX5, 4)) (as := [.inr (.inr (2, (ix x1))), .inl x3, .inl x4]) (rest := []) (ctr_X5_take (xZ X) (ix x1) x3 x4 m60) (by decide +kernel) rfl rfl wd_v_X6_72 rfl (h.room (by first | decide | omega) (by decide)) h.cl (Nat.le_of_ble_eq_true rfl) puV_ok rfl (fun r87 m87 _ => ?_)
          show Go X (Em X puI) 90 [some (.inr (.inr (0, 0))), some (.inl x1), some (.inl x2), some (.inl x3), some (.inl x4), some (.inr (.inr (2, (ix x1)))), some (.inl r38), some (.inl r60)] [] m87 _
          refine go_blk h.1 (is := [.aload_n 0, .getfield 42, .iconst 0, .putfield 76, .aload_n 0, .getfield 35]) (pc' := 102) (ls' := [some (.inr (.inr (0, 0))), some (.inl x1), some (.inl x2), some (.inl x3), some (.inl x4), some (.inr (.inr (2, (ix x1)))), some (.inl r38), some (.inl r60)]) (st' := [.inr (.inr (17, 0))]) (m' := (mset m87 20 0 2 (0 : Int32))) (by decide +kernel) rfl ?_
          refine go_callV h.1 (index := 79) (n := 0) (t := 17) (i := 0) (ci := 3) (nf := 5) (cz := (RX3, TX3, 5)) (as := []) (rest := []) (ctr_X3_forget (xZ X) (mset m87 20 0 2 (0 : Int32))) (by decide +kernel) rfl rfl wd_v_X6_79 rfl (h.room (by first | decide | omega) (by decide)) h.cl (Nat.le_of_ble_eq_true rfl) puV_ok rfl (fun r102 m102 _ => ?_)
          show Go X (Em X puI) 105 [some (.inr (.inr (0, 0))), some (.inl x1), some (.inl x2), some (.inl x3), some (.inl x4), some (.inr (.inr (2, (ix x1)))), some (.inl r38), some (.inl r60)] [] m102 _
          refine go_blk h.1 (is := [.aload_n 0, .getfield 21, .getfield 82]) (pc' := 112) (ls' := [some (.inr (.inr (0, 0))), some (.inl x1), some (.inl x2), some (.inl x3), some (.inl x4), some (.inr (.inr (2, (ix x1)))), some (.inl r38), some (.inl r60)]) (st' := [.inl (m102 4 0 1)]) (m' := m102) (by decide +kernel) rfl ?_
          exact go_iret h.1 h.2.2.2.2 (by decide +kernel)
        · refine go_blk h.1 (is := [.bipush (-100), .iload 7, .isub]) (pc' := 77) (ls' := [some (.inr (.inr (0, 0))), some (.inl x1), some (.inl x2), some (.inl x3), some (.inl x4), some (.inr (.inr (2, (ix x1)))), some (.inl r38), some (.inl r60)]) (st' := [.inl ((-100 : Int32) - r60)]) (m' := m60) (by decide +kernel) rfl ?_
          exact go_iret h.1 h.2.2.2.2 (by decide +kernel)
      · refine go_blk h.1 (is := [.aload_n 0, .iload 6]) (pc' := 51) (ls' := [some (.inr (.inr (0, 0))), some (.inl x1), some (.inl x2), some (.inl x3), some (.inl x4), some (.inr (.inr (2, (ix x1)))), some (.inl r38), none]) (st' := [.inl r38, .inr (.inr (0, 0))]) (m' := m38) (by decide +kernel) rfl ?_
        refine go_callV h.1 (index := 64) (n := 1) (t := 0) (i := 0) (ci := 6) (nf := 7) (cz := (RX6, TX6, 7)) (as := [.inl r38]) (rest := []) (ctr_X6_faulty (xZ X) r38 m38) (by decide +kernel) rfl rfl wd_v_X6_64 rfl (h.room (by first | decide | omega) (by decide)) h.cl (Nat.le_of_ble_eq_true rfl) puI_ok rfl (fun r51 m51 _ => ?_)
        show Go X (Em X puI) 54 [some (.inr (.inr (0, 0))), some (.inl x1), some (.inl x2), some (.inl x3), some (.inl x4), some (.inr (.inr (2, (ix x1)))), some (.inl r38), none] [.inl r51] m51 _
        exact go_iret h.1 h.2.2.2.2 (by decide +kernel)
    · refine go_blk h.1 (is := [.bipush (-2)]) (pc' := 23) (ls' := [some (.inr (.inr (0, 0))), some (.inl x1), some (.inl x2), some (.inl x3), some (.inl x4), none, none, none]) (st' := [.inl (-2 : Int32)]) (m' := m15) (by decide +kernel) rfl ?_
      exact go_iret h.1 h.2.2.2.2 (by decide +kernel)
  · refine go_blk h.1 (is := [.iconst (-1)]) (pc' := 13) (ls' := [some (.inr (.inr (0, 0))), some (.inl x1), some (.inl x2), some (.inl x3), some (.inl x4), none, none, none]) (st' := [.inl (-1 : Int32)]) (m' := m6) (by decide +kernel) rfl ?_
    exact go_iret h.1 h.2.2.2.2 (by decide +kernel)
theorem ctr_X6_ford (Z : ZT) (x1 : Int32) (x2 : Int32) (x3 : Int32) (x4 : Int32) (m : Mem) : Ctr Z yX6_ford prog_1_method_2_code 8 (some .int) 4 puI [.inr (.inr (0, 0)), .inl x1, .inl x2, .inl x3, .inl x4] m (f_X6_ford x1 x2 x3 x4 m) :=
  ctr_of (P := P_X6) (by decide +kernel) rfl pt_X6 rfl rfl (fun X hC hZ hR h0 h1 hr => by subst hZ; exact g_X6_ford ⟨hC, hR, h0, h1, hr⟩ x1 x2 x3 x4 m)

def f_X5_has (x1 : Int32) (m : Mem) : Option (Int32 × Mem) :=
  if x1 < 0 then
    some ((0 : Int32), m)
  else
    if (m 4 0 1) ≤ x1 then
      some ((0 : Int32), m)
    else
      some ((1 : Int32), m)
theorem g_X5_has {X : XT} (h : MX X prog_7_method_2_code P_X5 0 (some .boolean)) (x1 : Int32) (m : Mem) : Go X (Em X puI) 0 [some (.inr (.inr (4, 0))), some (.inl x1)] [] m (f_X5_has x1 m) := by
  unfold f_X5_has
  refine go_blk h.1 (is := [.iload_n 1]) (pc' := 1) (ls' := [some (.inr (.inr (4, 0))), some (.inl x1)]) (st' := [.inl x1]) (m' := m) (by decide +kernel) rfl ?_
  refine go_iflt h.1 (off := 15) 16 (by decide +kernel) (by decide) (fun c1 => ?_) (fun c1 => ?_)
  · refine go_blk h.1 (is := [.iconst 0]) (pc' := 17) (ls' := [some (.inr (.inr (4, 0))), some (.inl x1)]) (st' := [.inl (0 : Int32)]) (m' := m) (by decide +kernel) rfl ?_
    exact go_zret h.1 h.2.2.2.2 (Or.inl rfl) (by decide +kernel)
  · refine go_blk h.1 (is := [.iload_n 1, .aload_n 0, .getfield 18]) (pc' := 9) (ls' := [some (.inr (.inr (4, 0))), some (.inl x1)]) (st' := [.inl (m 4 0 1), .inl x1]) (m' := m) (by decide +kernel) rfl ?_
    refine go_icmpge h.1 (off := 7) 16 (by decide +kernel) (by decide) (fun c9 => ?_) (fun c9 => ?_)
    · refine go_blk h.1 (is := [.iconst 0]) (pc' := 17) (ls' := [some (.inr (.inr (4, 0))), some (.inl x1)]) (st' := [.inl (0 : Int32)]) (m' := m) (by decide +kernel) rfl ?_
      exact go_zret h.1 h.2.2.2.2 (Or.inl rfl) (by decide +kernel)
    · refine go_blk h.1 (is := [.iconst 1]) (pc' := 13) (ls' := [some (.inr (.inr (4, 0))), some (.inl x1)]) (st' := [.inl (1 : Int32)]) (m' := m) (by decide +kernel) rfl ?_
      refine go_goto h.1 (off := 4) 17 (by decide +kernel) (by decide) ?_
      exact go_zret h.1 h.2.2.2.2 (Or.inr rfl) (by decide +kernel)
theorem ctr_X5_has (Z : ZT) (x1 : Int32) (m : Mem) : Ctr Z yX5_has prog_7_method_2_code 2 (some .boolean) 0 puI [.inr (.inr (4, 0)), .inl x1] m (f_X5_has x1 m) :=
  ctr_of (P := P_X5) (by decide +kernel) rfl pt_X5 rfl rfl (fun X hC hZ hR h0 h1 hr => by subst hZ; exact g_X5_has ⟨hC, hR, h0, h1, hr⟩ x1 m)

def f_X6_shareOf (x0 : Int32) (x1 : Int32) (m : Mem) : Option (Int32 × Mem) :=
  if x0 = (1 : Int32) then
    some ((x1 - (1 : Int32)), m)
  else
    if x0 = (2 : Int32) then
      if ¬ (2 : Int32) = 0 then dv ((x1 - (1 : Int32)) / (2 : Int32)) (fun q32 =>
        some (q32, m))
      else none
    else
      some (x1, m)
theorem g_X6_shareOf {X : XT} (h : MX X prog_1_method_35_code P_X6 0 (some .int)) (x0 : Int32) (x1 : Int32) (m : Mem) : Go X (Em X puI) 0 [some (.inl x0), some (.inl x1)] [] m (f_X6_shareOf x0 x1 m) := by
  unfold f_X6_shareOf
  refine go_blk h.1 (is := [.iload_n 0]) (pc' := 1) (ls' := [some (.inl x0), some (.inl x1)]) (st' := [.inl x0]) (m' := m) (by decide +kernel) rfl ?_
  refine go_ite (fun w1_0 => ?_) (fun w1_0 => ?_)
  · refine go_lsIn h.1 (dflt := 37) (ps := #[(1, 33), (2, 27)]) (len := 27) (off := 33) (1 : Int32) 34 w1_0 (by decide +kernel) (by decide) rfl (by decide) ?_
    refine go_blk h.1 (is := [.iload_n 1, .iconst 1, .isub]) (pc' := 37) (ls' := [some (.inl x0), some (.inl x1)]) (st' := [.inl (x1 - (1 : Int32))]) (m' := m) (by decide +kernel) rfl ?_
    exact go_iret h.1 h.2.2.2.2 (by decide +kernel)
  · refine go_ite (fun w1_1 => ?_) (fun w1_1 => ?_)
    · refine go_lsIn h.1 (dflt := 37) (ps := #[(1, 33), (2, 27)]) (len := 27) (off := 27) (2 : Int32) 28 w1_1 (by decide +kernel) (by decide) rfl (by decide) ?_
      refine go_blk h.1 (is := [.iload_n 1, .iconst 1, .isub, .iconst 2]) (pc' := 32) (ls' := [some (.inl x0), some (.inl x1)]) (st' := [.inl (2 : Int32), .inl (x1 - (1 : Int32))]) (m' := m) (by decide +kernel) rfl ?_
      refine go_idiv h.1 (by decide +kernel) (fun z32 q32 _ => ?_)
      exact go_iret h.1 h.2.2.2.2 (by decide +kernel)
    · refine go_ls h.1 (dflt := 37) (ps := #[(1, 33), (2, 27)]) (len := 27) 38 (off := 37) (by decide +kernel) (by decide) (by simp only [Op.lookupswitch.offset]; rw [if_neg (fun q => toInt_ne w1_0 q.symm)]; rw [if_neg (fun q => toInt_ne w1_1 q.symm)]) (by decide) ?_
      refine go_blk h.1 (is := [.iload_n 1]) (pc' := 39) (ls' := [some (.inl x0), some (.inl x1)]) (st' := [.inl x1]) (m' := m) (by decide +kernel) rfl ?_
      exact go_iret h.1 h.2.2.2.2 (by decide +kernel)
theorem ctr_X6_shareOf (Z : ZT) (x0 : Int32) (x1 : Int32) (m : Mem) : Ctr Z yX6_shareOf prog_1_method_35_code 2 (some .int) 0 puI [.inl x0, .inl x1] m (f_X6_shareOf x0 x1 m) :=
  ctr_of (P := P_X6) (by decide +kernel) rfl pt_X6 rfl rfl (fun X hC hZ hR h0 h1 hr => by subst hZ; exact g_X6_shareOf ⟨hC, hR, h0, h1, hr⟩ x0 x1 m)

def f_X6_ofFish (x1 : Int32) (x2 : Int32) (m : Mem) : Option (Int32 × Mem) :=
  bnd (f_X5_has x1 m) (fun r5 m5 =>
    if r5 = 0 then
      some ((-1 : Int32), m5)
    else
      if inB x1 5 = true then
        if x2 = (0 : Int32) then
          some ((m5 6 (ix x1) 0), m5)
        else
          if x2 = (1 : Int32) then
            some ((m5 6 (ix x1) 1), m5)
          else
            if x2 = (2 : Int32) then
              some ((m5 6 (ix x1) 2), m5)
            else
              if x2 = (3 : Int32) then
                some ((m5 6 (ix x1) 3), m5)
              else
                if x2 = (4 : Int32) then
                  some ((m5 6 (ix x1) 4), m5)
                else
                  if x2 = (5 : Int32) then
                    bnd (f_X6_shareOf (m5 6 (ix x1) 0) (m5 6 (ix x1) 1) m5) (fun r97 m97 =>
                      some (r97, m97))
                  else
                    some ((-2 : Int32), m5)
      else none)
theorem g_X6_ofFish {X : XT} (h : MX X prog_1_method_3_code P_X6 1 (some .int)) (x1 : Int32) (x2 : Int32) (m : Mem) : Go X (Em X puI) 0 [some (.inr (.inr (0, 0))), some (.inl x1), some (.inl x2), none] [] m (f_X6_ofFish x1 x2 m) := by
  unfold f_X6_ofFish
  refine go_blk h.1 (is := [.aload_n 0, .getfield 21, .iload_n 1]) (pc' := 5) (ls' := [some (.inr (.inr (0, 0))), some (.inl x1), some (.inl x2), none]) (st' := [.inl x1, .inr (.inr (4, 0))]) (m' := m) (by decide +kernel) rfl ?_
  refine go_callV h.1 (index := 83) (n := 1) (t := 4) (i := 0) (ci := 5) (nf := 4) (cz := (RX5, TX5, 4)) (as := [.inl x1]) (rest := []) (ctr_X5_has (xZ X) x1 m) (by decide +kernel) rfl rfl wd_v_X6_83 rfl (h.room (by first | decide | omega) (by decide)) h.cl (Nat.le_of_ble_eq_true rfl) puI_ok rfl (fun r5 m5 _ => ?_)
  show Go X (Em X puI) 8 [some (.inr (.inr (0, 0))), some (.inl x1), some (.inl x2), none] [.inl r5] m5 _
  refine go_ifne h.1 (off := 5) 13 (by decide +kernel) (by decide) (fun c8 => ?_) (fun c8 => ?_)
  · refine go_blk h.1 (is := [.aload_n 0, .getfield 21, .getfield 86, .iload_n 1]) (pc' := 21) (ls' := [some (.inr (.inr (0, 0))), some (.inl x1), some (.inl x2), none]) (st' := [.inl x1, .inr (.inr (5, 0))]) (m' := m5) (by decide +kernel) rfl ?_
    refine go_aald h.1 (kd := 1) (z := (6, (ix x1))) (by decide +kernel) rfl rfl (by decide) rfl (fun b21 => ?_)
    refine go_blk h.1 (is := [.astore_n 3, .iload_n 2]) (pc' := 24) (ls' := [some (.inr (.inr (0, 0))), some (.inl x1), some (.inl x2), some (.inr (.inr (6, (ix x1))))]) (st' := [.inl x2]) (m' := m5) (by decide +kernel) rfl ?_
    refine go_ite (fun w24_0 => ?_) (fun w24_0 => ?_)
    · refine go_tsIn h.1 (dflt := 77) (lo := 0) (hi := 5) (offs := #[40, 45, 50, 55, 60, 65]) (len := 40) (off := 40) (0 : Int32) 64 w24_0 (by decide +kernel) (by decide) rfl (by decide) ?_
      refine go_blk h.1 (is := [.aload_n 3, .getfield 90]) (pc' := 68) (ls' := [some (.inr (.inr (0, 0))), some (.inl x1), some (.inl x2), some (.inr (.inr (6, (ix x1))))]) (st' := [.inl (m5 6 (ix x1) 0)]) (m' := m5) (by decide +kernel) rfl ?_
      exact go_iret h.1 h.2.2.2.2 (by decide +kernel)
    · refine go_ite (fun w24_1 => ?_) (fun w24_1 => ?_)
      · refine go_tsIn h.1 (dflt := 77) (lo := 0) (hi := 5) (offs := #[40, 45, 50, 55, 60, 65]) (len := 40) (off := 45) (1 : Int32) 69 w24_1 (by decide +kernel) (by decide) rfl (by decide) ?_
        refine go_blk h.1 (is := [.aload_n 3, .getfield 95]) (pc' := 73) (ls' := [some (.inr (.inr (0, 0))), some (.inl x1), some (.inl x2), some (.inr (.inr (6, (ix x1))))]) (st' := [.inl (m5 6 (ix x1) 1)]) (m' := m5) (by decide +kernel) rfl ?_
        exact go_iret h.1 h.2.2.2.2 (by decide +kernel)
      · refine go_ite (fun w24_2 => ?_) (fun w24_2 => ?_)
        · refine go_tsIn h.1 (dflt := 77) (lo := 0) (hi := 5) (offs := #[40, 45, 50, 55, 60, 65]) (len := 40) (off := 50) (2 : Int32) 74 w24_2 (by decide +kernel) (by decide) rfl (by decide) ?_
          refine go_blk h.1 (is := [.aload_n 3, .getfield 98]) (pc' := 78) (ls' := [some (.inr (.inr (0, 0))), some (.inl x1), some (.inl x2), some (.inr (.inr (6, (ix x1))))]) (st' := [.inl (m5 6 (ix x1) 2)]) (m' := m5) (by decide +kernel) rfl ?_
          exact go_iret h.1 h.2.2.2.2 (by decide +kernel)
        · refine go_ite (fun w24_3 => ?_) (fun w24_3 => ?_)
          · refine go_tsIn h.1 (dflt := 77) (lo := 0) (hi := 5) (offs := #[40, 45, 50, 55, 60, 65]) (len := 40) (off := 55) (3 : Int32) 79 w24_3 (by decide +kernel) (by decide) rfl (by decide) ?_
            refine go_blk h.1 (is := [.aload_n 3, .getfield 101]) (pc' := 83) (ls' := [some (.inr (.inr (0, 0))), some (.inl x1), some (.inl x2), some (.inr (.inr (6, (ix x1))))]) (st' := [.inl (m5 6 (ix x1) 3)]) (m' := m5) (by decide +kernel) rfl ?_
            exact go_iret h.1 h.2.2.2.2 (by decide +kernel)
          · refine go_ite (fun w24_4 => ?_) (fun w24_4 => ?_)
            · refine go_tsIn h.1 (dflt := 77) (lo := 0) (hi := 5) (offs := #[40, 45, 50, 55, 60, 65]) (len := 40) (off := 60) (4 : Int32) 84 w24_4 (by decide +kernel) (by decide) rfl (by decide) ?_
              refine go_blk h.1 (is := [.aload_n 3, .getfield 104]) (pc' := 88) (ls' := [some (.inr (.inr (0, 0))), some (.inl x1), some (.inl x2), some (.inr (.inr (6, (ix x1))))]) (st' := [.inl (m5 6 (ix x1) 4)]) (m' := m5) (by decide +kernel) rfl ?_
              exact go_iret h.1 h.2.2.2.2 (by decide +kernel)
            · refine go_ite (fun w24_5 => ?_) (fun w24_5 => ?_)
              · refine go_tsIn h.1 (dflt := 77) (lo := 0) (hi := 5) (offs := #[40, 45, 50, 55, 60, 65]) (len := 40) (off := 65) (5 : Int32) 89 w24_5 (by decide +kernel) (by decide) rfl (by decide) ?_
                refine go_blk h.1 (is := [.aload_n 3, .getfield 90, .aload_n 3, .getfield 95]) (pc' := 97) (ls' := [some (.inr (.inr (0, 0))), some (.inl x1), some (.inl x2), some (.inr (.inr (6, (ix x1))))]) (st' := [.inl (m5 6 (ix x1) 1), .inl (m5 6 (ix x1) 0)]) (m' := m5) (by decide +kernel) rfl ?_
                refine go_callS h.1 (index := 107) (n := 2) (as := [.inl (m5 6 (ix x1) 0), .inl (m5 6 (ix x1) 1)]) (rest := []) (ctr_X6_shareOf (xZ X) (m5 6 (ix x1) 0) (m5 6 (ix x1) 1) m5) (by decide +kernel) wd_s_X6_107 rfl (h.room (by first | decide | omega) (by decide)) h.cl (Nat.le_of_ble_eq_true rfl) puI_ok rfl (fun r97 m97 _ => ?_)
                show Go X (Em X puI) 100 [some (.inr (.inr (0, 0))), some (.inl x1), some (.inl x2), some (.inr (.inr (6, (ix x1))))] [.inl r97] m97 _
                exact go_iret h.1 h.2.2.2.2 (by decide +kernel)
              · refine go_tsOut h.1 (dflt := 77) (lo := 0) (hi := 5) (offs := #[40, 45, 50, 55, 60, 65]) (len := 40) 101 (by decide +kernel) (sw_out (n := 6) (by decide) ((lt_s (lt_s (lt_s (lt_s (lt_s (lt_s lt_0 w24_0) w24_1) w24_2) w24_3) w24_4) w24_5) : ∀ j : Nat, j < 6 → ¬ x2 = Int32.ofInt (0 + (j : Int)))) (by decide) ?_
                refine go_blk h.1 (is := [.bipush (-2)]) (pc' := 103) (ls' := [some (.inr (.inr (0, 0))), some (.inl x1), some (.inl x2), some (.inr (.inr (6, (ix x1))))]) (st' := [.inl (-2 : Int32)]) (m' := m5) (by decide +kernel) rfl ?_
                exact go_iret h.1 h.2.2.2.2 (by decide +kernel)
  · refine go_blk h.1 (is := [.iconst (-1)]) (pc' := 12) (ls' := [some (.inr (.inr (0, 0))), some (.inl x1), some (.inl x2), none]) (st' := [.inl (-1 : Int32)]) (m' := m5) (by decide +kernel) rfl ?_
    exact go_iret h.1 h.2.2.2.2 (by decide +kernel)
theorem ctr_X6_ofFish (Z : ZT) (x1 : Int32) (x2 : Int32) (m : Mem) : Ctr Z yX6_ofFish prog_1_method_3_code 4 (some .int) 1 puI [.inr (.inr (0, 0)), .inl x1, .inl x2] m (f_X6_ofFish x1 x2 m) :=
  ctr_of (P := P_X6) (by decide +kernel) rfl pt_X6 rfl rfl (fun X hC hZ hR h0 h1 hr => by subst hZ; exact g_X6_ofFish ⟨hC, hR, h0, h1, hr⟩ x1 x2 m)

def f_X6_dear (x1 : Int32) (m : Mem) : Option (Int32 × Mem) :=
  bnd (f_X6_isWithin x1 (0 : Int32) (9 : Int32) m) (fun r4 m4 =>
    if r4 = 0 then
      some ((-2 : Int32), m4)
    else
      if (m4 4 0 1) = 0 then
        some ((-3 : Int32), m4)
      else
        bnd (f_X3_forget (mset m4 4 0 2 x1)) (fun _ m46 =>
          some ((m4 4 0 2), m46)))
theorem g_X6_dear {X : XT} (h : MX X prog_1_method_4_code P_X6 1 (some .int)) (x1 : Int32) (m : Mem) : Go X (Em X puI) 0 [some (.inr (.inr (0, 0))), some (.inl x1), none] [] m (f_X6_dear x1 m) := by
  unfold f_X6_dear
  refine go_blk h.1 (is := [.iload_n 1, .iconst 0, .bipush 9]) (pc' := 4) (ls' := [some (.inr (.inr (0, 0))), some (.inl x1), none]) (st' := [.inl (9 : Int32), .inl (0 : Int32), .inl x1]) (m' := m) (by decide +kernel) rfl ?_
  refine go_callS h.1 (index := 111) (n := 3) (as := [.inl x1, .inl (0 : Int32), .inl (9 : Int32)]) (rest := []) (ctr_X6_isWithin (xZ X) x1 (0 : Int32) (9 : Int32) m) (by decide +kernel) wd_s_X6_111 rfl (h.room (by first | decide | omega) (by decide)) h.cl (Nat.le_of_ble_eq_true rfl) puI_ok rfl (fun r4 m4 _ => ?_)
  show Go X (Em X puI) 7 [some (.inr (.inr (0, 0))), some (.inl x1), none] [.inl r4] m4 _
  refine go_ifne h.1 (off := 6) 13 (by decide +kernel) (by decide) (fun c7 => ?_) (fun c7 => ?_)
  · refine go_blk h.1 (is := [.aload_n 0, .getfield 21, .getfield 82]) (pc' := 20) (ls' := [some (.inr (.inr (0, 0))), some (.inl x1), none]) (st' := [.inl (m4 4 0 1)]) (m' := m4) (by decide +kernel) rfl ?_
    refine go_ifne h.1 (off := 6) 26 (by decide +kernel) (by decide) (fun c20 => ?_) (fun c20 => ?_)
    · refine go_blk h.1 (is := [.aload_n 0, .getfield 21, .getfield 115, .istore_n 2, .aload_n 0, .getfield 21, .iload_n 1, .putfield 115, .aload_n 0, .getfield 35]) (pc' := 46) (ls' := [some (.inr (.inr (0, 0))), some (.inl x1), some (.inl (m4 4 0 2))]) (st' := [.inr (.inr (17, 0))]) (m' := (mset m4 4 0 2 x1)) (by decide +kernel) rfl ?_
      refine go_callV h.1 (index := 79) (n := 0) (t := 17) (i := 0) (ci := 3) (nf := 5) (cz := (RX3, TX3, 5)) (as := []) (rest := []) (ctr_X3_forget (xZ X) (mset m4 4 0 2 x1)) (by decide +kernel) rfl rfl wd_v_X6_79 rfl (h.room (by first | decide | omega) (by decide)) h.cl (Nat.le_of_ble_eq_true rfl) puV_ok rfl (fun r46 m46 _ => ?_)
      show Go X (Em X puI) 49 [some (.inr (.inr (0, 0))), some (.inl x1), some (.inl (m4 4 0 2))] [] m46 _
      refine go_blk h.1 (is := [.iload_n 2]) (pc' := 50) (ls' := [some (.inr (.inr (0, 0))), some (.inl x1), some (.inl (m4 4 0 2))]) (st' := [.inl (m4 4 0 2)]) (m' := m46) (by decide +kernel) rfl ?_
      exact go_iret h.1 h.2.2.2.2 (by decide +kernel)
    · refine go_blk h.1 (is := [.bipush (-3)]) (pc' := 25) (ls' := [some (.inr (.inr (0, 0))), some (.inl x1), none]) (st' := [.inl (-3 : Int32)]) (m' := m4) (by decide +kernel) rfl ?_
      exact go_iret h.1 h.2.2.2.2 (by decide +kernel)
  · refine go_blk h.1 (is := [.bipush (-2)]) (pc' := 12) (ls' := [some (.inr (.inr (0, 0))), some (.inl x1), none]) (st' := [.inl (-2 : Int32)]) (m' := m4) (by decide +kernel) rfl ?_
    exact go_iret h.1 h.2.2.2.2 (by decide +kernel)
theorem ctr_X6_dear (Z : ZT) (x1 : Int32) (m : Mem) : Ctr Z yX6_dear prog_1_method_4_code 3 (some .int) 1 puI [.inr (.inr (0, 0)), .inl x1] m (f_X6_dear x1 m) :=
  ctr_of (P := P_X6) (by decide +kernel) rfl pt_X6 rfl rfl (fun X hC hZ hR h0 h1 hr => by subst hZ; exact g_X6_dear ⟨hC, hR, h0, h1, hr⟩ x1 m)

def f_X6_scales (x1 : Int32) (x2 : Int32) (m : Mem) : Option (Int32 × Mem) :=
  bnd (f_X5_has x1 m) (fun r5 m5 =>
    if r5 = 0 then
      some ((-1 : Int32), m5)
    else
      bnd (f_X6_isWithin x2 (0 : Int32) (99 : Int32) m5) (fun r17 m17 =>
        if r17 = 0 then
          some ((-2 : Int32), m17)
        else
          if inB x1 5 = true then
            if inB x1 5 = true then
              bnd (f_X3_forget (mset m17 6 (ix x1) 2 x2)) (fun _ m56 =>
                some ((m17 6 (ix x1) 2), m56))
            else none
          else none))
theorem g_X6_scales {X : XT} (h : MX X prog_1_method_5_code P_X6 1 (some .int)) (x1 : Int32) (x2 : Int32) (m : Mem) : Go X (Em X puI) 0 [some (.inr (.inr (0, 0))), some (.inl x1), some (.inl x2), none] [] m (f_X6_scales x1 x2 m) := by
  unfold f_X6_scales
  refine go_blk h.1 (is := [.aload_n 0, .getfield 21, .iload_n 1]) (pc' := 5) (ls' := [some (.inr (.inr (0, 0))), some (.inl x1), some (.inl x2), none]) (st' := [.inl x1, .inr (.inr (4, 0))]) (m' := m) (by decide +kernel) rfl ?_
  refine go_callV h.1 (index := 83) (n := 1) (t := 4) (i := 0) (ci := 5) (nf := 4) (cz := (RX5, TX5, 4)) (as := [.inl x1]) (rest := []) (ctr_X5_has (xZ X) x1 m) (by decide +kernel) rfl rfl wd_v_X6_83 rfl (h.room (by first | decide | omega) (by decide)) h.cl (Nat.le_of_ble_eq_true rfl) puI_ok rfl (fun r5 m5 _ => ?_)
  show Go X (Em X puI) 8 [some (.inr (.inr (0, 0))), some (.inl x1), some (.inl x2), none] [.inl r5] m5 _
  refine go_ifne h.1 (off := 5) 13 (by decide +kernel) (by decide) (fun c8 => ?_) (fun c8 => ?_)
  · refine go_blk h.1 (is := [.iload_n 2, .iconst 0, .bipush 99]) (pc' := 17) (ls' := [some (.inr (.inr (0, 0))), some (.inl x1), some (.inl x2), none]) (st' := [.inl (99 : Int32), .inl (0 : Int32), .inl x2]) (m' := m5) (by decide +kernel) rfl ?_
    refine go_callS h.1 (index := 111) (n := 3) (as := [.inl x2, .inl (0 : Int32), .inl (99 : Int32)]) (rest := []) (ctr_X6_isWithin (xZ X) x2 (0 : Int32) (99 : Int32) m5) (by decide +kernel) wd_s_X6_111 rfl (h.room (by first | decide | omega) (by decide)) h.cl (Nat.le_of_ble_eq_true rfl) puI_ok rfl (fun r17 m17 _ => ?_)
    show Go X (Em X puI) 20 [some (.inr (.inr (0, 0))), some (.inl x1), some (.inl x2), none] [.inl r17] m17 _
    refine go_ifne h.1 (off := 6) 26 (by decide +kernel) (by decide) (fun c20 => ?_) (fun c20 => ?_)
    · refine go_blk h.1 (is := [.aload_n 0, .getfield 21, .getfield 86, .iload_n 1]) (pc' := 34) (ls' := [some (.inr (.inr (0, 0))), some (.inl x1), some (.inl x2), none]) (st' := [.inl x1, .inr (.inr (5, 0))]) (m' := m17) (by decide +kernel) rfl ?_
      refine go_aald h.1 (kd := 1) (z := (6, (ix x1))) (by decide +kernel) rfl rfl (by decide) rfl (fun b34 => ?_)
      refine go_blk h.1 (is := [.getfield 98, .istore_n 3, .aload_n 0, .getfield 21, .getfield 86, .iload_n 1]) (pc' := 47) (ls' := [some (.inr (.inr (0, 0))), some (.inl x1), some (.inl x2), some (.inl (m17 6 (ix x1) 2))]) (st' := [.inl x1, .inr (.inr (5, 0))]) (m' := m17) (by decide +kernel) rfl ?_
      refine go_aald h.1 (kd := 1) (z := (6, (ix x1))) (by decide +kernel) rfl rfl (by decide) rfl (fun b47 => ?_)
      refine go_blk h.1 (is := [.iload_n 2, .putfield 98, .aload_n 0, .getfield 35]) (pc' := 56) (ls' := [some (.inr (.inr (0, 0))), some (.inl x1), some (.inl x2), some (.inl (m17 6 (ix x1) 2))]) (st' := [.inr (.inr (17, 0))]) (m' := (mset m17 6 (ix x1) 2 x2)) (by decide +kernel) rfl ?_
      refine go_callV h.1 (index := 79) (n := 0) (t := 17) (i := 0) (ci := 3) (nf := 5) (cz := (RX3, TX3, 5)) (as := []) (rest := []) (ctr_X3_forget (xZ X) (mset m17 6 (ix x1) 2 x2)) (by decide +kernel) rfl rfl wd_v_X6_79 rfl (h.room (by first | decide | omega) (by decide)) h.cl (Nat.le_of_ble_eq_true rfl) puV_ok rfl (fun r56 m56 _ => ?_)
      show Go X (Em X puI) 59 [some (.inr (.inr (0, 0))), some (.inl x1), some (.inl x2), some (.inl (m17 6 (ix x1) 2))] [] m56 _
      refine go_blk h.1 (is := [.iload_n 3]) (pc' := 60) (ls' := [some (.inr (.inr (0, 0))), some (.inl x1), some (.inl x2), some (.inl (m17 6 (ix x1) 2))]) (st' := [.inl (m17 6 (ix x1) 2)]) (m' := m56) (by decide +kernel) rfl ?_
      exact go_iret h.1 h.2.2.2.2 (by decide +kernel)
    · refine go_blk h.1 (is := [.bipush (-2)]) (pc' := 25) (ls' := [some (.inr (.inr (0, 0))), some (.inl x1), some (.inl x2), none]) (st' := [.inl (-2 : Int32)]) (m' := m17) (by decide +kernel) rfl ?_
      exact go_iret h.1 h.2.2.2.2 (by decide +kernel)
  · refine go_blk h.1 (is := [.iconst (-1)]) (pc' := 12) (ls' := [some (.inr (.inr (0, 0))), some (.inl x1), some (.inl x2), none]) (st' := [.inl (-1 : Int32)]) (m' := m5) (by decide +kernel) rfl ?_
    exact go_iret h.1 h.2.2.2.2 (by decide +kernel)
theorem ctr_X6_scales (Z : ZT) (x1 : Int32) (x2 : Int32) (m : Mem) : Ctr Z yX6_scales prog_1_method_5_code 4 (some .int) 1 puI [.inr (.inr (0, 0)), .inl x1, .inl x2] m (f_X6_scales x1 x2 m) :=
  ctr_of (P := P_X6) (by decide +kernel) rfl pt_X6 rfl rfl (fun X hC hZ hR h0 h1 hr => by subst hZ; exact g_X6_scales ⟨hC, hR, h0, h1, hr⟩ x1 x2 m)

def f_X6_hear (x1 : Int32) (m : Mem) : Option (Int32 × Mem) :=
  bnd (f_X6_isWithin x1 (0 : Int32) (63 : Int32) m) (fun r4 m4 =>
    if r4 = 0 then
      some ((-2 : Int32), m4)
    else
      if (m4 4 0 1) = 0 then
        some ((-3 : Int32), m4)
      else
        bnd (f_X3_forget (mset m4 4 0 3 x1)) (fun _ m46 =>
          some ((m4 4 0 3), m46)))
theorem g_X6_hear {X : XT} (h : MX X prog_1_method_6_code P_X6 1 (some .int)) (x1 : Int32) (m : Mem) : Go X (Em X puI) 0 [some (.inr (.inr (0, 0))), some (.inl x1), none] [] m (f_X6_hear x1 m) := by
  unfold f_X6_hear
  refine go_blk h.1 (is := [.iload_n 1, .iconst 0, .bipush 63]) (pc' := 4) (ls' := [some (.inr (.inr (0, 0))), some (.inl x1), none]) (st' := [.inl (63 : Int32), .inl (0 : Int32), .inl x1]) (m' := m) (by decide +kernel) rfl ?_
  refine go_callS h.1 (index := 111) (n := 3) (as := [.inl x1, .inl (0 : Int32), .inl (63 : Int32)]) (rest := []) (ctr_X6_isWithin (xZ X) x1 (0 : Int32) (63 : Int32) m) (by decide +kernel) wd_s_X6_111 rfl (h.room (by first | decide | omega) (by decide)) h.cl (Nat.le_of_ble_eq_true rfl) puI_ok rfl (fun r4 m4 _ => ?_)
  show Go X (Em X puI) 7 [some (.inr (.inr (0, 0))), some (.inl x1), none] [.inl r4] m4 _
  refine go_ifne h.1 (off := 6) 13 (by decide +kernel) (by decide) (fun c7 => ?_) (fun c7 => ?_)
  · refine go_blk h.1 (is := [.aload_n 0, .getfield 21, .getfield 82]) (pc' := 20) (ls' := [some (.inr (.inr (0, 0))), some (.inl x1), none]) (st' := [.inl (m4 4 0 1)]) (m' := m4) (by decide +kernel) rfl ?_
    refine go_ifne h.1 (off := 6) 26 (by decide +kernel) (by decide) (fun c20 => ?_) (fun c20 => ?_)
    · refine go_blk h.1 (is := [.aload_n 0, .getfield 21, .getfield 118, .istore_n 2, .aload_n 0, .getfield 21, .iload_n 1, .putfield 118, .aload_n 0, .getfield 35]) (pc' := 46) (ls' := [some (.inr (.inr (0, 0))), some (.inl x1), some (.inl (m4 4 0 3))]) (st' := [.inr (.inr (17, 0))]) (m' := (mset m4 4 0 3 x1)) (by decide +kernel) rfl ?_
      refine go_callV h.1 (index := 79) (n := 0) (t := 17) (i := 0) (ci := 3) (nf := 5) (cz := (RX3, TX3, 5)) (as := []) (rest := []) (ctr_X3_forget (xZ X) (mset m4 4 0 3 x1)) (by decide +kernel) rfl rfl wd_v_X6_79 rfl (h.room (by first | decide | omega) (by decide)) h.cl (Nat.le_of_ble_eq_true rfl) puV_ok rfl (fun r46 m46 _ => ?_)
      show Go X (Em X puI) 49 [some (.inr (.inr (0, 0))), some (.inl x1), some (.inl (m4 4 0 3))] [] m46 _
      refine go_blk h.1 (is := [.iload_n 2]) (pc' := 50) (ls' := [some (.inr (.inr (0, 0))), some (.inl x1), some (.inl (m4 4 0 3))]) (st' := [.inl (m4 4 0 3)]) (m' := m46) (by decide +kernel) rfl ?_
      exact go_iret h.1 h.2.2.2.2 (by decide +kernel)
    · refine go_blk h.1 (is := [.bipush (-3)]) (pc' := 25) (ls' := [some (.inr (.inr (0, 0))), some (.inl x1), none]) (st' := [.inl (-3 : Int32)]) (m' := m4) (by decide +kernel) rfl ?_
      exact go_iret h.1 h.2.2.2.2 (by decide +kernel)
  · refine go_blk h.1 (is := [.bipush (-2)]) (pc' := 12) (ls' := [some (.inr (.inr (0, 0))), some (.inl x1), none]) (st' := [.inl (-2 : Int32)]) (m' := m4) (by decide +kernel) rfl ?_
    exact go_iret h.1 h.2.2.2.2 (by decide +kernel)
theorem ctr_X6_hear (Z : ZT) (x1 : Int32) (m : Mem) : Ctr Z yX6_hear prog_1_method_6_code 3 (some .int) 1 puI [.inr (.inr (0, 0)), .inl x1] m (f_X6_hear x1 m) :=
  ctr_of (P := P_X6) (by decide +kernel) rfl pt_X6 rfl rfl (fun X hC hZ hR h0 h1 hr => by subst hZ; exact g_X6_hear ⟨hC, hR, h0, h1, hr⟩ x1 m)

