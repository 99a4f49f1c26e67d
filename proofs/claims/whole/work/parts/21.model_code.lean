/-! ===== printed by wip/whole/tr.py out of the listing ===== -/
def f_X7_within (x0 : Int32) (x1 : Int32) (x2 : Int32) (m : Mem) : Option (Int32 × Mem) :=
  if x0 < x1 then
    some ((0 : Int32), m)
  else
    if x2 < x0 then
      some ((0 : Int32), m)
    else
      some ((1 : Int32), m)
theorem g_X7_within {X : XT} (h : MX X prog_9_method_5_code P_X7 0 (some .boolean)) (x0 : Int32) (x1 : Int32) (x2 : Int32) (m : Mem) : Go X (Em X puI) 0 [some (.inl x0), some (.inl x1), some (.inl x2)] [] m (f_X7_within x0 x1 x2 m) := by
  unfold f_X7_within
  refine go_blk h.1 (is := [.iload_n 0, .iload_n 1]) (pc' := 2) (ls' := [some (.inl x0), some (.inl x1), some (.inl x2)]) (st' := [.inl x1, .inl x0]) (m' := m) (by decide +kernel) rfl ?_
  refine go_icmplt h.1 (off := 12) 14 (by decide +kernel) (by decide) (fun c2 => ?_) (fun c2 => ?_)
  · refine go_blk h.1 (is := [.iconst 0]) (pc' := 15) (ls' := [some (.inl x0), some (.inl x1), some (.inl x2)]) (st' := [.inl (0 : Int32)]) (m' := m) (by decide +kernel) rfl ?_
    exact go_zret h.1 h.2.2.2.2 (Or.inl rfl) (by decide +kernel)
  · refine go_blk h.1 (is := [.iload_n 0, .iload_n 2]) (pc' := 7) (ls' := [some (.inl x0), some (.inl x1), some (.inl x2)]) (st' := [.inl x2, .inl x0]) (m' := m) (by decide +kernel) rfl ?_
    refine go_icmpgt h.1 (off := 7) 14 (by decide +kernel) (by decide) (fun c7 => ?_) (fun c7 => ?_)
    · refine go_blk h.1 (is := [.iconst 0]) (pc' := 15) (ls' := [some (.inl x0), some (.inl x1), some (.inl x2)]) (st' := [.inl (0 : Int32)]) (m' := m) (by decide +kernel) rfl ?_
      exact go_zret h.1 h.2.2.2.2 (Or.inl rfl) (by decide +kernel)
    · refine go_blk h.1 (is := [.iconst 1]) (pc' := 11) (ls' := [some (.inl x0), some (.inl x1), some (.inl x2)]) (st' := [.inl (1 : Int32)]) (m' := m) (by decide +kernel) rfl ?_
      refine go_goto h.1 (off := 4) 15 (by decide +kernel) (by decide) ?_
      exact go_zret h.1 h.2.2.2.2 (Or.inr rfl) (by decide +kernel)
theorem ctr_X7_within (l : Launch) (A : AR → Nat) (dC : Nat → ClassId) (dI : Nat → Nat → Nat) (cs : Nat → ClassId) (x0 : Int32) (x1 : Int32) (x2 : Int32) (m : Mem) : Ctr l A dC dI cs yX7_within prog_9_method_5_code 3 (some .boolean) 0 puI [.inl x0, .inl x1, .inl x2] m (f_X7_within x0 x1 x2 m) :=
  ctr_of (P := P_X7) (by decide +kernel) rfl pt_X7 rfl rfl (fun X hC _ _ _ _ _ hR h0 h1 hr => g_X7_within ⟨hC, hR, h0, h1, hr⟩ x0 x1 x2 m)

def f_X7_isSheet (x0 : Int32) (m : Mem) : Option (Int32 × Mem) :=
  bnd (f_X7_within x0 (0 : Int32) (3 : Int32) m) (fun r3 m3 =>
    if r3 = 0 ∨ r3 = 1 then some (r3, m3) else none)
theorem g_X7_isSheet {X : XT} (h : MX X prog_9_method_6_code P_X7 1 (some .boolean)) (x0 : Int32) (m : Mem) : Go X (Em X puI) 0 [some (.inl x0)] [] m (f_X7_isSheet x0 m) := by
  unfold f_X7_isSheet
  refine go_blk h.1 (is := [.iload_n 0, .iconst 0, .iconst 3]) (pc' := 3) (ls' := [some (.inl x0)]) (st' := [.inl (3 : Int32), .inl (0 : Int32), .inl x0]) (m' := m) (by decide +kernel) rfl ?_
  refine go_callS h.1 (index := 70) (n := 3) (as := [.inl x0, .inl (0 : Int32), .inl (3 : Int32)]) (rest := []) (ctr_X7_within (xl X) (xA X) (xC X) (xI X) (xk X) x0 (0 : Int32) (3 : Int32) m) (by decide +kernel) wd_s_X7_70 rfl (h.room (by first | decide | omega) (by decide)) h.cl (Nat.le_of_ble_eq_true rfl) puI_ok rfl (fun r3 m3 _ => ?_)
  show Go X (Em X puI) 6 [some (.inl x0)] [.inl r3] m3 _
  exact go_zretG h.1 h.2.2.2.2 (by decide +kernel)
theorem ctr_X7_isSheet (l : Launch) (A : AR → Nat) (dC : Nat → ClassId) (dI : Nat → Nat → Nat) (cs : Nat → ClassId) (x0 : Int32) (m : Mem) : Ctr l A dC dI cs yX7_isSheet prog_9_method_6_code 1 (some .boolean) 1 puI [.inl x0] m (f_X7_isSheet x0 m) :=
  ctr_of (P := P_X7) (by decide +kernel) rfl pt_X7 rfl rfl (fun X hC _ _ _ _ _ hR h0 h1 hr => g_X7_isSheet ⟨hC, hR, h0, h1, hr⟩ x0 m)

def f_X7_isSort (x0 : Int32) (m : Mem) : Option (Int32 × Mem) :=
  bnd (f_X7_within x0 (0 : Int32) (2 : Int32) m) (fun r3 m3 =>
    if r3 = 0 ∨ r3 = 1 then some (r3, m3) else none)
theorem g_X7_isSort {X : XT} (h : MX X prog_9_method_7_code P_X7 1 (some .boolean)) (x0 : Int32) (m : Mem) : Go X (Em X puI) 0 [some (.inl x0)] [] m (f_X7_isSort x0 m) := by
  unfold f_X7_isSort
  refine go_blk h.1 (is := [.iload_n 0, .iconst 0, .iconst 2]) (pc' := 3) (ls' := [some (.inl x0)]) (st' := [.inl (2 : Int32), .inl (0 : Int32), .inl x0]) (m' := m) (by decide +kernel) rfl ?_
  refine go_callS h.1 (index := 70) (n := 3) (as := [.inl x0, .inl (0 : Int32), .inl (2 : Int32)]) (rest := []) (ctr_X7_within (xl X) (xA X) (xC X) (xI X) (xk X) x0 (0 : Int32) (2 : Int32) m) (by decide +kernel) wd_s_X7_70 rfl (h.room (by first | decide | omega) (by decide)) h.cl (Nat.le_of_ble_eq_true rfl) puI_ok rfl (fun r3 m3 _ => ?_)
  show Go X (Em X puI) 6 [some (.inl x0)] [.inl r3] m3 _
  exact go_zretG h.1 h.2.2.2.2 (by decide +kernel)
theorem ctr_X7_isSort (l : Launch) (A : AR → Nat) (dC : Nat → ClassId) (dI : Nat → Nat → Nat) (cs : Nat → ClassId) (x0 : Int32) (m : Mem) : Ctr l A dC dI cs yX7_isSort prog_9_method_7_code 1 (some .boolean) 1 puI [.inl x0] m (f_X7_isSort x0 m) :=
  ctr_of (P := P_X7) (by decide +kernel) rfl pt_X7 rfl rfl (fun X hC _ _ _ _ _ hR h0 h1 hr => g_X7_isSort ⟨hC, hR, h0, h1, hr⟩ x0 m)

def f_X7_against_j23 (x1 : Int32) (x3 : Int32) (x4 : Int32) (m : Mem) : Option (Int32 × Mem) :=
  if inB x1 4 = true then
    if (m 31 0 (ix x1)) = (-9 : Int32) then
      some ((1 : Int32), m)
    else
      if 0 ≤ x4 then
        if x3 < 0 then
          some ((3 : Int32), m)
        else
          if inB x1 4 = true then
            if (m 32 0 (ix x1)) < x3 then
              some ((3 : Int32), m)
            else
              if inB x1 4 = true then
                if x4 ≤ ((m 32 0 (ix x1)) - x3) then
                  some ((0 : Int32), m)
                else
                  some ((3 : Int32), m)
              else none
          else none
      else
        some ((4 : Int32), m)
  else none
theorem g_X7_against_j23 {X : XT} (h : MX X prog_9_method_8_code P_X7 0 (some .int)) (x1 : Int32) (x3 : Int32) (x4 : Int32) (m : Mem) (o2 : Option AV) : Go X (Em X puI) 23 [some (.inr (.inr (30, 0))), some (.inl x1), o2, some (.inl x3), some (.inl x4)] [] m (f_X7_against_j23 x1 x3 x4 m) := by
  unfold f_X7_against_j23
  refine go_blk h.1 (is := [.aload_n 0, .getfield 9, .iload_n 1]) (pc' := 28) (ls' := [some (.inr (.inr (30, 0))), some (.inl x1), o2, some (.inl x3), some (.inl x4)]) (st' := [.inl x1, .inr (.inr (31, 0))]) (m' := m) (by decide +kernel) rfl ?_
  refine go_iald h.1 (by decide +kernel) rfl rfl (fun b28 => ?_)
  show Go X (Em X puI) 29 [some (.inr (.inr (30, 0))), some (.inl x1), o2, some (.inl x3), some (.inl x4)] [.inl (m 31 0 (ix x1))] m _
  refine go_blk h.1 (is := [.bipush (-9)]) (pc' := 31) (ls' := [some (.inr (.inr (30, 0))), some (.inl x1), o2, some (.inl x3), some (.inl x4)]) (st' := [.inl (-9 : Int32), .inl (m 31 0 (ix x1))]) (m' := m) (by decide +kernel) rfl ?_
  refine go_icmpne h.1 (off := 5) 36 (by decide +kernel) (by decide) (fun c31 => ?_) (fun c31 => ?_)
  · refine go_blk h.1 (is := [.iload 4]) (pc' := 38) (ls' := [some (.inr (.inr (30, 0))), some (.inl x1), o2, some (.inl x3), some (.inl x4)]) (st' := [.inl x4]) (m' := m) (by decide +kernel) rfl ?_
    refine go_ifge h.1 (off := 5) 43 (by decide +kernel) (by decide) (fun c38 => ?_) (fun c38 => ?_)
    · refine go_blk h.1 (is := [.iload_n 3]) (pc' := 44) (ls' := [some (.inr (.inr (30, 0))), some (.inl x1), o2, some (.inl x3), some (.inl x4)]) (st' := [.inl x3]) (m' := m) (by decide +kernel) rfl ?_
      refine go_iflt h.1 (off := 26) 70 (by decide +kernel) (by decide) (fun c44 => ?_) (fun c44 => ?_)
      · refine go_blk h.1 (is := [.iconst 3]) (pc' := 71) (ls' := [some (.inr (.inr (30, 0))), some (.inl x1), o2, some (.inl x3), some (.inl x4)]) (st' := [.inl (3 : Int32)]) (m' := m) (by decide +kernel) rfl ?_
        refine go_goto h.1 (off := 4) 75 (by decide +kernel) (by decide) ?_
        exact go_iret h.1 h.2.2.2.2 (by decide +kernel)
      · refine go_blk h.1 (is := [.iload_n 3, .aload_n 0, .getfield 13, .iload_n 1]) (pc' := 53) (ls' := [some (.inr (.inr (30, 0))), some (.inl x1), o2, some (.inl x3), some (.inl x4)]) (st' := [.inl x1, .inr (.inr (32, 0)), .inl x3]) (m' := m) (by decide +kernel) rfl ?_
        refine go_iald h.1 (by decide +kernel) rfl rfl (fun b53 => ?_)
        show Go X (Em X puI) 54 [some (.inr (.inr (30, 0))), some (.inl x1), o2, some (.inl x3), some (.inl x4)] [.inl (m 32 0 (ix x1)), .inl x3] m _
        refine go_icmpgt h.1 (off := 16) 70 (by decide +kernel) (by decide) (fun c54 => ?_) (fun c54 => ?_)
        · refine go_blk h.1 (is := [.iconst 3]) (pc' := 71) (ls' := [some (.inr (.inr (30, 0))), some (.inl x1), o2, some (.inl x3), some (.inl x4)]) (st' := [.inl (3 : Int32)]) (m' := m) (by decide +kernel) rfl ?_
          refine go_goto h.1 (off := 4) 75 (by decide +kernel) (by decide) ?_
          exact go_iret h.1 h.2.2.2.2 (by decide +kernel)
        · refine go_blk h.1 (is := [.iload 4, .aload_n 0, .getfield 13, .iload_n 1]) (pc' := 64) (ls' := [some (.inr (.inr (30, 0))), some (.inl x1), o2, some (.inl x3), some (.inl x4)]) (st' := [.inl x1, .inr (.inr (32, 0)), .inl x4]) (m' := m) (by decide +kernel) rfl ?_
          refine go_iald h.1 (by decide +kernel) rfl rfl (fun b64 => ?_)
          show Go X (Em X puI) 65 [some (.inr (.inr (30, 0))), some (.inl x1), o2, some (.inl x3), some (.inl x4)] [.inl (m 32 0 (ix x1)), .inl x4] m _
          refine go_blk h.1 (is := [.iload_n 3, .isub]) (pc' := 67) (ls' := [some (.inr (.inr (30, 0))), some (.inl x1), o2, some (.inl x3), some (.inl x4)]) (st' := [.inl ((m 32 0 (ix x1)) - x3), .inl x4]) (m' := m) (by decide +kernel) rfl ?_
          refine go_icmple h.1 (off := 7) 74 (by decide +kernel) (by decide) (fun c67 => ?_) (fun c67 => ?_)
          · refine go_blk h.1 (is := [.iconst 0]) (pc' := 75) (ls' := [some (.inr (.inr (30, 0))), some (.inl x1), o2, some (.inl x3), some (.inl x4)]) (st' := [.inl (0 : Int32)]) (m' := m) (by decide +kernel) rfl ?_
            exact go_iret h.1 h.2.2.2.2 (by decide +kernel)
          · refine go_blk h.1 (is := [.iconst 3]) (pc' := 71) (ls' := [some (.inr (.inr (30, 0))), some (.inl x1), o2, some (.inl x3), some (.inl x4)]) (st' := [.inl (3 : Int32)]) (m' := m) (by decide +kernel) rfl ?_
            refine go_goto h.1 (off := 4) 75 (by decide +kernel) (by decide) ?_
            exact go_iret h.1 h.2.2.2.2 (by decide +kernel)
    · refine go_blk h.1 (is := [.iconst 4]) (pc' := 42) (ls' := [some (.inr (.inr (30, 0))), some (.inl x1), o2, some (.inl x3), some (.inl x4)]) (st' := [.inl (4 : Int32)]) (m' := m) (by decide +kernel) rfl ?_
      exact go_iret h.1 h.2.2.2.2 (by decide +kernel)
  · refine go_blk h.1 (is := [.iconst 1]) (pc' := 35) (ls' := [some (.inr (.inr (30, 0))), some (.inl x1), o2, some (.inl x3), some (.inl x4)]) (st' := [.inl (1 : Int32)]) (m' := m) (by decide +kernel) rfl ?_
    exact go_iret h.1 h.2.2.2.2 (by decide +kernel)

def f_X7_against (x1 : Int32) (x2 : Int32) (x3 : Int32) (x4 : Int32) (m : Mem) : Option (Int32 × Mem) :=
  if inB x1 4 = true then
    if (m 31 0 (ix x1)) = (-9 : Int32) then
      f_X7_against_j23 x1 x3 x4 m
    else
      if inB x1 4 = true then
        if (m 31 0 (ix x1)) = x2 then
          f_X7_against_j23 x1 x3 x4 m
        else
          some ((2 : Int32), m)
      else none
  else none
theorem g_X7_against {X : XT} (h : MX X prog_9_method_8_code P_X7 0 (some .int)) (x1 : Int32) (x2 : Int32) (x3 : Int32) (x4 : Int32) (m : Mem) : Go X (Em X puI) 0 [some (.inr (.inr (30, 0))), some (.inl x1), some (.inl x2), some (.inl x3), some (.inl x4)] [] m (f_X7_against x1 x2 x3 x4 m) := by
  unfold f_X7_against
  refine go_blk h.1 (is := [.aload_n 0, .getfield 9, .iload_n 1]) (pc' := 5) (ls' := [some (.inr (.inr (30, 0))), some (.inl x1), some (.inl x2), some (.inl x3), some (.inl x4)]) (st' := [.inl x1, .inr (.inr (31, 0))]) (m' := m) (by decide +kernel) rfl ?_
  refine go_iald h.1 (by decide +kernel) rfl rfl (fun b5 => ?_)
  show Go X (Em X puI) 6 [some (.inr (.inr (30, 0))), some (.inl x1), some (.inl x2), some (.inl x3), some (.inl x4)] [.inl (m 31 0 (ix x1))] m _
  refine go_blk h.1 (is := [.bipush (-9)]) (pc' := 8) (ls' := [some (.inr (.inr (30, 0))), some (.inl x1), some (.inl x2), some (.inl x3), some (.inl x4)]) (st' := [.inl (-9 : Int32), .inl (m 31 0 (ix x1))]) (m' := m) (by decide +kernel) rfl ?_
  refine go_icmpeq h.1 (off := 15) 23 (by decide +kernel) (by decide) (fun c8 => ?_) (fun c8 => ?_)
  · exact g_X7_against_j23 h x1 x3 x4 m (some (.inl x2))
  · refine go_blk h.1 (is := [.aload_n 0, .getfield 9, .iload_n 1]) (pc' := 16) (ls' := [some (.inr (.inr (30, 0))), some (.inl x1), some (.inl x2), some (.inl x3), some (.inl x4)]) (st' := [.inl x1, .inr (.inr (31, 0))]) (m' := m) (by decide +kernel) rfl ?_
    refine go_iald h.1 (by decide +kernel) rfl rfl (fun b16 => ?_)
    show Go X (Em X puI) 17 [some (.inr (.inr (30, 0))), some (.inl x1), some (.inl x2), some (.inl x3), some (.inl x4)] [.inl (m 31 0 (ix x1))] m _
    refine go_blk h.1 (is := [.iload_n 2]) (pc' := 18) (ls' := [some (.inr (.inr (30, 0))), some (.inl x1), some (.inl x2), some (.inl x3), some (.inl x4)]) (st' := [.inl x2, .inl (m 31 0 (ix x1))]) (m' := m) (by decide +kernel) rfl ?_
    refine go_icmpeq h.1 (off := 5) 23 (by decide +kernel) (by decide) (fun c18 => ?_) (fun c18 => ?_)
    · exact g_X7_against_j23 h x1 x3 x4 m (some (.inl x2))
    · refine go_blk h.1 (is := [.iconst 2]) (pc' := 22) (ls' := [some (.inr (.inr (30, 0))), some (.inl x1), some (.inl x2), some (.inl x3), some (.inl x4)]) (st' := [.inl (2 : Int32)]) (m' := m) (by decide +kernel) rfl ?_
      exact go_iret h.1 h.2.2.2.2 (by decide +kernel)
theorem ctr_X7_against (l : Launch) (A : AR → Nat) (dC : Nat → ClassId) (dI : Nat → Nat → Nat) (cs : Nat → ClassId) (x1 : Int32) (x2 : Int32) (x3 : Int32) (x4 : Int32) (m : Mem) : Ctr l A dC dI cs yX7_against prog_9_method_8_code 5 (some .int) 0 puI [.inr (.inr (30, 0)), .inl x1, .inl x2, .inl x3, .inl x4] m (f_X7_against x1 x2 x3 x4 m) :=
  ctr_of (P := P_X7) (by decide +kernel) rfl pt_X7 rfl rfl (fun X hC _ _ _ _ _ hR h0 h1 hr => g_X7_against ⟨hC, hR, h0, h1, hr⟩ x1 x2 x3 x4 m)

def f_X7_isSign (x1 : Int32) (x2 : Int32) (m : Mem) : Option (Int32 × Mem) :=
  if x1 ≤ (m 30 0 14) then
    some ((0 : Int32), m)
  else
    if inB (m 30 0 14) 240 = true then
      if (m 33 0 (ix (m 30 0 14))) = x2 then
        some ((1 : Int32), (mset m 30 0 14 ((m 30 0 14) + (1 : Int32))))
      else
        some ((0 : Int32), m)
    else none
theorem g_X7_isSign {X : XT} (h : MX X prog_9_method_11_code P_X7 0 (some .boolean)) (x1 : Int32) (x2 : Int32) (m : Mem) : Go X (Em X puI) 0 [some (.inr (.inr (30, 0))), some (.inl x1), some (.inl x2)] [] m (f_X7_isSign x1 x2 m) := by
  unfold f_X7_isSign
  refine go_blk h.1 (is := [.aload_n 0, .getfield 77, .iload_n 1]) (pc' := 5) (ls' := [some (.inr (.inr (30, 0))), some (.inl x1), some (.inl x2)]) (st' := [.inl x1, .inl (m 30 0 14)]) (m' := m) (by decide +kernel) rfl ?_
  refine go_icmpge h.1 (off := 16) 21 (by decide +kernel) (by decide) (fun c5 => ?_) (fun c5 => ?_)
  · refine go_blk h.1 (is := [.iconst 0]) (pc' := 22) (ls' := [some (.inr (.inr (30, 0))), some (.inl x1), some (.inl x2)]) (st' := [.inl (0 : Int32)]) (m' := m) (by decide +kernel) rfl ?_
    exact go_zret h.1 h.2.2.2.2 (Or.inl rfl) (by decide +kernel)
  · refine go_blk h.1 (is := [.aload_n 0, .getfield 16, .aload_n 0, .getfield 77]) (pc' := 16) (ls' := [some (.inr (.inr (30, 0))), some (.inl x1), some (.inl x2)]) (st' := [.inl (m 30 0 14), .inr (.inr (33, 0))]) (m' := m) (by decide +kernel) rfl ?_
    refine go_iald h.1 (by decide +kernel) rfl rfl (fun b16 => ?_)
    show Go X (Em X puI) 17 [some (.inr (.inr (30, 0))), some (.inl x1), some (.inl x2)] [.inl (m 33 0 (ix (m 30 0 14)))] m _
    refine go_blk h.1 (is := [.iload_n 2]) (pc' := 18) (ls' := [some (.inr (.inr (30, 0))), some (.inl x1), some (.inl x2)]) (st' := [.inl x2, .inl (m 33 0 (ix (m 30 0 14)))]) (m' := m) (by decide +kernel) rfl ?_
    refine go_icmpeq h.1 (off := 5) 23 (by decide +kernel) (by decide) (fun c18 => ?_) (fun c18 => ?_)
    · refine go_blk h.1 (is := [.aload_n 0, .dup, .getfield 77, .iconst 1, .iadd, .putfield 77, .iconst 1]) (pc' := 34) (ls' := [some (.inr (.inr (30, 0))), some (.inl x1), some (.inl x2)]) (st' := [.inl (1 : Int32)]) (m' := (mset m 30 0 14 ((m 30 0 14) + (1 : Int32)))) (by decide +kernel) rfl ?_
      exact go_zret h.1 h.2.2.2.2 (Or.inr rfl) (by decide +kernel)
    · refine go_blk h.1 (is := [.iconst 0]) (pc' := 22) (ls' := [some (.inr (.inr (30, 0))), some (.inl x1), some (.inl x2)]) (st' := [.inl (0 : Int32)]) (m' := m) (by decide +kernel) rfl ?_
      exact go_zret h.1 h.2.2.2.2 (Or.inl rfl) (by decide +kernel)
theorem ctr_X7_isSign (l : Launch) (A : AR → Nat) (dC : Nat → ClassId) (dI : Nat → Nat → Nat) (cs : Nat → ClassId) (x1 : Int32) (x2 : Int32) (m : Mem) : Ctr l A dC dI cs yX7_isSign prog_9_method_11_code 3 (some .boolean) 0 puI [.inr (.inr (30, 0)), .inl x1, .inl x2] m (f_X7_isSign x1 x2 m) :=
  ctr_of (P := P_X7) (by decide +kernel) rfl pt_X7 rfl rfl (fun X hC _ _ _ _ _ hR h0 h1 hr => g_X7_isSign ⟨hC, hR, h0, h1, hr⟩ x1 x2 m)

def f_X7_digit (x1 : Int32) (x2 : Int32) (x3 : Int32) (m : Mem) : Option (Int32 × Mem) :=
  if x1 ≤ (m 30 0 14) then
    some ((-9 : Int32), m)
  else
    if inB (m 30 0 14) 240 = true then
      bnd (f_X7_within (m 33 0 (ix (m 30 0 14))) ((48 : Int32) + x2) ((48 : Int32) + x3) m) (fun r25 m25 =>
        if r25 = 0 then
          some ((-9 : Int32), m25)
        else
          if inB (((mset m25 30 0 14 ((m25 30 0 14) + (1 : Int32))) 30 0 14) - (1 : Int32)) 240 = true then
            some (((m25 33 0 (ix (((mset m25 30 0 14 ((m25 30 0 14) + (1 : Int32))) 30 0 14) - (1 : Int32)))) - (48 : Int32)), (mset m25 30 0 14 ((m25 30 0 14) + (1 : Int32))))
          else none)
    else none
theorem g_X7_digit {X : XT} (h : MX X prog_9_method_10_code P_X7 1 (some .int)) (x1 : Int32) (x2 : Int32) (x3 : Int32) (m : Mem) : Go X (Em X puI) 0 [some (.inr (.inr (30, 0))), some (.inl x1), some (.inl x2), some (.inl x3)] [] m (f_X7_digit x1 x2 x3 m) := by
  unfold f_X7_digit
  refine go_blk h.1 (is := [.aload_n 0, .getfield 77, .iload_n 1]) (pc' := 5) (ls' := [some (.inr (.inr (30, 0))), some (.inl x1), some (.inl x2), some (.inl x3)]) (st' := [.inl x1, .inl (m 30 0 14)]) (m' := m) (by decide +kernel) rfl ?_
  refine go_icmpge h.1 (off := 26) 31 (by decide +kernel) (by decide) (fun c5 => ?_) (fun c5 => ?_)
  · refine go_blk h.1 (is := [.bipush (-9)]) (pc' := 33) (ls' := [some (.inr (.inr (30, 0))), some (.inl x1), some (.inl x2), some (.inl x3)]) (st' := [.inl (-9 : Int32)]) (m' := m) (by decide +kernel) rfl ?_
    exact go_iret h.1 h.2.2.2.2 (by decide +kernel)
  · refine go_blk h.1 (is := [.aload_n 0, .getfield 16, .aload_n 0, .getfield 77]) (pc' := 16) (ls' := [some (.inr (.inr (30, 0))), some (.inl x1), some (.inl x2), some (.inl x3)]) (st' := [.inl (m 30 0 14), .inr (.inr (33, 0))]) (m' := m) (by decide +kernel) rfl ?_
    refine go_iald h.1 (by decide +kernel) rfl rfl (fun b16 => ?_)
    show Go X (Em X puI) 17 [some (.inr (.inr (30, 0))), some (.inl x1), some (.inl x2), some (.inl x3)] [.inl (m 33 0 (ix (m 30 0 14)))] m _
    refine go_blk h.1 (is := [.bipush 48, .iload_n 2, .iadd, .bipush 48, .iload_n 3, .iadd]) (pc' := 25) (ls' := [some (.inr (.inr (30, 0))), some (.inl x1), some (.inl x2), some (.inl x3)]) (st' := [.inl ((48 : Int32) + x3), .inl ((48 : Int32) + x2), .inl (m 33 0 (ix (m 30 0 14)))]) (m' := m) (by decide +kernel) rfl ?_
    refine go_callS h.1 (index := 70) (n := 3) (as := [.inl (m 33 0 (ix (m 30 0 14))), .inl ((48 : Int32) + x2), .inl ((48 : Int32) + x3)]) (rest := []) (ctr_X7_within (xl X) (xA X) (xC X) (xI X) (xk X) (m 33 0 (ix (m 30 0 14))) ((48 : Int32) + x2) ((48 : Int32) + x3) m) (by decide +kernel) wd_s_X7_70 rfl (h.room (by first | decide | omega) (by decide)) h.cl (Nat.le_of_ble_eq_true rfl) puI_ok rfl (fun r25 m25 _ => ?_)
    show Go X (Em X puI) 28 [some (.inr (.inr (30, 0))), some (.inl x1), some (.inl x2), some (.inl x3)] [.inl r25] m25 _
    refine go_ifne h.1 (off := 6) 34 (by decide +kernel) (by decide) (fun c28 => ?_) (fun c28 => ?_)
    · refine go_blk h.1 (is := [.aload_n 0, .dup, .getfield 77, .iconst 1, .iadd, .putfield 77, .aload_n 0, .getfield 16, .aload_n 0, .getfield 77, .iconst 1, .isub]) (pc' := 54) (ls' := [some (.inr (.inr (30, 0))), some (.inl x1), some (.inl x2), some (.inl x3)]) (st' := [.inl (((mset m25 30 0 14 ((m25 30 0 14) + (1 : Int32))) 30 0 14) - (1 : Int32)), .inr (.inr (33, 0))]) (m' := (mset m25 30 0 14 ((m25 30 0 14) + (1 : Int32)))) (by decide +kernel) rfl ?_
      refine go_iald h.1 (by decide +kernel) rfl rfl (fun b54 => ?_)
      show Go X (Em X puI) 55 [some (.inr (.inr (30, 0))), some (.inl x1), some (.inl x2), some (.inl x3)] [.inl (m25 33 0 (ix (((mset m25 30 0 14 ((m25 30 0 14) + (1 : Int32))) 30 0 14) - (1 : Int32))))] (mset m25 30 0 14 ((m25 30 0 14) + (1 : Int32))) _
      refine go_blk h.1 (is := [.bipush 48, .isub]) (pc' := 58) (ls' := [some (.inr (.inr (30, 0))), some (.inl x1), some (.inl x2), some (.inl x3)]) (st' := [.inl ((m25 33 0 (ix (((mset m25 30 0 14 ((m25 30 0 14) + (1 : Int32))) 30 0 14) - (1 : Int32)))) - (48 : Int32))]) (m' := (mset m25 30 0 14 ((m25 30 0 14) + (1 : Int32)))) (by decide +kernel) rfl ?_
      exact go_iret h.1 h.2.2.2.2 (by decide +kernel)
    · refine go_blk h.1 (is := [.bipush (-9)]) (pc' := 33) (ls' := [some (.inr (.inr (30, 0))), some (.inl x1), some (.inl x2), some (.inl x3)]) (st' := [.inl (-9 : Int32)]) (m' := m25) (by decide +kernel) rfl ?_
      exact go_iret h.1 h.2.2.2.2 (by decide +kernel)
theorem ctr_X7_digit (l : Launch) (A : AR → Nat) (dC : Nat → ClassId) (dI : Nat → Nat → Nat) (cs : Nat → ClassId) (x1 : Int32) (x2 : Int32) (x3 : Int32) (m : Mem) : Ctr l A dC dI cs yX7_digit prog_9_method_10_code 4 (some .int) 1 puI [.inr (.inr (30, 0)), .inl x1, .inl x2, .inl x3] m (f_X7_digit x1 x2 x3 m) :=
  ctr_of (P := P_X7) (by decide +kernel) rfl pt_X7 rfl rfl (fun X hC _ _ _ _ _ hR h0 h1 hr => g_X7_digit ⟨hC, hR, h0, h1, hr⟩ x1 x2 x3 m)

def f_X7_readFish_j145 (next : Int32 × Mem → Option (Int32 × Mem)) (exit : Mem → Option (Int32 × Mem)) (s0 : Int32) (s1 : Int32) (s3 : Int32) (x1 : Int32) (x2 : Int32) (x4 : Int32) (x5 : Int32) (m : Mem) : Option (Int32 × Mem) :=
  bnd (f_X7_digit s1 s0 x5 m) (fun r147 m147 =>
    if inB s3 25 = true then
      if inB (x2 + x4) 25 = true then
        if ((mset m147 39 0 (ix s3) r147) 39 0 (ix (x2 + x4))) = (-9 : Int32) then
          some ((0 : Int32), (mset m147 39 0 (ix s3) r147))
        else
          next ((x4 + (1 : Int32)), (mset m147 39 0 (ix s3) r147))
      else none
    else none)
theorem g_X7_readFish_j145 {X : XT} (h : MX X prog_9_method_14_code P_X7 2 (some .boolean)) (next : Int32 × Mem → Option (Int32 × Mem)) (exit : Mem → Option (Int32 × Mem)) (s0 : Int32) (s1 : Int32) (s3 : Int32) (x1 : Int32) (x2 : Int32) (x4 : Int32) (x5 : Int32) (m : Mem) (o3 : Option AV) (hn : ∀ (y4 : Int32) (n : Mem) (o3 : Option AV) (o5 : Option AV), Go X (Em X puI) 93 [some (.inr (.inr (30, 0))), some (.inl x1), some (.inl x2), o3, some (.inl y4), o5] [] n (next (y4, n))) (hx : ∀ (n : Mem) (o1 : Option AV) (o2 : Option AV) (o3 : Option AV) (o4 : Option AV) (o5 : Option AV), Go X (Em X puI) 173 [some (.inr (.inr (30, 0))), o1, o2, o3, o4, o5] [] n (exit (n))) : Go X (Em X puI) 145 [some (.inr (.inr (30, 0))), some (.inl x1), some (.inl x2), o3, some (.inl x4), some (.inl x5)] [.inl s0, .inl s1, .inr (.inr (30, 0)), .inl s3, .inr (.inr (39, 0))] m (f_X7_readFish_j145 next exit s0 s1 s3 x1 x2 x4 x5 m) := by
  unfold f_X7_readFish_j145
  refine go_blk h.1 (is := [.iload 5]) (pc' := 147) (ls' := [some (.inr (.inr (30, 0))), some (.inl x1), some (.inl x2), o3, some (.inl x4), some (.inl x5)]) (st' := [.inl x5, .inl s0, .inl s1, .inr (.inr (30, 0)), .inl s3, .inr (.inr (39, 0))]) (m' := m) (by decide +kernel) rfl ?_
  refine go_callV h.1 (index := 121) (n := 3) (t := 30) (i := 0) (ci := 7) (nf := 35) (cz := (RX7, TX7, 35)) (as := [.inl s1, .inl s0, .inl x5]) (rest := [.inl s3, .inr (.inr (39, 0))]) (ctr_X7_digit (xl X) (xA X) (xC X) (xI X) (xk X) s1 s0 x5 m) (by decide +kernel) rfl rfl wd_v_X7_121 rfl (h.room (by first | decide | omega) (by decide)) h.cl (Nat.le_of_ble_eq_true rfl) puI_ok rfl (fun r147 m147 _ => ?_)
  show Go X (Em X puI) 150 [some (.inr (.inr (30, 0))), some (.inl x1), some (.inl x2), o3, some (.inl x4), some (.inl x5)] [.inl r147, .inl s3, .inr (.inr (39, 0))] m147 _
  refine go_iast h.1 (by decide +kernel) rfl rfl (fun b150 => ?_)
  refine go_blk h.1 (is := [.aload_n 0, .getfield 34, .iload_n 2, .iload 4, .iadd]) (pc' := 159) (ls' := [some (.inr (.inr (30, 0))), some (.inl x1), some (.inl x2), o3, some (.inl x4), some (.inl x5)]) (st' := [.inl (x2 + x4), .inr (.inr (39, 0))]) (m' := (mset m147 39 0 (ix s3) r147)) (by decide +kernel) rfl ?_
  refine go_iald h.1 (by decide +kernel) rfl rfl (fun b159 => ?_)
  show Go X (Em X puI) 160 [some (.inr (.inr (30, 0))), some (.inl x1), some (.inl x2), o3, some (.inl x4), some (.inl x5)] [.inl ((mset m147 39 0 (ix s3) r147) 39 0 (ix (x2 + x4)))] (mset m147 39 0 (ix s3) r147) _
  refine go_blk h.1 (is := [.bipush (-9)]) (pc' := 162) (ls' := [some (.inr (.inr (30, 0))), some (.inl x1), some (.inl x2), o3, some (.inl x4), some (.inl x5)]) (st' := [.inl (-9 : Int32), .inl ((mset m147 39 0 (ix s3) r147) 39 0 (ix (x2 + x4)))]) (m' := (mset m147 39 0 (ix s3) r147)) (by decide +kernel) rfl ?_
  refine go_icmpne h.1 (off := 5) 167 (by decide +kernel) (by decide) (fun c162 => ?_) (fun c162 => ?_)
  · refine go_blk h.1 (is := [.iinc 4 1]) (pc' := 170) (ls' := [some (.inr (.inr (30, 0))), some (.inl x1), some (.inl x2), (clrL o3), some (.inl (x4 + (1 : Int32))), some (.inl x5)]) (st' := []) (m' := (mset m147 39 0 (ix s3) r147)) (by decide +kernel) rfl ?_
    refine go_goto h.1 (off := -77) 93 (by decide +kernel) (by decide) ?_
    exact hn (x4 + (1 : Int32)) (mset m147 39 0 (ix s3) r147) ((clrL o3)) (some (.inl x5))
  · refine go_blk h.1 (is := [.iconst 0]) (pc' := 166) (ls' := [some (.inr (.inr (30, 0))), some (.inl x1), some (.inl x2), o3, some (.inl x4), some (.inl x5)]) (st' := [.inl (0 : Int32)]) (m' := (mset m147 39 0 (ix s3) r147)) (by decide +kernel) rfl ?_
    exact go_zret h.1 h.2.2.2.2 (Or.inl rfl) (by decide +kernel)

def f_X7_readFish_j122 (next : Int32 × Mem → Option (Int32 × Mem)) (exit : Mem → Option (Int32 × Mem)) (s0 : Int32) (x1 : Int32) (x2 : Int32) (x4 : Int32) (m : Mem) : Option (Int32 × Mem) :=
  if x4 = (1 : Int32) then
    f_X7_readFish_j145 next exit (1 : Int32) x1 (x2 + x4) x1 x2 x4 s0 m
  else
    f_X7_readFish_j145 next exit (0 : Int32) x1 (x2 + x4) x1 x2 x4 s0 m
theorem g_X7_readFish_j122 {X : XT} (h : MX X prog_9_method_14_code P_X7 2 (some .boolean)) (next : Int32 × Mem → Option (Int32 × Mem)) (exit : Mem → Option (Int32 × Mem)) (s0 : Int32) (x1 : Int32) (x2 : Int32) (x4 : Int32) (m : Mem) (o3 : Option AV) (o5 : Option AV) (hn : ∀ (y4 : Int32) (n : Mem) (o3 : Option AV) (o5 : Option AV), Go X (Em X puI) 93 [some (.inr (.inr (30, 0))), some (.inl x1), some (.inl x2), o3, some (.inl y4), o5] [] n (next (y4, n))) (hx : ∀ (n : Mem) (o1 : Option AV) (o2 : Option AV) (o3 : Option AV) (o4 : Option AV) (o5 : Option AV), Go X (Em X puI) 173 [some (.inr (.inr (30, 0))), o1, o2, o3, o4, o5] [] n (exit (n))) : Go X (Em X puI) 122 [some (.inr (.inr (30, 0))), some (.inl x1), some (.inl x2), o3, some (.inl x4), o5] [.inl s0] m (f_X7_readFish_j122 next exit s0 x1 x2 x4 m) := by
  unfold f_X7_readFish_j122
  refine go_blk h.1 (is := [.istore 5, .aload_n 0, .getfield 34, .iload_n 2, .iload 4, .iadd, .aload_n 0, .iload_n 1, .iload 4, .iconst 1]) (pc' := 137) (ls' := [some (.inr (.inr (30, 0))), some (.inl x1), some (.inl x2), o3, some (.inl x4), some (.inl s0)]) (st' := [.inl (1 : Int32), .inl x4, .inl x1, .inr (.inr (30, 0)), .inl (x2 + x4), .inr (.inr (39, 0))]) (m' := m) (by decide +kernel) rfl ?_
  refine go_icmpne h.1 (off := 7) 144 (by decide +kernel) (by decide) (fun c137 => ?_) (fun c137 => ?_)
  · refine go_blk h.1 (is := [.iconst 0]) (pc' := 145) (ls' := [some (.inr (.inr (30, 0))), some (.inl x1), some (.inl x2), o3, some (.inl x4), some (.inl s0)]) (st' := [.inl (0 : Int32), .inl x1, .inr (.inr (30, 0)), .inl (x2 + x4), .inr (.inr (39, 0))]) (m' := m) (by decide +kernel) rfl ?_
    exact g_X7_readFish_j145 h next exit (0 : Int32) x1 (x2 + x4) x1 x2 x4 s0 m (o3) hn hx
  · refine go_blk h.1 (is := [.iconst 1]) (pc' := 141) (ls' := [some (.inr (.inr (30, 0))), some (.inl x1), some (.inl x2), o3, some (.inl x4), some (.inl s0)]) (st' := [.inl (1 : Int32), .inl x1, .inr (.inr (30, 0)), .inl (x2 + x4), .inr (.inr (39, 0))]) (m' := m) (by decide +kernel) rfl ?_
    refine go_goto h.1 (off := 4) 145 (by decide +kernel) (by decide) ?_
    exact g_X7_readFish_j145 h next exit (1 : Int32) x1 (x2 + x4) x1 x2 x4 s0 m (o3) hn hx

def f_X7_readFish_b93 (x1 : Int32) (x2 : Int32) (next : Int32 × Mem → Option (Int32 × Mem)) (exit : Mem → Option (Int32 × Mem)) (s : Int32 × Mem) : Option (Int32 × Mem) :=
  if (5 : Int32) ≤ s.1 then
    exit (s.2)
  else
    if s.1 = (3 : Int32) then
      f_X7_readFish_j122 next exit (6 : Int32) x1 x2 s.1 s.2
    else
      if s.1 = (4 : Int32) then
        f_X7_readFish_j122 next exit (5 : Int32) x1 x2 s.1 s.2
      else
        f_X7_readFish_j122 next exit (9 : Int32) x1 x2 s.1 s.2
theorem g_X7_readFish_b93 {X : XT} (h : MX X prog_9_method_14_code P_X7 2 (some .boolean)) (x1 : Int32) (x2 : Int32) (next : Int32 × Mem → Option (Int32 × Mem)) (exit : Mem → Option (Int32 × Mem)) (hn : ∀ (y4 : Int32) (n : Mem) (o3 : Option AV) (o5 : Option AV), Go X (Em X puI) 93 [some (.inr (.inr (30, 0))), some (.inl x1), some (.inl x2), o3, some (.inl y4), o5] [] n (next (y4, n))) (hx : ∀ (n : Mem) (o1 : Option AV) (o2 : Option AV) (o3 : Option AV) (o4 : Option AV) (o5 : Option AV), Go X (Em X puI) 173 [some (.inr (.inr (30, 0))), o1, o2, o3, o4, o5] [] n (exit (n))) (s : Int32 × Mem) (o3 : Option AV) (o5 : Option AV) : Go X (Em X puI) 93 [some (.inr (.inr (30, 0))), some (.inl x1), some (.inl x2), o3, some (.inl s.1), o5] [] s.2 (f_X7_readFish_b93 x1 x2 next exit s) := by
  unfold f_X7_readFish_b93
  refine go_blk h.1 (is := [.iload 4, .iconst 5]) (pc' := 96) (ls' := [some (.inr (.inr (30, 0))), some (.inl x1), some (.inl x2), o3, some (.inl s.1), o5]) (st' := [.inl (5 : Int32), .inl s.1]) (m' := s.2) (by decide +kernel) rfl ?_
  refine go_icmpge h.1 (off := 77) 173 (by decide +kernel) (by decide) (fun c96 => ?_) (fun c96 => ?_)
  · exact hx s.2 (some (.inl x1)) (some (.inl x2)) (o3) (some (.inl s.1)) (o5)
  · refine go_blk h.1 (is := [.iload 4, .iconst 3]) (pc' := 102) (ls' := [some (.inr (.inr (30, 0))), some (.inl x1), some (.inl x2), o3, some (.inl s.1), o5]) (st' := [.inl (3 : Int32), .inl s.1]) (m' := s.2) (by decide +kernel) rfl ?_
    refine go_icmpne h.1 (off := 8) 110 (by decide +kernel) (by decide) (fun c102 => ?_) (fun c102 => ?_)
    · refine go_blk h.1 (is := [.iload 4, .iconst 4]) (pc' := 113) (ls' := [some (.inr (.inr (30, 0))), some (.inl x1), some (.inl x2), o3, some (.inl s.1), o5]) (st' := [.inl (4 : Int32), .inl s.1]) (m' := s.2) (by decide +kernel) rfl ?_
      refine go_icmpne h.1 (off := 7) 120 (by decide +kernel) (by decide) (fun c113 => ?_) (fun c113 => ?_)
      · refine go_blk h.1 (is := [.bipush 9]) (pc' := 122) (ls' := [some (.inr (.inr (30, 0))), some (.inl x1), some (.inl x2), o3, some (.inl s.1), o5]) (st' := [.inl (9 : Int32)]) (m' := s.2) (by decide +kernel) rfl ?_
        exact g_X7_readFish_j122 h next exit (9 : Int32) x1 x2 s.1 s.2 (o3) (o5) hn hx
      · refine go_blk h.1 (is := [.iconst 5]) (pc' := 117) (ls' := [some (.inr (.inr (30, 0))), some (.inl x1), some (.inl x2), o3, some (.inl s.1), o5]) (st' := [.inl (5 : Int32)]) (m' := s.2) (by decide +kernel) rfl ?_
        refine go_goto h.1 (off := 5) 122 (by decide +kernel) (by decide) ?_
        exact g_X7_readFish_j122 h next exit (5 : Int32) x1 x2 s.1 s.2 (o3) (o5) hn hx
    · refine go_blk h.1 (is := [.bipush 6]) (pc' := 107) (ls' := [some (.inr (.inr (30, 0))), some (.inl x1), some (.inl x2), o3, some (.inl s.1), o5]) (st' := [.inl (6 : Int32)]) (m' := s.2) (by decide +kernel) rfl ?_
      refine go_goto h.1 (off := 15) 122 (by decide +kernel) (by decide) ?_
      exact g_X7_readFish_j122 h next exit (6 : Int32) x1 x2 s.1 s.2 (o3) (o5) hn hx

def f_X7_readFish_j66 (s0 : Int32) (s1 : Int32) (x1 : Int32) (x2 : Int32) (m : Mem) : Option (Int32 × Mem) :=
  if inB s1 25 = true then
    if inB x2 25 = true then
      if ((mset m 39 0 (ix s1) s0) 39 0 (ix x2)) = (-9 : Int32) then
        some ((0 : Int32), (mset m 39 0 (ix s1) s0))
      else
        lpk (f_X7_readFish_b93 x1 x2) fuelN ((1 : Int32), (mset (mset m 39 0 (ix s1) s0) 30 0 14 ((m 30 0 14) + (1 : Int32)))) (fun t93 =>
          some ((1 : Int32), (mset t93 30 0 16 ((t93 30 0 16) + (1 : Int32)))))
    else none
  else none
theorem g_X7_readFish_j66 {X : XT} (h : MX X prog_9_method_14_code P_X7 2 (some .boolean)) (s0 : Int32) (s1 : Int32) (x1 : Int32) (x2 : Int32) (m : Mem) (o3 : Option AV) (o4 : Option AV) (o5 : Option AV) : Go X (Em X puI) 66 [some (.inr (.inr (30, 0))), some (.inl x1), some (.inl x2), o3, o4, o5] [.inl s0, .inl s1, .inr (.inr (39, 0))] m (f_X7_readFish_j66 s0 s1 x1 x2 m) := by
  unfold f_X7_readFish_j66
  refine go_iast h.1 (by decide +kernel) rfl rfl (fun b66 => ?_)
  refine go_blk h.1 (is := [.aload_n 0, .getfield 34, .iload_n 2]) (pc' := 72) (ls' := [some (.inr (.inr (30, 0))), some (.inl x1), some (.inl x2), o3, o4, o5]) (st' := [.inl x2, .inr (.inr (39, 0))]) (m' := (mset m 39 0 (ix s1) s0)) (by decide +kernel) rfl ?_
  refine go_iald h.1 (by decide +kernel) rfl rfl (fun b72 => ?_)
  show Go X (Em X puI) 73 [some (.inr (.inr (30, 0))), some (.inl x1), some (.inl x2), o3, o4, o5] [.inl ((mset m 39 0 (ix s1) s0) 39 0 (ix x2))] (mset m 39 0 (ix s1) s0) _
  refine go_blk h.1 (is := [.bipush (-9)]) (pc' := 75) (ls' := [some (.inr (.inr (30, 0))), some (.inl x1), some (.inl x2), o3, o4, o5]) (st' := [.inl (-9 : Int32), .inl ((mset m 39 0 (ix s1) s0) 39 0 (ix x2))]) (m' := (mset m 39 0 (ix s1) s0)) (by decide +kernel) rfl ?_
  refine go_icmpne h.1 (off := 5) 80 (by decide +kernel) (by decide) (fun c75 => ?_) (fun c75 => ?_)
  · refine go_blk h.1 (is := [.aload_n 0, .dup, .getfield 77, .iconst 1, .iadd, .putfield 77, .iconst 1, .istore 4]) (pc' := 93) (ls' := [some (.inr (.inr (30, 0))), some (.inl x1), some (.inl x2), (clrL o3), some (.inl (1 : Int32)), o5]) (st' := []) (m' := (mset (mset m 39 0 (ix s1) s0) 30 0 14 ((m 30 0 14) + (1 : Int32)))) (by decide +kernel) rfl ?_
    refine go_lp1 (hd := fun (y4 : Int32) (n : Mem) o => ∀ (o3 : Option AV) (o5 : Option AV), Go X (Em X puI) 93 [some (.inr (.inr (30, 0))), some (.inl x1), some (.inl x2), o3, some (.inl y4), o5] [] n o) (fun _ _ _ _ => go_none) (fun y4 n nx_ hn_ => g_X7_readFish_b93 h x1 x2 nx_ _ hn_ (fun z_93 o1_93 o2_93 o3_93 o4_93 o5_93 => ?_) (y4, n)) fuelN (1 : Int32) (mset (mset m 39 0 (ix s1) s0) 30 0 14 ((m 30 0 14) + (1 : Int32))) ((clrL o3)) (o5)
    refine go_blk h.1 (is := [.aload_n 0, .dup, .getfield 108, .iconst 1, .iadd, .putfield 108, .iconst 1]) (pc' := 184) (ls' := [some (.inr (.inr (30, 0))), o1_93, o2_93, o3_93, o4_93, o5_93]) (st' := [.inl (1 : Int32)]) (m' := (mset z_93 30 0 16 ((z_93 30 0 16) + (1 : Int32)))) (by decide +kernel) rfl ?_
    exact go_zret h.1 h.2.2.2.2 (Or.inr rfl) (by decide +kernel)
  · refine go_blk h.1 (is := [.iconst 0]) (pc' := 79) (ls' := [some (.inr (.inr (30, 0))), some (.inl x1), some (.inl x2), o3, o4, o5]) (st' := [.inl (0 : Int32)]) (m' := (mset m 39 0 (ix s1) s0)) (by decide +kernel) rfl ?_
    exact go_zret h.1 h.2.2.2.2 (Or.inl rfl) (by decide +kernel)

def f_X7_readFish_j28 (s0 : Int32) (x1 : Int32) (x2 : Int32) (m : Mem) : Option (Int32 × Mem) :=
  if s0 = (102 : Int32) then
    f_X7_readFish_j66 (0 : Int32) x2 x1 x2 m
  else
    if s0 = (101 : Int32) then
      f_X7_readFish_j66 (1 : Int32) x2 x1 x2 m
    else
      if s0 = (112 : Int32) then
        f_X7_readFish_j66 (2 : Int32) x2 x1 x2 m
      else
        f_X7_readFish_j66 (-9 : Int32) x2 x1 x2 m
theorem g_X7_readFish_j28 {X : XT} (h : MX X prog_9_method_14_code P_X7 2 (some .boolean)) (s0 : Int32) (x1 : Int32) (x2 : Int32) (m : Mem) (o3 : Option AV) (o4 : Option AV) (o5 : Option AV) : Go X (Em X puI) 28 [some (.inr (.inr (30, 0))), some (.inl x1), some (.inl x2), o3, o4, o5] [.inl s0] m (f_X7_readFish_j28 s0 x1 x2 m) := by
  unfold f_X7_readFish_j28
  refine go_blk h.1 (is := [.istore_n 3, .aload_n 0, .getfield 34, .iload_n 2, .iload_n 3, .bipush 102]) (pc' := 37) (ls' := [some (.inr (.inr (30, 0))), some (.inl x1), some (.inl x2), some (.inl s0), o4, o5]) (st' := [.inl (102 : Int32), .inl s0, .inl x2, .inr (.inr (39, 0))]) (m' := m) (by decide +kernel) rfl ?_
  refine go_icmpne h.1 (off := 7) 44 (by decide +kernel) (by decide) (fun c37 => ?_) (fun c37 => ?_)
  · refine go_blk h.1 (is := [.iload_n 3, .bipush 101]) (pc' := 47) (ls' := [some (.inr (.inr (30, 0))), some (.inl x1), some (.inl x2), some (.inl s0), o4, o5]) (st' := [.inl (101 : Int32), .inl s0, .inl x2, .inr (.inr (39, 0))]) (m' := m) (by decide +kernel) rfl ?_
    refine go_icmpne h.1 (off := 7) 54 (by decide +kernel) (by decide) (fun c47 => ?_) (fun c47 => ?_)
    · refine go_blk h.1 (is := [.iload_n 3, .bipush 112]) (pc' := 57) (ls' := [some (.inr (.inr (30, 0))), some (.inl x1), some (.inl x2), some (.inl s0), o4, o5]) (st' := [.inl (112 : Int32), .inl s0, .inl x2, .inr (.inr (39, 0))]) (m' := m) (by decide +kernel) rfl ?_
      refine go_icmpne h.1 (off := 7) 64 (by decide +kernel) (by decide) (fun c57 => ?_) (fun c57 => ?_)
      · refine go_blk h.1 (is := [.bipush (-9)]) (pc' := 66) (ls' := [some (.inr (.inr (30, 0))), some (.inl x1), some (.inl x2), some (.inl s0), o4, o5]) (st' := [.inl (-9 : Int32), .inl x2, .inr (.inr (39, 0))]) (m' := m) (by decide +kernel) rfl ?_
        exact g_X7_readFish_j66 h (-9 : Int32) x2 x1 x2 m (some (.inl s0)) (o4) (o5)
      · refine go_blk h.1 (is := [.iconst 2]) (pc' := 61) (ls' := [some (.inr (.inr (30, 0))), some (.inl x1), some (.inl x2), some (.inl s0), o4, o5]) (st' := [.inl (2 : Int32), .inl x2, .inr (.inr (39, 0))]) (m' := m) (by decide +kernel) rfl ?_
        refine go_goto h.1 (off := 5) 66 (by decide +kernel) (by decide) ?_
        exact g_X7_readFish_j66 h (2 : Int32) x2 x1 x2 m (some (.inl s0)) (o4) (o5)
    · refine go_blk h.1 (is := [.iconst 1]) (pc' := 51) (ls' := [some (.inr (.inr (30, 0))), some (.inl x1), some (.inl x2), some (.inl s0), o4, o5]) (st' := [.inl (1 : Int32), .inl x2, .inr (.inr (39, 0))]) (m' := m) (by decide +kernel) rfl ?_
      refine go_goto h.1 (off := 15) 66 (by decide +kernel) (by decide) ?_
      exact g_X7_readFish_j66 h (1 : Int32) x2 x1 x2 m (some (.inl s0)) (o4) (o5)
  · refine go_blk h.1 (is := [.iconst 0]) (pc' := 41) (ls' := [some (.inr (.inr (30, 0))), some (.inl x1), some (.inl x2), some (.inl s0), o4, o5]) (st' := [.inl (0 : Int32), .inl x2, .inr (.inr (39, 0))]) (m' := m) (by decide +kernel) rfl ?_
    refine go_goto h.1 (off := 25) 66 (by decide +kernel) (by decide) ?_
    exact g_X7_readFish_j66 h (0 : Int32) x2 x1 x2 m (some (.inl s0)) (o4) (o5)

def f_X7_readFish (x1 : Int32) (m : Mem) : Option (Int32 × Mem) :=
  if x1 ≤ (m 30 0 14) then
    f_X7_readFish_j28 (0 : Int32) x1 ((5 : Int32) * (m 30 0 16)) m
  else
    if inB (m 30 0 14) 240 = true then
      f_X7_readFish_j28 (m 33 0 (ix (m 30 0 14))) x1 ((5 : Int32) * (m 30 0 16)) m
    else none
theorem g_X7_readFish {X : XT} (h : MX X prog_9_method_14_code P_X7 2 (some .boolean)) (x1 : Int32) (m : Mem) : Go X (Em X puI) 0 [some (.inr (.inr (30, 0))), some (.inl x1), none, none, none, none] [] m (f_X7_readFish x1 m) := by
  unfold f_X7_readFish
  refine go_blk h.1 (is := [.iconst 5, .aload_n 0, .getfield 108, .imul, .istore_n 2, .aload_n 0, .getfield 77, .iload_n 1]) (pc' := 12) (ls' := [some (.inr (.inr (30, 0))), some (.inl x1), some (.inl ((5 : Int32) * (m 30 0 16))), none, none, none]) (st' := [.inl x1, .inl (m 30 0 14)]) (m' := m) (by decide +kernel) rfl ?_
  refine go_icmpge h.1 (off := 15) 27 (by decide +kernel) (by decide) (fun c12 => ?_) (fun c12 => ?_)
  · refine go_blk h.1 (is := [.iconst 0]) (pc' := 28) (ls' := [some (.inr (.inr (30, 0))), some (.inl x1), some (.inl ((5 : Int32) * (m 30 0 16))), none, none, none]) (st' := [.inl (0 : Int32)]) (m' := m) (by decide +kernel) rfl ?_
    exact g_X7_readFish_j28 h (0 : Int32) x1 ((5 : Int32) * (m 30 0 16)) m (none) (none) (none)
  · refine go_blk h.1 (is := [.aload_n 0, .getfield 16, .aload_n 0, .getfield 77]) (pc' := 23) (ls' := [some (.inr (.inr (30, 0))), some (.inl x1), some (.inl ((5 : Int32) * (m 30 0 16))), none, none, none]) (st' := [.inl (m 30 0 14), .inr (.inr (33, 0))]) (m' := m) (by decide +kernel) rfl ?_
    refine go_iald h.1 (by decide +kernel) rfl rfl (fun b23 => ?_)
    show Go X (Em X puI) 24 [some (.inr (.inr (30, 0))), some (.inl x1), some (.inl ((5 : Int32) * (m 30 0 16))), none, none, none] [.inl (m 33 0 (ix (m 30 0 14)))] m _
    refine go_goto h.1 (off := 4) 28 (by decide +kernel) (by decide) ?_
    exact g_X7_readFish_j28 h (m 33 0 (ix (m 30 0 14))) x1 ((5 : Int32) * (m 30 0 16)) m (none) (none) (none)
theorem ctr_X7_readFish (l : Launch) (A : AR → Nat) (dC : Nat → ClassId) (dI : Nat → Nat → Nat) (cs : Nat → ClassId) (x1 : Int32) (m : Mem) : Ctr l A dC dI cs yX7_readFish prog_9_method_14_code 6 (some .boolean) 2 puI [.inr (.inr (30, 0)), .inl x1] m (f_X7_readFish x1 m) :=
  ctr_of (P := P_X7) (by decide +kernel) rfl pt_X7 rfl rfl (fun X hC _ _ _ _ _ hR h0 h1 hr => g_X7_readFish ⟨hC, hR, h0, h1, hr⟩ x1 m)

def f_X7_readFord_j63 (next : Mem → Option (Int32 × Mem)) (exit : Mem → Option (Int32 × Mem)) (x1 : Int32) (m : Mem) : Option (Int32 × Mem) :=
  bnd (f_X7_isSign x1 (59 : Int32) m) (fun r67 m67 =>
    if r67 = 0 then
      some ((0 : Int32), m67)
    else
      bnd (f_X7_readFish x1 m67) (fun r75 m75 =>
        if r75 = 0 then
          some ((0 : Int32), m75)
        else
          next (m75)))
theorem g_X7_readFord_j63 {X : XT} (h : MX X prog_9_method_13_code P_X7 3 (some .boolean)) (next : Mem → Option (Int32 × Mem)) (exit : Mem → Option (Int32 × Mem)) (x1 : Int32) (m : Mem) (hn : ∀ (n : Mem), Go X (Em X puI) 40 [some (.inr (.inr (30, 0))), some (.inl x1)] [] n (next (n))) (hx : ∀ (n : Mem), Go X (Em X puI) 83 [some (.inr (.inr (30, 0))), some (.inl x1)] [] n (exit (n))) : Go X (Em X puI) 63 [some (.inr (.inr (30, 0))), some (.inl x1)] [] m (f_X7_readFord_j63 next exit x1 m) := by
  unfold f_X7_readFord_j63
  refine go_blk h.1 (is := [.aload_n 0, .iload_n 1, .bipush 59]) (pc' := 67) (ls' := [some (.inr (.inr (30, 0))), some (.inl x1)]) (st' := [.inl (59 : Int32), .inl x1, .inr (.inr (30, 0))]) (m' := m) (by decide +kernel) rfl ?_
  refine go_callV h.1 (index := 117) (n := 2) (t := 30) (i := 0) (ci := 7) (nf := 35) (cz := (RX7, TX7, 35)) (as := [.inl x1, .inl (59 : Int32)]) (rest := []) (ctr_X7_isSign (xl X) (xA X) (xC X) (xI X) (xk X) x1 (59 : Int32) m) (by decide +kernel) rfl rfl wd_v_X7_117 rfl (h.room (by first | decide | omega) (by decide)) h.cl (Nat.le_of_ble_eq_true rfl) puI_ok rfl (fun r67 m67 _ => ?_)
  show Go X (Em X puI) 70 [some (.inr (.inr (30, 0))), some (.inl x1)] [.inl r67] m67 _
  refine go_ifeq h.1 (off := 11) 81 (by decide +kernel) (by decide) (fun c70 => ?_) (fun c70 => ?_)
  · refine go_blk h.1 (is := [.iconst 0]) (pc' := 82) (ls' := [some (.inr (.inr (30, 0))), some (.inl x1)]) (st' := [.inl (0 : Int32)]) (m' := m67) (by decide +kernel) rfl ?_
    exact go_zret h.1 h.2.2.2.2 (Or.inl rfl) (by decide +kernel)
  · refine go_blk h.1 (is := [.aload_n 0, .iload_n 1]) (pc' := 75) (ls' := [some (.inr (.inr (30, 0))), some (.inl x1)]) (st' := [.inl x1, .inr (.inr (30, 0))]) (m' := m67) (by decide +kernel) rfl ?_
    refine go_callV h.1 (index := 125) (n := 1) (t := 30) (i := 0) (ci := 7) (nf := 35) (cz := (RX7, TX7, 35)) (as := [.inl x1]) (rest := []) (ctr_X7_readFish (xl X) (xA X) (xC X) (xI X) (xk X) x1 m67) (by decide +kernel) rfl rfl wd_v_X7_125 rfl (h.room (by first | decide | omega) (by decide)) h.cl (Nat.le_of_ble_eq_true rfl) puI_ok rfl (fun r75 m75 _ => ?_)
    show Go X (Em X puI) 78 [some (.inr (.inr (30, 0))), some (.inl x1)] [.inl r75] m75 _
    refine go_ifne h.1 (off := -38) 40 (by decide +kernel) (by decide) (fun c78 => ?_) (fun c78 => ?_)
    · exact hn m75
    · refine go_blk h.1 (is := [.iconst 0]) (pc' := 82) (ls' := [some (.inr (.inr (30, 0))), some (.inl x1)]) (st' := [.inl (0 : Int32)]) (m' := m75) (by decide +kernel) rfl ?_
      exact go_zret h.1 h.2.2.2.2 (Or.inl rfl) (by decide +kernel)

def f_X7_readFord_b40 (x1 : Int32) (next : Mem → Option (Int32 × Mem)) (exit : Mem → Option (Int32 × Mem)) (s : Mem) : Option (Int32 × Mem) :=
  if (s 30 0 16) = 0 then
    f_X7_readFord_j63 next exit x1 s
  else
    if (5 : Int32) ≤ (s 30 0 16) then
      exit (s)
    else
      if x1 ≤ (s 30 0 14) then
        exit (s)
      else
        f_X7_readFord_j63 next exit x1 s
theorem g_X7_readFord_b40 {X : XT} (h : MX X prog_9_method_13_code P_X7 3 (some .boolean)) (x1 : Int32) (next : Mem → Option (Int32 × Mem)) (exit : Mem → Option (Int32 × Mem)) (hn : ∀ (n : Mem), Go X (Em X puI) 40 [some (.inr (.inr (30, 0))), some (.inl x1)] [] n (next (n))) (hx : ∀ (n : Mem), Go X (Em X puI) 83 [some (.inr (.inr (30, 0))), some (.inl x1)] [] n (exit (n))) (s : Mem) : Go X (Em X puI) 40 [some (.inr (.inr (30, 0))), some (.inl x1)] [] s (f_X7_readFord_b40 x1 next exit s) := by
  unfold f_X7_readFord_b40
  refine go_blk h.1 (is := [.aload_n 0, .getfield 108]) (pc' := 44) (ls' := [some (.inr (.inr (30, 0))), some (.inl x1)]) (st' := [.inl (s 30 0 16)]) (m' := s) (by decide +kernel) rfl ?_
  refine go_ifeq h.1 (off := 19) 63 (by decide +kernel) (by decide) (fun c44 => ?_) (fun c44 => ?_)
  · exact g_X7_readFord_j63 h next exit x1 s hn hx
  · refine go_blk h.1 (is := [.aload_n 0, .getfield 108, .iconst 5]) (pc' := 52) (ls' := [some (.inr (.inr (30, 0))), some (.inl x1)]) (st' := [.inl (5 : Int32), .inl (s 30 0 16)]) (m' := s) (by decide +kernel) rfl ?_
    refine go_icmpge h.1 (off := 31) 83 (by decide +kernel) (by decide) (fun c52 => ?_) (fun c52 => ?_)
    · exact hx s
    · refine go_blk h.1 (is := [.aload_n 0, .getfield 77, .iload_n 1]) (pc' := 60) (ls' := [some (.inr (.inr (30, 0))), some (.inl x1)]) (st' := [.inl x1, .inl (s 30 0 14)]) (m' := s) (by decide +kernel) rfl ?_
      refine go_icmpge h.1 (off := 23) 83 (by decide +kernel) (by decide) (fun c60 => ?_) (fun c60 => ?_)
      · exact hx s
      · exact g_X7_readFord_j63 h next exit x1 s hn hx

def f_X7_readFord (x1 : Int32) (m : Mem) : Option (Int32 × Mem) :=
  bnd (f_X7_isSign x1 (104 : Int32) (mset m 30 0 16 (0 : Int32))) (fun r9 m9 =>
    if r9 = 0 then
      some ((0 : Int32), m9)
    else
      bnd (f_X7_digit x1 (0 : Int32) (9 : Int32) m9) (fun r23 m23 =>
        if ((mset m23 30 0 15 r23) 30 0 15) = (-9 : Int32) then
          some ((0 : Int32), (mset m23 30 0 15 r23))
        else
          lpk (f_X7_readFord_b40 x1) fuelN ((mset m23 30 0 15 r23)) (fun t40 =>
            if (t40 30 0 14) = x1 then
              some ((1 : Int32), t40)
            else
              some ((0 : Int32), t40))))
theorem g_X7_readFord {X : XT} (h : MX X prog_9_method_13_code P_X7 3 (some .boolean)) (x1 : Int32) (m : Mem) : Go X (Em X puI) 0 [some (.inr (.inr (30, 0))), some (.inl x1)] [] m (f_X7_readFord x1 m) := by
  unfold f_X7_readFord
  refine go_blk h.1 (is := [.aload_n 0, .iconst 0, .putfield 108, .aload_n 0, .iload_n 1, .bipush 104]) (pc' := 9) (ls' := [some (.inr (.inr (30, 0))), some (.inl x1)]) (st' := [.inl (104 : Int32), .inl x1, .inr (.inr (30, 0))]) (m' := (mset m 30 0 16 (0 : Int32))) (by decide +kernel) rfl ?_
  refine go_callV h.1 (index := 117) (n := 2) (t := 30) (i := 0) (ci := 7) (nf := 35) (cz := (RX7, TX7, 35)) (as := [.inl x1, .inl (104 : Int32)]) (rest := []) (ctr_X7_isSign (xl X) (xA X) (xC X) (xI X) (xk X) x1 (104 : Int32) (mset m 30 0 16 (0 : Int32))) (by decide +kernel) rfl rfl wd_v_X7_117 rfl (h.room (by first | decide | omega) (by decide)) h.cl (Nat.le_of_ble_eq_true rfl) puI_ok rfl (fun r9 m9 _ => ?_)
  show Go X (Em X puI) 12 [some (.inr (.inr (30, 0))), some (.inl x1)] [.inl r9] m9 _
  refine go_ifne h.1 (off := 5) 17 (by decide +kernel) (by decide) (fun c12 => ?_) (fun c12 => ?_)
  · refine go_blk h.1 (is := [.aload_n 0, .aload_n 0, .iload_n 1, .iconst 0, .bipush 9]) (pc' := 23) (ls' := [some (.inr (.inr (30, 0))), some (.inl x1)]) (st' := [.inl (9 : Int32), .inl (0 : Int32), .inl x1, .inr (.inr (30, 0)), .inr (.inr (30, 0))]) (m' := m9) (by decide +kernel) rfl ?_
    refine go_callV h.1 (index := 121) (n := 3) (t := 30) (i := 0) (ci := 7) (nf := 35) (cz := (RX7, TX7, 35)) (as := [.inl x1, .inl (0 : Int32), .inl (9 : Int32)]) (rest := [.inr (.inr (30, 0))]) (ctr_X7_digit (xl X) (xA X) (xC X) (xI X) (xk X) x1 (0 : Int32) (9 : Int32) m9) (by decide +kernel) rfl rfl wd_v_X7_121 rfl (h.room (by first | decide | omega) (by decide)) h.cl (Nat.le_of_ble_eq_true rfl) puI_ok rfl (fun r23 m23 _ => ?_)
    show Go X (Em X puI) 26 [some (.inr (.inr (30, 0))), some (.inl x1)] [.inl r23, .inr (.inr (30, 0))] m23 _
    refine go_blk h.1 (is := [.putfield 102, .aload_n 0, .getfield 102, .bipush (-9)]) (pc' := 35) (ls' := [some (.inr (.inr (30, 0))), some (.inl x1)]) (st' := [.inl (-9 : Int32), .inl ((mset m23 30 0 15 r23) 30 0 15)]) (m' := (mset m23 30 0 15 r23)) (by decide +kernel) rfl ?_
    refine go_icmpne h.1 (off := 5) 40 (by decide +kernel) (by decide) (fun c35 => ?_) (fun c35 => ?_)
    · refine go_lp0 (hd := fun (n : Mem) o => Go X (Em X puI) 40 [some (.inr (.inr (30, 0))), some (.inl x1)] [] n o) (fun _ => go_none) (fun n nx_ hn_ => g_X7_readFord_b40 h x1 nx_ _ hn_ (fun z_40 => ?_) (n)) fuelN (mset m23 30 0 15 r23)
      refine go_blk h.1 (is := [.aload_n 0, .getfield 77, .iload_n 1]) (pc' := 88) (ls' := [some (.inr (.inr (30, 0))), some (.inl x1)]) (st' := [.inl x1, .inl (z_40 30 0 14)]) (m' := z_40) (by decide +kernel) rfl ?_
      refine go_icmpne h.1 (off := 7) 95 (by decide +kernel) (by decide) (fun c88 => ?_) (fun c88 => ?_)
      · refine go_blk h.1 (is := [.iconst 0]) (pc' := 96) (ls' := [some (.inr (.inr (30, 0))), some (.inl x1)]) (st' := [.inl (0 : Int32)]) (m' := z_40) (by decide +kernel) rfl ?_
        exact go_zret h.1 h.2.2.2.2 (Or.inl rfl) (by decide +kernel)
      · refine go_blk h.1 (is := [.iconst 1]) (pc' := 92) (ls' := [some (.inr (.inr (30, 0))), some (.inl x1)]) (st' := [.inl (1 : Int32)]) (m' := z_40) (by decide +kernel) rfl ?_
        refine go_goto h.1 (off := 4) 96 (by decide +kernel) (by decide) ?_
        exact go_zret h.1 h.2.2.2.2 (Or.inr rfl) (by decide +kernel)
    · refine go_blk h.1 (is := [.iconst 0]) (pc' := 39) (ls' := [some (.inr (.inr (30, 0))), some (.inl x1)]) (st' := [.inl (0 : Int32)]) (m' := (mset m23 30 0 15 r23)) (by decide +kernel) rfl ?_
      exact go_zret h.1 h.2.2.2.2 (Or.inl rfl) (by decide +kernel)
  · refine go_blk h.1 (is := [.iconst 0]) (pc' := 16) (ls' := [some (.inr (.inr (30, 0))), some (.inl x1)]) (st' := [.inl (0 : Int32)]) (m' := m9) (by decide +kernel) rfl ?_
    exact go_zret h.1 h.2.2.2.2 (Or.inl rfl) (by decide +kernel)
theorem ctr_X7_readFord (l : Launch) (A : AR → Nat) (dC : Nat → ClassId) (dI : Nat → Nat → Nat) (cs : Nat → ClassId) (x1 : Int32) (m : Mem) : Ctr l A dC dI cs yX7_readFord prog_9_method_13_code 2 (some .boolean) 3 puI [.inr (.inr (30, 0)), .inl x1] m (f_X7_readFord x1 m) :=
  ctr_of (P := P_X7) (by decide +kernel) rfl pt_X7 rfl rfl (fun X hC _ _ _ _ _ hR h0 h1 hr => g_X7_readFord ⟨hC, hR, h0, h1, hr⟩ x1 m)

def f_X7_fails (x1 : Int32) (m : Mem) : Option (Int32 × Mem) :=
  some (((-10 : Int32) - x1), (mset m 30 0 0 x1))
theorem g_X7_fails {X : XT} (h : MX X prog_9_method_3_code P_X7 0 (some .int)) (x1 : Int32) (m : Mem) : Go X (Em X puI) 0 [some (.inr (.inr (30, 0))), some (.inl x1)] [] m (f_X7_fails x1 m) := by
  unfold f_X7_fails
  refine go_blk h.1 (is := [.aload_n 0, .iload_n 1, .putfield 64, .bipush (-10), .iload_n 1, .isub]) (pc' := 9) (ls' := [some (.inr (.inr (30, 0))), some (.inl x1)]) (st' := [.inl ((-10 : Int32) - x1)]) (m' := (mset m 30 0 0 x1)) (by decide +kernel) rfl ?_
  exact go_iret h.1 h.2.2.2.2 (by decide +kernel)
theorem ctr_X7_fails (l : Launch) (A : AR → Nat) (dC : Nat → ClassId) (dI : Nat → Nat → Nat) (cs : Nat → ClassId) (x1 : Int32) (m : Mem) : Ctr l A dC dI cs yX7_fails prog_9_method_3_code 2 (some .int) 0 puI [.inr (.inr (30, 0)), .inl x1] m (f_X7_fails x1 m) :=
  ctr_of (P := P_X7) (by decide +kernel) rfl pt_X7 rfl rfl (fun X hC _ _ _ _ _ hR h0 h1 hr => g_X7_fails ⟨hC, hR, h0, h1, hr⟩ x1 m)

def f_X7_ford_b108 (next : Int32 × Mem → Option (Int32 × Mem)) (exit : Mem → Option (Int32 × Mem)) (s : Int32 × Mem) : Option (Int32 × Mem) :=
  if (s.2 30 0 7) ≤ s.1 then
    exit (s.2)
  else
    if inB ((5 : Int32) * s.1) 25 = true then
      if inB s.1 5 = true then
        if inB (((5 : Int32) * s.1) + (1 : Int32)) 25 = true then
          if inB s.1 5 = true then
            if inB (((5 : Int32) * s.1) + (2 : Int32)) 25 = true then
              if inB s.1 5 = true then
                if inB (((5 : Int32) * s.1) + (3 : Int32)) 25 = true then
                  if inB s.1 5 = true then
                    if inB (((5 : Int32) * s.1) + (4 : Int32)) 25 = true then
                      if inB s.1 5 = true then
                        next ((s.1 + (1 : Int32)), (mset (mset (mset (mset (mset s.2 34 0 (ix s.1) (s.2 39 0 (ix ((5 : Int32) * s.1)))) 35 0 (ix s.1) (s.2 39 0 (ix (((5 : Int32) * s.1) + (1 : Int32))))) 36 0 (ix s.1) (s.2 39 0 (ix (((5 : Int32) * s.1) + (2 : Int32))))) 37 0 (ix s.1) (s.2 39 0 (ix (((5 : Int32) * s.1) + (3 : Int32))))) 38 0 (ix s.1) (s.2 39 0 (ix (((5 : Int32) * s.1) + (4 : Int32))))))
                      else none
                    else none
                  else none
                else none
              else none
            else none
          else none
        else none
      else none
    else none
theorem g_X7_ford_b108 {X : XT} (h : MX X prog_9_method_12_code P_X7 4 (some .int)) (next : Int32 × Mem → Option (Int32 × Mem)) (exit : Mem → Option (Int32 × Mem)) (hn : ∀ (y7 : Int32) (n : Mem) (o1 : Option AV) (o2 : Option AV) (o3 : Option AV) (o4 : Option AV) (o5 : Option AV) (o6 : Option AV), Go X (Em X puI) 108 [some (.inr (.inr (30, 0))), o1, o2, o3, o4, o5, o6, some (.inl y7)] [] n (next (y7, n))) (hx : ∀ (n : Mem) (o1 : Option AV) (o2 : Option AV) (o3 : Option AV) (o4 : Option AV) (o5 : Option AV) (o6 : Option AV) (o7 : Option AV), Go X (Em X puI) 211 [some (.inr (.inr (30, 0))), o1, o2, o3, o4, o5, o6, o7] [] n (exit (n))) (s : Int32 × Mem) (o1 : Option AV) (o2 : Option AV) (o3 : Option AV) (o4 : Option AV) (o5 : Option AV) (o6 : Option AV) : Go X (Em X puI) 108 [some (.inr (.inr (30, 0))), o1, o2, o3, o4, o5, o6, some (.inl s.1)] [] s.2 (f_X7_ford_b108 next exit s) := by
  unfold f_X7_ford_b108
  refine go_blk h.1 (is := [.iload 7, .aload_n 0, .getfield 74]) (pc' := 114) (ls' := [some (.inr (.inr (30, 0))), o1, o2, o3, o4, o5, o6, some (.inl s.1)]) (st' := [.inl (s.2 30 0 7), .inl s.1]) (m' := s.2) (by decide +kernel) rfl ?_
  refine go_icmpge h.1 (off := 97) 211 (by decide +kernel) (by decide) (fun c114 => ?_) (fun c114 => ?_)
  · exact hx s.2 (o1) (o2) (o3) (o4) (o5) (o6) (some (.inl s.1))
  · refine go_blk h.1 (is := [.aload_n 0, .getfield 19, .iload 7, .aload_n 0, .getfield 34, .iconst 5, .iload 7, .imul]) (pc' := 131) (ls' := [some (.inr (.inr (30, 0))), o1, o2, o3, o4, o5, o6, some (.inl s.1)]) (st' := [.inl ((5 : Int32) * s.1), .inr (.inr (39, 0)), .inl s.1, .inr (.inr (34, 0))]) (m' := s.2) (by decide +kernel) rfl ?_
    refine go_iald h.1 (by decide +kernel) rfl rfl (fun b131 => ?_)
    show Go X (Em X puI) 132 [some (.inr (.inr (30, 0))), o1, o2, o3, o4, o5, o6, some (.inl s.1)] [.inl (s.2 39 0 (ix ((5 : Int32) * s.1))), .inl s.1, .inr (.inr (34, 0))] s.2 _
    refine go_iast h.1 (by decide +kernel) rfl rfl (fun b132 => ?_)
    refine go_blk h.1 (is := [.aload_n 0, .getfield 22, .iload 7, .aload_n 0, .getfield 34, .iconst 5, .iload 7, .imul, .iconst 1, .iadd]) (pc' := 149) (ls' := [some (.inr (.inr (30, 0))), o1, o2, o3, o4, o5, o6, some (.inl s.1)]) (st' := [.inl (((5 : Int32) * s.1) + (1 : Int32)), .inr (.inr (39, 0)), .inl s.1, .inr (.inr (35, 0))]) (m' := (mset s.2 34 0 (ix s.1) (s.2 39 0 (ix ((5 : Int32) * s.1))))) (by decide +kernel) rfl ?_
    refine go_iald h.1 (by decide +kernel) rfl rfl (fun b149 => ?_)
    show Go X (Em X puI) 150 [some (.inr (.inr (30, 0))), o1, o2, o3, o4, o5, o6, some (.inl s.1)] [.inl (s.2 39 0 (ix (((5 : Int32) * s.1) + (1 : Int32)))), .inl s.1, .inr (.inr (35, 0))] (mset s.2 34 0 (ix s.1) (s.2 39 0 (ix ((5 : Int32) * s.1)))) _
    refine go_iast h.1 (by decide +kernel) rfl rfl (fun b150 => ?_)
    refine go_blk h.1 (is := [.aload_n 0, .getfield 25, .iload 7, .aload_n 0, .getfield 34, .iconst 5, .iload 7, .imul, .iconst 2, .iadd]) (pc' := 167) (ls' := [some (.inr (.inr (30, 0))), o1, o2, o3, o4, o5, o6, some (.inl s.1)]) (st' := [.inl (((5 : Int32) * s.1) + (2 : Int32)), .inr (.inr (39, 0)), .inl s.1, .inr (.inr (36, 0))]) (m' := (mset (mset s.2 34 0 (ix s.1) (s.2 39 0 (ix ((5 : Int32) * s.1)))) 35 0 (ix s.1) (s.2 39 0 (ix (((5 : Int32) * s.1) + (1 : Int32)))))) (by decide +kernel) rfl ?_
    refine go_iald h.1 (by decide +kernel) rfl rfl (fun b167 => ?_)
    show Go X (Em X puI) 168 [some (.inr (.inr (30, 0))), o1, o2, o3, o4, o5, o6, some (.inl s.1)] [.inl (s.2 39 0 (ix (((5 : Int32) * s.1) + (2 : Int32)))), .inl s.1, .inr (.inr (36, 0))] (mset (mset s.2 34 0 (ix s.1) (s.2 39 0 (ix ((5 : Int32) * s.1)))) 35 0 (ix s.1) (s.2 39 0 (ix (((5 : Int32) * s.1) + (1 : Int32))))) _
    refine go_iast h.1 (by decide +kernel) rfl rfl (fun b168 => ?_)
    refine go_blk h.1 (is := [.aload_n 0, .getfield 28, .iload 7, .aload_n 0, .getfield 34, .iconst 5, .iload 7, .imul, .iconst 3, .iadd]) (pc' := 185) (ls' := [some (.inr (.inr (30, 0))), o1, o2, o3, o4, o5, o6, some (.inl s.1)]) (st' := [.inl (((5 : Int32) * s.1) + (3 : Int32)), .inr (.inr (39, 0)), .inl s.1, .inr (.inr (37, 0))]) (m' := (mset (mset (mset s.2 34 0 (ix s.1) (s.2 39 0 (ix ((5 : Int32) * s.1)))) 35 0 (ix s.1) (s.2 39 0 (ix (((5 : Int32) * s.1) + (1 : Int32))))) 36 0 (ix s.1) (s.2 39 0 (ix (((5 : Int32) * s.1) + (2 : Int32)))))) (by decide +kernel) rfl ?_
    refine go_iald h.1 (by decide +kernel) rfl rfl (fun b185 => ?_)
    show Go X (Em X puI) 186 [some (.inr (.inr (30, 0))), o1, o2, o3, o4, o5, o6, some (.inl s.1)] [.inl (s.2 39 0 (ix (((5 : Int32) * s.1) + (3 : Int32)))), .inl s.1, .inr (.inr (37, 0))] (mset (mset (mset s.2 34 0 (ix s.1) (s.2 39 0 (ix ((5 : Int32) * s.1)))) 35 0 (ix s.1) (s.2 39 0 (ix (((5 : Int32) * s.1) + (1 : Int32))))) 36 0 (ix s.1) (s.2 39 0 (ix (((5 : Int32) * s.1) + (2 : Int32))))) _
    refine go_iast h.1 (by decide +kernel) rfl rfl (fun b186 => ?_)
    refine go_blk h.1 (is := [.aload_n 0, .getfield 31, .iload 7, .aload_n 0, .getfield 34, .iconst 5, .iload 7, .imul, .iconst 4, .iadd]) (pc' := 203) (ls' := [some (.inr (.inr (30, 0))), o1, o2, o3, o4, o5, o6, some (.inl s.1)]) (st' := [.inl (((5 : Int32) * s.1) + (4 : Int32)), .inr (.inr (39, 0)), .inl s.1, .inr (.inr (38, 0))]) (m' := (mset (mset (mset (mset s.2 34 0 (ix s.1) (s.2 39 0 (ix ((5 : Int32) * s.1)))) 35 0 (ix s.1) (s.2 39 0 (ix (((5 : Int32) * s.1) + (1 : Int32))))) 36 0 (ix s.1) (s.2 39 0 (ix (((5 : Int32) * s.1) + (2 : Int32))))) 37 0 (ix s.1) (s.2 39 0 (ix (((5 : Int32) * s.1) + (3 : Int32)))))) (by decide +kernel) rfl ?_
    refine go_iald h.1 (by decide +kernel) rfl rfl (fun b203 => ?_)
    show Go X (Em X puI) 204 [some (.inr (.inr (30, 0))), o1, o2, o3, o4, o5, o6, some (.inl s.1)] [.inl (s.2 39 0 (ix (((5 : Int32) * s.1) + (4 : Int32)))), .inl s.1, .inr (.inr (38, 0))] (mset (mset (mset (mset s.2 34 0 (ix s.1) (s.2 39 0 (ix ((5 : Int32) * s.1)))) 35 0 (ix s.1) (s.2 39 0 (ix (((5 : Int32) * s.1) + (1 : Int32))))) 36 0 (ix s.1) (s.2 39 0 (ix (((5 : Int32) * s.1) + (2 : Int32))))) 37 0 (ix s.1) (s.2 39 0 (ix (((5 : Int32) * s.1) + (3 : Int32))))) _
    refine go_iast h.1 (by decide +kernel) rfl rfl (fun b204 => ?_)
    refine go_blk h.1 (is := [.iinc 7 1]) (pc' := 208) (ls' := [some (.inr (.inr (30, 0))), o1, o2, o3, o4, o5, (clrL o6), some (.inl (s.1 + (1 : Int32)))]) (st' := []) (m' := (mset (mset (mset (mset (mset s.2 34 0 (ix s.1) (s.2 39 0 (ix ((5 : Int32) * s.1)))) 35 0 (ix s.1) (s.2 39 0 (ix (((5 : Int32) * s.1) + (1 : Int32))))) 36 0 (ix s.1) (s.2 39 0 (ix (((5 : Int32) * s.1) + (2 : Int32))))) 37 0 (ix s.1) (s.2 39 0 (ix (((5 : Int32) * s.1) + (3 : Int32))))) 38 0 (ix s.1) (s.2 39 0 (ix (((5 : Int32) * s.1) + (4 : Int32)))))) (by decide +kernel) rfl ?_
    refine go_goto h.1 (off := -100) 108 (by decide +kernel) (by decide) ?_
    exact hn (s.1 + (1 : Int32)) (mset (mset (mset (mset (mset s.2 34 0 (ix s.1) (s.2 39 0 (ix ((5 : Int32) * s.1)))) 35 0 (ix s.1) (s.2 39 0 (ix (((5 : Int32) * s.1) + (1 : Int32))))) 36 0 (ix s.1) (s.2 39 0 (ix (((5 : Int32) * s.1) + (2 : Int32))))) 37 0 (ix s.1) (s.2 39 0 (ix (((5 : Int32) * s.1) + (3 : Int32))))) 38 0 (ix s.1) (s.2 39 0 (ix (((5 : Int32) * s.1) + (4 : Int32))))) (o1) (o2) (o3) (o4) (o5) ((clrL o6))

def f_X7_ford (x1 : Int32) (x2 : Int32) (x3 : Int32) (x4 : Int32) (m : Mem) : Option (Int32 × Mem) :=
  bnd (f_X7_isSheet x1 (mset m 30 0 0 (0 : Int32))) (fun r6 m6 =>
    if r6 = 0 then
      some ((-1 : Int32), m6)
    else
      bnd (f_X7_isSort x2 m6) (fun r15 m15 =>
        if r15 = 0 then
          some ((-2 : Int32), m15)
        else
          bnd (f_X7_against x1 x2 x3 x4 m15) (fun r30 m30 =>
            if r30 = 0 then
              bnd (f_X7_readFord ((((60 : Int32) * x1) + x3) + x4) (mset m30 30 0 14 (((60 : Int32) * x1) + x3))) (fun r67 m67 =>
                if r67 = 0 then
                  some (((-100 : Int32) - ((m67 30 0 14) - (((60 : Int32) * x1) + x3))), m67)
                else
                  lpk (f_X7_ford_b108) fuelN ((0 : Int32), (mset (mset (mset m67 30 0 5 (1 : Int32)) 30 0 6 ((mset m67 30 0 5 (1 : Int32)) 30 0 15)) 30 0 7 ((mset (mset m67 30 0 5 (1 : Int32)) 30 0 6 ((mset m67 30 0 5 (1 : Int32)) 30 0 15)) 30 0 16))) (fun t108 =>
                    some (((mset (mset t108 30 0 8 (0 : Int32)) 30 0 32 (0 : Int32)) 30 0 7), (mset (mset t108 30 0 8 (0 : Int32)) 30 0 32 (0 : Int32)))))
            else
              bnd (f_X7_fails r30 m30) (fun r43 m43 =>
                some (r43, m43)))))
theorem g_X7_ford {X : XT} (h : MX X prog_9_method_12_code P_X7 4 (some .int)) (x1 : Int32) (x2 : Int32) (x3 : Int32) (x4 : Int32) (m : Mem) : Go X (Em X puI) 0 [some (.inr (.inr (30, 0))), some (.inl x1), some (.inl x2), some (.inl x3), some (.inl x4), none, none, none] [] m (f_X7_ford x1 x2 x3 x4 m) := by
  unfold f_X7_ford
  refine go_blk h.1 (is := [.aload_n 0, .iconst 0, .putfield 64, .iload_n 1]) (pc' := 6) (ls' := [some (.inr (.inr (30, 0))), some (.inl x1), some (.inl x2), some (.inl x3), some (.inl x4), none, none, none]) (st' := [.inl x1]) (m' := (mset m 30 0 0 (0 : Int32))) (by decide +kernel) rfl ?_
  refine go_callS h.1 (index := 80) (n := 1) (as := [.inl x1]) (rest := []) (ctr_X7_isSheet (xl X) (xA X) (xC X) (xI X) (xk X) x1 (mset m 30 0 0 (0 : Int32))) (by decide +kernel) wd_s_X7_80 rfl (h.room (by first | decide | omega) (by decide)) h.cl (Nat.le_of_ble_eq_true rfl) puI_ok rfl (fun r6 m6 _ => ?_)
  show Go X (Em X puI) 9 [some (.inr (.inr (30, 0))), some (.inl x1), some (.inl x2), some (.inl x3), some (.inl x4), none, none, none] [.inl r6] m6 _
  refine go_ifne h.1 (off := 5) 14 (by decide +kernel) (by decide) (fun c9 => ?_) (fun c9 => ?_)
  · refine go_blk h.1 (is := [.iload_n 2]) (pc' := 15) (ls' := [some (.inr (.inr (30, 0))), some (.inl x1), some (.inl x2), some (.inl x3), some (.inl x4), none, none, none]) (st' := [.inl x2]) (m' := m6) (by decide +kernel) rfl ?_
    refine go_callS h.1 (index := 84) (n := 1) (as := [.inl x2]) (rest := []) (ctr_X7_isSort (xl X) (xA X) (xC X) (xI X) (xk X) x2 m6) (by decide +kernel) wd_s_X7_84 rfl (h.room (by first | decide | omega) (by decide)) h.cl (Nat.le_of_ble_eq_true rfl) puI_ok rfl (fun r15 m15 _ => ?_)
    show Go X (Em X puI) 18 [some (.inr (.inr (30, 0))), some (.inl x1), some (.inl x2), some (.inl x3), some (.inl x4), none, none, none] [.inl r15] m15 _
    refine go_ifne h.1 (off := 6) 24 (by decide +kernel) (by decide) (fun c18 => ?_) (fun c18 => ?_)
    · refine go_blk h.1 (is := [.aload_n 0, .iload_n 1, .iload_n 2, .iload_n 3, .iload 4]) (pc' := 30) (ls' := [some (.inr (.inr (30, 0))), some (.inl x1), some (.inl x2), some (.inl x3), some (.inl x4), none, none, none]) (st' := [.inl x4, .inl x3, .inl x2, .inl x1, .inr (.inr (30, 0))]) (m' := m15) (by decide +kernel) rfl ?_
      refine go_callV h.1 (index := 87) (n := 4) (t := 30) (i := 0) (ci := 7) (nf := 35) (cz := (RX7, TX7, 35)) (as := [.inl x1, .inl x2, .inl x3, .inl x4]) (rest := []) (ctr_X7_against (xl X) (xA X) (xC X) (xI X) (xk X) x1 x2 x3 x4 m15) (by decide +kernel) rfl rfl wd_v_X7_87 rfl (h.room (by first | decide | omega) (by decide)) h.cl (Nat.le_of_ble_eq_true rfl) puI_ok rfl (fun r30 m30 _ => ?_)
      show Go X (Em X puI) 33 [some (.inr (.inr (30, 0))), some (.inl x1), some (.inl x2), some (.inl x3), some (.inl x4), none, none, none] [.inl r30] m30 _
      refine go_blk h.1 (is := [.istore 5, .iload 5]) (pc' := 37) (ls' := [some (.inr (.inr (30, 0))), some (.inl x1), some (.inl x2), some (.inl x3), some (.inl x4), some (.inl r30), none, none]) (st' := [.inl r30]) (m' := m30) (by decide +kernel) rfl ?_
      refine go_ifeq h.1 (off := 10) 47 (by decide +kernel) (by decide) (fun c37 => ?_) (fun c37 => ?_)
      · refine go_blk h.1 (is := [.bipush 60, .iload_n 1, .imul, .iload_n 3, .iadd, .istore 6, .aload_n 0, .iload 6, .putfield 77, .aload_n 0, .iload 6, .iload 4, .iadd]) (pc' := 67) (ls' := [some (.inr (.inr (30, 0))), some (.inl x1), some (.inl x2), some (.inl x3), some (.inl x4), some (.inl r30), some (.inl (((60 : Int32) * x1) + x3)), none]) (st' := [.inl ((((60 : Int32) * x1) + x3) + x4), .inr (.inr (30, 0))]) (m' := (mset m30 30 0 14 (((60 : Int32) * x1) + x3))) (by decide +kernel) rfl ?_
        refine go_callV h.1 (index := 95) (n := 1) (t := 30) (i := 0) (ci := 7) (nf := 35) (cz := (RX7, TX7, 35)) (as := [.inl ((((60 : Int32) * x1) + x3) + x4)]) (rest := []) (ctr_X7_readFord (xl X) (xA X) (xC X) (xI X) (xk X) ((((60 : Int32) * x1) + x3) + x4) (mset m30 30 0 14 (((60 : Int32) * x1) + x3))) (by decide +kernel) rfl rfl wd_v_X7_95 rfl (h.room (by first | decide | omega) (by decide)) h.cl (Nat.le_of_ble_eq_true rfl) puI_ok rfl (fun r67 m67 _ => ?_)
        show Go X (Em X puI) 70 [some (.inr (.inr (30, 0))), some (.inl x1), some (.inl x2), some (.inl x3), some (.inl x4), some (.inl r30), some (.inl (((60 : Int32) * x1) + x3)), none] [.inl r67] m67 _
        refine go_ifne h.1 (off := 14) 84 (by decide +kernel) (by decide) (fun c70 => ?_) (fun c70 => ?_)
        · refine go_blk h.1 (is := [.aload_n 0, .iconst 1, .putfield 98, .aload_n 0, .aload_n 0, .getfield 102, .putfield 105, .aload_n 0, .aload_n 0, .getfield 108, .putfield 74, .iconst 0, .istore 7]) (pc' := 108) (ls' := [some (.inr (.inr (30, 0))), some (.inl x1), some (.inl x2), some (.inl x3), some (.inl x4), some (.inl r30), some (.inl (((60 : Int32) * x1) + x3)), some (.inl (0 : Int32))]) (st' := []) (m' := (mset (mset (mset m67 30 0 5 (1 : Int32)) 30 0 6 ((mset m67 30 0 5 (1 : Int32)) 30 0 15)) 30 0 7 ((mset (mset m67 30 0 5 (1 : Int32)) 30 0 6 ((mset m67 30 0 5 (1 : Int32)) 30 0 15)) 30 0 16))) (by decide +kernel) rfl ?_
          refine go_lp1 (hd := fun (y7 : Int32) (n : Mem) o => ∀ (o1 : Option AV) (o2 : Option AV) (o3 : Option AV) (o4 : Option AV) (o5 : Option AV) (o6 : Option AV), Go X (Em X puI) 108 [some (.inr (.inr (30, 0))), o1, o2, o3, o4, o5, o6, some (.inl y7)] [] n o) (fun _ _ _ _ _ _ _ _ => go_none) (fun y7 n nx_ hn_ => g_X7_ford_b108 h nx_ _ hn_ (fun z_108 o1_108 o2_108 o3_108 o4_108 o5_108 o6_108 o7_108 => ?_) (y7, n)) fuelN (0 : Int32) (mset (mset (mset m67 30 0 5 (1 : Int32)) 30 0 6 ((mset m67 30 0 5 (1 : Int32)) 30 0 15)) 30 0 7 ((mset (mset m67 30 0 5 (1 : Int32)) 30 0 6 ((mset m67 30 0 5 (1 : Int32)) 30 0 15)) 30 0 16)) (some (.inl x1)) (some (.inl x2)) (some (.inl x3)) (some (.inl x4)) (some (.inl r30)) (some (.inl (((60 : Int32) * x1) + x3)))
          refine go_blk h.1 (is := [.aload_n 0, .iconst 0, .putfield 111, .aload_n 0, .iconst 0, .putfield 114, .aload_n 0, .getfield 74]) (pc' := 225) (ls' := [some (.inr (.inr (30, 0))), o1_108, o2_108, o3_108, o4_108, o5_108, o6_108, o7_108]) (st' := [.inl ((mset (mset z_108 30 0 8 (0 : Int32)) 30 0 32 (0 : Int32)) 30 0 7)]) (m' := (mset (mset z_108 30 0 8 (0 : Int32)) 30 0 32 (0 : Int32))) (by decide +kernel) rfl ?_
          exact go_iret h.1 h.2.2.2.2 (by decide +kernel)
        · refine go_blk h.1 (is := [.bipush (-100), .aload_n 0, .getfield 77, .iload 6, .isub, .isub]) (pc' := 83) (ls' := [some (.inr (.inr (30, 0))), some (.inl x1), some (.inl x2), some (.inl x3), some (.inl x4), some (.inl r30), some (.inl (((60 : Int32) * x1) + x3)), none]) (st' := [.inl ((-100 : Int32) - ((m67 30 0 14) - (((60 : Int32) * x1) + x3)))]) (m' := m67) (by decide +kernel) rfl ?_
          exact go_iret h.1 h.2.2.2.2 (by decide +kernel)
      · refine go_blk h.1 (is := [.aload_n 0, .iload 5]) (pc' := 43) (ls' := [some (.inr (.inr (30, 0))), some (.inl x1), some (.inl x2), some (.inl x3), some (.inl x4), some (.inl r30), none, none]) (st' := [.inl r30, .inr (.inr (30, 0))]) (m' := m30) (by decide +kernel) rfl ?_
        refine go_callV h.1 (index := 91) (n := 1) (t := 30) (i := 0) (ci := 7) (nf := 35) (cz := (RX7, TX7, 35)) (as := [.inl r30]) (rest := []) (ctr_X7_fails (xl X) (xA X) (xC X) (xI X) (xk X) r30 m30) (by decide +kernel) rfl rfl wd_v_X7_91 rfl (h.room (by first | decide | omega) (by decide)) h.cl (Nat.le_of_ble_eq_true rfl) puI_ok rfl (fun r43 m43 _ => ?_)
        show Go X (Em X puI) 46 [some (.inr (.inr (30, 0))), some (.inl x1), some (.inl x2), some (.inl x3), some (.inl x4), some (.inl r30), none, none] [.inl r43] m43 _
        exact go_iret h.1 h.2.2.2.2 (by decide +kernel)
    · refine go_blk h.1 (is := [.bipush (-2)]) (pc' := 23) (ls' := [some (.inr (.inr (30, 0))), some (.inl x1), some (.inl x2), some (.inl x3), some (.inl x4), none, none, none]) (st' := [.inl (-2 : Int32)]) (m' := m15) (by decide +kernel) rfl ?_
      exact go_iret h.1 h.2.2.2.2 (by decide +kernel)
  · refine go_blk h.1 (is := [.iconst (-1)]) (pc' := 13) (ls' := [some (.inr (.inr (30, 0))), some (.inl x1), some (.inl x2), some (.inl x3), some (.inl x4), none, none, none]) (st' := [.inl (-1 : Int32)]) (m' := m6) (by decide +kernel) rfl ?_
    exact go_iret h.1 h.2.2.2.2 (by decide +kernel)
theorem ctr_X7_ford (l : Launch) (A : AR → Nat) (dC : Nat → ClassId) (dI : Nat → Nat → Nat) (cs : Nat → ClassId) (x1 : Int32) (x2 : Int32) (x3 : Int32) (x4 : Int32) (m : Mem) : Ctr l A dC dI cs yX7_ford prog_9_method_12_code 8 (some .int) 4 puI [.inr (.inr (30, 0)), .inl x1, .inl x2, .inl x3, .inl x4] m (f_X7_ford x1 x2 x3 x4 m) :=
  ctr_of (P := P_X7) (by decide +kernel) rfl pt_X7 rfl rfl (fun X hC _ _ _ _ _ hR h0 h1 hr => g_X7_ford ⟨hC, hR, h0, h1, hr⟩ x1 x2 x3 x4 m)

def f_X7_isFish (x1 : Int32) (m : Mem) : Option (Int32 × Mem) :=
  if x1 < 0 then
    some ((0 : Int32), m)
  else
    if (m 30 0 7) ≤ x1 then
      some ((0 : Int32), m)
    else
      some ((1 : Int32), m)
theorem g_X7_isFish {X : XT} (h : MX X prog_9_method_9_code P_X7 0 (some .boolean)) (x1 : Int32) (m : Mem) : Go X (Em X puI) 0 [some (.inr (.inr (30, 0))), some (.inl x1)] [] m (f_X7_isFish x1 m) := by
  unfold f_X7_isFish
  refine go_blk h.1 (is := [.iload_n 1]) (pc' := 1) (ls' := [some (.inr (.inr (30, 0))), some (.inl x1)]) (st' := [.inl x1]) (m' := m) (by decide +kernel) rfl ?_
  refine go_iflt h.1 (off := 15) 16 (by decide +kernel) (by decide) (fun c1 => ?_) (fun c1 => ?_)
  · refine go_blk h.1 (is := [.iconst 0]) (pc' := 17) (ls' := [some (.inr (.inr (30, 0))), some (.inl x1)]) (st' := [.inl (0 : Int32)]) (m' := m) (by decide +kernel) rfl ?_
    exact go_zret h.1 h.2.2.2.2 (Or.inl rfl) (by decide +kernel)
  · refine go_blk h.1 (is := [.iload_n 1, .aload_n 0, .getfield 74]) (pc' := 9) (ls' := [some (.inr (.inr (30, 0))), some (.inl x1)]) (st' := [.inl (m 30 0 7), .inl x1]) (m' := m) (by decide +kernel) rfl ?_
    refine go_icmpge h.1 (off := 7) 16 (by decide +kernel) (by decide) (fun c9 => ?_) (fun c9 => ?_)
    · refine go_blk h.1 (is := [.iconst 0]) (pc' := 17) (ls' := [some (.inr (.inr (30, 0))), some (.inl x1)]) (st' := [.inl (0 : Int32)]) (m' := m) (by decide +kernel) rfl ?_
      exact go_zret h.1 h.2.2.2.2 (Or.inl rfl) (by decide +kernel)
    · refine go_blk h.1 (is := [.iconst 1]) (pc' := 13) (ls' := [some (.inr (.inr (30, 0))), some (.inl x1)]) (st' := [.inl (1 : Int32)]) (m' := m) (by decide +kernel) rfl ?_
      refine go_goto h.1 (off := 4) 17 (by decide +kernel) (by decide) ?_
      exact go_zret h.1 h.2.2.2.2 (Or.inr rfl) (by decide +kernel)
theorem ctr_X7_isFish (l : Launch) (A : AR → Nat) (dC : Nat → ClassId) (dI : Nat → Nat → Nat) (cs : Nat → ClassId) (x1 : Int32) (m : Mem) : Ctr l A dC dI cs yX7_isFish prog_9_method_9_code 2 (some .boolean) 0 puI [.inr (.inr (30, 0)), .inl x1] m (f_X7_isFish x1 m) :=
  ctr_of (P := P_X7) (by decide +kernel) rfl pt_X7 rfl rfl (fun X hC _ _ _ _ _ hR h0 h1 hr => g_X7_isFish ⟨hC, hR, h0, h1, hr⟩ x1 m)

def f_X7_share_j26 (s0 : Int32) (x1 : Int32) (m : Mem) : Option (Int32 × Mem) :=
  if inB x1 5 = true then
    if (m 34 0 (ix x1)) = (2 : Int32) then
      if ¬ (2 : Int32) = 0 then dv (s0 / (2 : Int32)) (fun q39 =>
        some (q39, m))
      else none
    else
      some (s0, m)
  else none
theorem g_X7_share_j26 {X : XT} (h : MX X prog_9_method_15_code P_X7 0 (some .int)) (s0 : Int32) (x1 : Int32) (m : Mem) (o2 : Option AV) : Go X (Em X puI) 26 [some (.inr (.inr (30, 0))), some (.inl x1), o2] [.inl s0] m (f_X7_share_j26 s0 x1 m) := by
  unfold f_X7_share_j26
  refine go_blk h.1 (is := [.istore_n 2, .aload_n 0, .getfield 19, .iload_n 1]) (pc' := 32) (ls' := [some (.inr (.inr (30, 0))), some (.inl x1), some (.inl s0)]) (st' := [.inl x1, .inr (.inr (34, 0))]) (m' := m) (by decide +kernel) rfl ?_
  refine go_iald h.1 (by decide +kernel) rfl rfl (fun b32 => ?_)
  show Go X (Em X puI) 33 [some (.inr (.inr (30, 0))), some (.inl x1), some (.inl s0)] [.inl (m 34 0 (ix x1))] m _
  refine go_blk h.1 (is := [.iconst 2]) (pc' := 34) (ls' := [some (.inr (.inr (30, 0))), some (.inl x1), some (.inl s0)]) (st' := [.inl (2 : Int32), .inl (m 34 0 (ix x1))]) (m' := m) (by decide +kernel) rfl ?_
  refine go_icmpne h.1 (off := 9) 43 (by decide +kernel) (by decide) (fun c34 => ?_) (fun c34 => ?_)
  · refine go_blk h.1 (is := [.iload_n 2]) (pc' := 44) (ls' := [some (.inr (.inr (30, 0))), some (.inl x1), some (.inl s0)]) (st' := [.inl s0]) (m' := m) (by decide +kernel) rfl ?_
    exact go_iret h.1 h.2.2.2.2 (by decide +kernel)
  · refine go_blk h.1 (is := [.iload_n 2, .iconst 2]) (pc' := 39) (ls' := [some (.inr (.inr (30, 0))), some (.inl x1), some (.inl s0)]) (st' := [.inl (2 : Int32), .inl s0]) (m' := m) (by decide +kernel) rfl ?_
    refine go_idiv h.1 (by decide +kernel) (fun z39 q39 _ => ?_)
    refine go_goto h.1 (off := 4) 44 (by decide +kernel) (by decide) ?_
    exact go_iret h.1 h.2.2.2.2 (by decide +kernel)

def f_X7_share (x1 : Int32) (m : Mem) : Option (Int32 × Mem) :=
  if inB x1 5 = true then
    if (m 34 0 (ix x1)) = 0 then
      if inB x1 5 = true then
        f_X7_share_j26 (m 35 0 (ix x1)) x1 m
      else none
    else
      if inB x1 5 = true then
        f_X7_share_j26 ((m 35 0 (ix x1)) - (1 : Int32)) x1 m
      else none
  else none
theorem g_X7_share {X : XT} (h : MX X prog_9_method_15_code P_X7 0 (some .int)) (x1 : Int32) (m : Mem) : Go X (Em X puI) 0 [some (.inr (.inr (30, 0))), some (.inl x1), none] [] m (f_X7_share x1 m) := by
  unfold f_X7_share
  refine go_blk h.1 (is := [.aload_n 0, .getfield 19, .iload_n 1]) (pc' := 5) (ls' := [some (.inr (.inr (30, 0))), some (.inl x1), none]) (st' := [.inl x1, .inr (.inr (34, 0))]) (m' := m) (by decide +kernel) rfl ?_
  refine go_iald h.1 (by decide +kernel) rfl rfl (fun b5 => ?_)
  show Go X (Em X puI) 6 [some (.inr (.inr (30, 0))), some (.inl x1), none] [.inl (m 34 0 (ix x1))] m _
  refine go_ifne h.1 (off := 12) 18 (by decide +kernel) (by decide) (fun c6 => ?_) (fun c6 => ?_)
  · refine go_blk h.1 (is := [.aload_n 0, .getfield 22, .iload_n 1]) (pc' := 23) (ls' := [some (.inr (.inr (30, 0))), some (.inl x1), none]) (st' := [.inl x1, .inr (.inr (35, 0))]) (m' := m) (by decide +kernel) rfl ?_
    refine go_iald h.1 (by decide +kernel) rfl rfl (fun b23 => ?_)
    show Go X (Em X puI) 24 [some (.inr (.inr (30, 0))), some (.inl x1), none] [.inl (m 35 0 (ix x1))] m _
    refine go_blk h.1 (is := [.iconst 1, .isub]) (pc' := 26) (ls' := [some (.inr (.inr (30, 0))), some (.inl x1), none]) (st' := [.inl ((m 35 0 (ix x1)) - (1 : Int32))]) (m' := m) (by decide +kernel) rfl ?_
    exact g_X7_share_j26 h ((m 35 0 (ix x1)) - (1 : Int32)) x1 m (none)
  · refine go_blk h.1 (is := [.aload_n 0, .getfield 22, .iload_n 1]) (pc' := 14) (ls' := [some (.inr (.inr (30, 0))), some (.inl x1), none]) (st' := [.inl x1, .inr (.inr (35, 0))]) (m' := m) (by decide +kernel) rfl ?_
    refine go_iald h.1 (by decide +kernel) rfl rfl (fun b14 => ?_)
    show Go X (Em X puI) 15 [some (.inr (.inr (30, 0))), some (.inl x1), none] [.inl (m 35 0 (ix x1))] m _
    refine go_goto h.1 (off := 11) 26 (by decide +kernel) (by decide) ?_
    exact g_X7_share_j26 h (m 35 0 (ix x1)) x1 m (none)
theorem ctr_X7_share (l : Launch) (A : AR → Nat) (dC : Nat → ClassId) (dI : Nat → Nat → Nat) (cs : Nat → ClassId) (x1 : Int32) (m : Mem) : Ctr l A dC dI cs yX7_share prog_9_method_15_code 3 (some .int) 0 puI [.inr (.inr (30, 0)), .inl x1] m (f_X7_share x1 m) :=
  ctr_of (P := P_X7) (by decide +kernel) rfl pt_X7 rfl rfl (fun X hC _ _ _ _ _ hR h0 h1 hr => g_X7_share ⟨hC, hR, h0, h1, hr⟩ x1 m)

def f_X7_ofFish (x1 : Int32) (x2 : Int32) (m : Mem) : Option (Int32 × Mem) :=
  bnd (f_X7_isFish x1 m) (fun r2 m2 =>
    if r2 = 0 then
      some ((-1 : Int32), m2)
    else
      if x2 = (0 : Int32) then
        if inB x1 5 = true then
          some ((m2 34 0 (ix x1)), m2)
        else none
      else
        if x2 = (1 : Int32) then
          if inB x1 5 = true then
            some ((m2 35 0 (ix x1)), m2)
          else none
        else
          if x2 = (2 : Int32) then
            if inB x1 5 = true then
              some ((m2 36 0 (ix x1)), m2)
            else none
          else
            if x2 = (3 : Int32) then
              if inB x1 5 = true then
                some ((m2 37 0 (ix x1)), m2)
              else none
            else
              if x2 = (4 : Int32) then
                if inB x1 5 = true then
                  some ((m2 38 0 (ix x1)), m2)
                else none
              else
                if x2 = (5 : Int32) then
                  bnd (f_X7_share x1 m2) (fun r85 m85 =>
                    some (r85, m85))
                else
                  some ((-2 : Int32), m2))
theorem g_X7_ofFish {X : XT} (h : MX X prog_9_method_16_code P_X7 1 (some .int)) (x1 : Int32) (x2 : Int32) (m : Mem) : Go X (Em X puI) 0 [some (.inr (.inr (30, 0))), some (.inl x1), some (.inl x2)] [] m (f_X7_ofFish x1 x2 m) := by
  unfold f_X7_ofFish
  refine go_blk h.1 (is := [.aload_n 0, .iload_n 1]) (pc' := 2) (ls' := [some (.inr (.inr (30, 0))), some (.inl x1), some (.inl x2)]) (st' := [.inl x1, .inr (.inr (30, 0))]) (m' := m) (by decide +kernel) rfl ?_
  refine go_callV h.1 (index := 128) (n := 1) (t := 30) (i := 0) (ci := 7) (nf := 35) (cz := (RX7, TX7, 35)) (as := [.inl x1]) (rest := []) (ctr_X7_isFish (xl X) (xA X) (xC X) (xI X) (xk X) x1 m) (by decide +kernel) rfl rfl wd_v_X7_128 rfl (h.room (by first | decide | omega) (by decide)) h.cl (Nat.le_of_ble_eq_true rfl) puI_ok rfl (fun r2 m2 _ => ?_)
  show Go X (Em X puI) 5 [some (.inr (.inr (30, 0))), some (.inl x1), some (.inl x2)] [.inl r2] m2 _
  refine go_ifne h.1 (off := 5) 10 (by decide +kernel) (by decide) (fun c5 => ?_) (fun c5 => ?_)
  · refine go_blk h.1 (is := [.iload_n 2]) (pc' := 11) (ls' := [some (.inr (.inr (30, 0))), some (.inl x1), some (.inl x2)]) (st' := [.inl x2]) (m' := m2) (by decide +kernel) rfl ?_
    refine go_ite (fun w11_0 => ?_) (fun w11_0 => ?_)
    · refine go_tsIn h.1 (dflt := 78) (lo := 0) (hi := 5) (offs := #[37, 44, 51, 58, 65, 72]) (len := 37) (off := 37) (0 : Int32) 48 w11_0 (by decide +kernel) (by decide) rfl (by decide) ?_
      refine go_blk h.1 (is := [.aload_n 0, .getfield 19, .iload_n 1]) (pc' := 53) (ls' := [some (.inr (.inr (30, 0))), some (.inl x1), some (.inl x2)]) (st' := [.inl x1, .inr (.inr (34, 0))]) (m' := m2) (by decide +kernel) rfl ?_
      refine go_iald h.1 (by decide +kernel) rfl rfl (fun b53 => ?_)
      show Go X (Em X puI) 54 [some (.inr (.inr (30, 0))), some (.inl x1), some (.inl x2)] [.inl (m2 34 0 (ix x1))] m2 _
      exact go_iret h.1 h.2.2.2.2 (by decide +kernel)
    · refine go_ite (fun w11_1 => ?_) (fun w11_1 => ?_)
      · refine go_tsIn h.1 (dflt := 78) (lo := 0) (hi := 5) (offs := #[37, 44, 51, 58, 65, 72]) (len := 37) (off := 44) (1 : Int32) 55 w11_1 (by decide +kernel) (by decide) rfl (by decide) ?_
        refine go_blk h.1 (is := [.aload_n 0, .getfield 22, .iload_n 1]) (pc' := 60) (ls' := [some (.inr (.inr (30, 0))), some (.inl x1), some (.inl x2)]) (st' := [.inl x1, .inr (.inr (35, 0))]) (m' := m2) (by decide +kernel) rfl ?_
        refine go_iald h.1 (by decide +kernel) rfl rfl (fun b60 => ?_)
        show Go X (Em X puI) 61 [some (.inr (.inr (30, 0))), some (.inl x1), some (.inl x2)] [.inl (m2 35 0 (ix x1))] m2 _
        exact go_iret h.1 h.2.2.2.2 (by decide +kernel)
      · refine go_ite (fun w11_2 => ?_) (fun w11_2 => ?_)
        · refine go_tsIn h.1 (dflt := 78) (lo := 0) (hi := 5) (offs := #[37, 44, 51, 58, 65, 72]) (len := 37) (off := 51) (2 : Int32) 62 w11_2 (by decide +kernel) (by decide) rfl (by decide) ?_
          refine go_blk h.1 (is := [.aload_n 0, .getfield 25, .iload_n 1]) (pc' := 67) (ls' := [some (.inr (.inr (30, 0))), some (.inl x1), some (.inl x2)]) (st' := [.inl x1, .inr (.inr (36, 0))]) (m' := m2) (by decide +kernel) rfl ?_
          refine go_iald h.1 (by decide +kernel) rfl rfl (fun b67 => ?_)
          show Go X (Em X puI) 68 [some (.inr (.inr (30, 0))), some (.inl x1), some (.inl x2)] [.inl (m2 36 0 (ix x1))] m2 _
          exact go_iret h.1 h.2.2.2.2 (by decide +kernel)
        · refine go_ite (fun w11_3 => ?_) (fun w11_3 => ?_)
          · refine go_tsIn h.1 (dflt := 78) (lo := 0) (hi := 5) (offs := #[37, 44, 51, 58, 65, 72]) (len := 37) (off := 58) (3 : Int32) 69 w11_3 (by decide +kernel) (by decide) rfl (by decide) ?_
            refine go_blk h.1 (is := [.aload_n 0, .getfield 28, .iload_n 1]) (pc' := 74) (ls' := [some (.inr (.inr (30, 0))), some (.inl x1), some (.inl x2)]) (st' := [.inl x1, .inr (.inr (37, 0))]) (m' := m2) (by decide +kernel) rfl ?_
            refine go_iald h.1 (by decide +kernel) rfl rfl (fun b74 => ?_)
            show Go X (Em X puI) 75 [some (.inr (.inr (30, 0))), some (.inl x1), some (.inl x2)] [.inl (m2 37 0 (ix x1))] m2 _
            exact go_iret h.1 h.2.2.2.2 (by decide +kernel)
          · refine go_ite (fun w11_4 => ?_) (fun w11_4 => ?_)
            · refine go_tsIn h.1 (dflt := 78) (lo := 0) (hi := 5) (offs := #[37, 44, 51, 58, 65, 72]) (len := 37) (off := 65) (4 : Int32) 76 w11_4 (by decide +kernel) (by decide) rfl (by decide) ?_
              refine go_blk h.1 (is := [.aload_n 0, .getfield 31, .iload_n 1]) (pc' := 81) (ls' := [some (.inr (.inr (30, 0))), some (.inl x1), some (.inl x2)]) (st' := [.inl x1, .inr (.inr (38, 0))]) (m' := m2) (by decide +kernel) rfl ?_
              refine go_iald h.1 (by decide +kernel) rfl rfl (fun b81 => ?_)
              show Go X (Em X puI) 82 [some (.inr (.inr (30, 0))), some (.inl x1), some (.inl x2)] [.inl (m2 38 0 (ix x1))] m2 _
              exact go_iret h.1 h.2.2.2.2 (by decide +kernel)
            · refine go_ite (fun w11_5 => ?_) (fun w11_5 => ?_)
              · refine go_tsIn h.1 (dflt := 78) (lo := 0) (hi := 5) (offs := #[37, 44, 51, 58, 65, 72]) (len := 37) (off := 72) (5 : Int32) 83 w11_5 (by decide +kernel) (by decide) rfl (by decide) ?_
                refine go_blk h.1 (is := [.aload_n 0, .iload_n 1]) (pc' := 85) (ls' := [some (.inr (.inr (30, 0))), some (.inl x1), some (.inl x2)]) (st' := [.inl x1, .inr (.inr (30, 0))]) (m' := m2) (by decide +kernel) rfl ?_
                refine go_callV h.1 (index := 131) (n := 1) (t := 30) (i := 0) (ci := 7) (nf := 35) (cz := (RX7, TX7, 35)) (as := [.inl x1]) (rest := []) (ctr_X7_share (xl X) (xA X) (xC X) (xI X) (xk X) x1 m2) (by decide +kernel) rfl rfl wd_v_X7_131 rfl (h.room (by first | decide | omega) (by decide)) h.cl (Nat.le_of_ble_eq_true rfl) puI_ok rfl (fun r85 m85 _ => ?_)
                show Go X (Em X puI) 88 [some (.inr (.inr (30, 0))), some (.inl x1), some (.inl x2)] [.inl r85] m85 _
                exact go_iret h.1 h.2.2.2.2 (by decide +kernel)
              · refine go_tsOut h.1 (dflt := 78) (lo := 0) (hi := 5) (offs := #[37, 44, 51, 58, 65, 72]) (len := 37) 89 (by decide +kernel) (sw_out (n := 6) (by decide) ((lt_s (lt_s (lt_s (lt_s (lt_s (lt_s lt_0 w11_0) w11_1) w11_2) w11_3) w11_4) w11_5) : ∀ j : Nat, j < 6 → ¬ x2 = Int32.ofInt (0 + (j : Int)))) (by decide) ?_
                refine go_blk h.1 (is := [.bipush (-2)]) (pc' := 91) (ls' := [some (.inr (.inr (30, 0))), some (.inl x1), some (.inl x2)]) (st' := [.inl (-2 : Int32)]) (m' := m2) (by decide +kernel) rfl ?_
                exact go_iret h.1 h.2.2.2.2 (by decide +kernel)
  · refine go_blk h.1 (is := [.iconst (-1)]) (pc' := 9) (ls' := [some (.inr (.inr (30, 0))), some (.inl x1), some (.inl x2)]) (st' := [.inl (-1 : Int32)]) (m' := m2) (by decide +kernel) rfl ?_
    exact go_iret h.1 h.2.2.2.2 (by decide +kernel)
theorem ctr_X7_ofFish (l : Launch) (A : AR → Nat) (dC : Nat → ClassId) (dI : Nat → Nat → Nat) (cs : Nat → ClassId) (x1 : Int32) (x2 : Int32) (m : Mem) : Ctr l A dC dI cs yX7_ofFish prog_9_method_16_code 3 (some .int) 1 puI [.inr (.inr (30, 0)), .inl x1, .inl x2] m (f_X7_ofFish x1 x2 m) :=
  ctr_of (P := P_X7) (by decide +kernel) rfl pt_X7 rfl rfl (fun X hC _ _ _ _ _ hR h0 h1 hr => g_X7_ofFish ⟨hC, hR, h0, h1, hr⟩ x1 x2 m)

def f_X7_dear (x1 : Int32) (m : Mem) : Option (Int32 × Mem) :=
  bnd (f_X7_within x1 (0 : Int32) (9 : Int32) m) (fun r4 m4 =>
    if r4 = 0 then
      some ((-2 : Int32), m4)
    else
      if (m4 30 0 5) = 0 then
        some ((-3 : Int32), m4)
      else
        some ((m4 30 0 6), (mset m4 30 0 6 x1)))
theorem g_X7_dear {X : XT} (h : MX X prog_9_method_17_code P_X7 1 (some .int)) (x1 : Int32) (m : Mem) : Go X (Em X puI) 0 [some (.inr (.inr (30, 0))), some (.inl x1), none] [] m (f_X7_dear x1 m) := by
  unfold f_X7_dear
  refine go_blk h.1 (is := [.iload_n 1, .iconst 0, .bipush 9]) (pc' := 4) (ls' := [some (.inr (.inr (30, 0))), some (.inl x1), none]) (st' := [.inl (9 : Int32), .inl (0 : Int32), .inl x1]) (m' := m) (by decide +kernel) rfl ?_
  refine go_callS h.1 (index := 70) (n := 3) (as := [.inl x1, .inl (0 : Int32), .inl (9 : Int32)]) (rest := []) (ctr_X7_within (xl X) (xA X) (xC X) (xI X) (xk X) x1 (0 : Int32) (9 : Int32) m) (by decide +kernel) wd_s_X7_70 rfl (h.room (by first | decide | omega) (by decide)) h.cl (Nat.le_of_ble_eq_true rfl) puI_ok rfl (fun r4 m4 _ => ?_)
  show Go X (Em X puI) 7 [some (.inr (.inr (30, 0))), some (.inl x1), none] [.inl r4] m4 _
  refine go_ifne h.1 (off := 6) 13 (by decide +kernel) (by decide) (fun c7 => ?_) (fun c7 => ?_)
  · refine go_blk h.1 (is := [.aload_n 0, .getfield 98]) (pc' := 17) (ls' := [some (.inr (.inr (30, 0))), some (.inl x1), none]) (st' := [.inl (m4 30 0 5)]) (m' := m4) (by decide +kernel) rfl ?_
    refine go_ifne h.1 (off := 6) 23 (by decide +kernel) (by decide) (fun c17 => ?_) (fun c17 => ?_)
    · refine go_blk h.1 (is := [.aload_n 0, .getfield 105, .istore_n 2, .aload_n 0, .iload_n 1, .putfield 105, .iload_n 2]) (pc' := 34) (ls' := [some (.inr (.inr (30, 0))), some (.inl x1), some (.inl (m4 30 0 6))]) (st' := [.inl (m4 30 0 6)]) (m' := (mset m4 30 0 6 x1)) (by decide +kernel) rfl ?_
      exact go_iret h.1 h.2.2.2.2 (by decide +kernel)
    · refine go_blk h.1 (is := [.bipush (-3)]) (pc' := 22) (ls' := [some (.inr (.inr (30, 0))), some (.inl x1), none]) (st' := [.inl (-3 : Int32)]) (m' := m4) (by decide +kernel) rfl ?_
      exact go_iret h.1 h.2.2.2.2 (by decide +kernel)
  · refine go_blk h.1 (is := [.bipush (-2)]) (pc' := 12) (ls' := [some (.inr (.inr (30, 0))), some (.inl x1), none]) (st' := [.inl (-2 : Int32)]) (m' := m4) (by decide +kernel) rfl ?_
    exact go_iret h.1 h.2.2.2.2 (by decide +kernel)
theorem ctr_X7_dear (l : Launch) (A : AR → Nat) (dC : Nat → ClassId) (dI : Nat → Nat → Nat) (cs : Nat → ClassId) (x1 : Int32) (m : Mem) : Ctr l A dC dI cs yX7_dear prog_9_method_17_code 3 (some .int) 1 puI [.inr (.inr (30, 0)), .inl x1] m (f_X7_dear x1 m) :=
  ctr_of (P := P_X7) (by decide +kernel) rfl pt_X7 rfl rfl (fun X hC _ _ _ _ _ hR h0 h1 hr => g_X7_dear ⟨hC, hR, h0, h1, hr⟩ x1 m)

