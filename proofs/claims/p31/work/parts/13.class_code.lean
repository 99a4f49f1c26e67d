/-! ===== printed by wip/p31/tr.py out of the listing ===== -/
def f_X6_passes_j27 (s0 : Int32) (x1 : Int32) (x2 : Int32) (x3 : Int32) (x4 : Int32) (x5 : Int32) (m : Mem) : Option (Int32 × Mem) :=
  bnd (f_X6_refusalOf x1 x2 x3 x4 s0 m) (fun r37 m37 =>
    if r37 = 0 then
      bnd (f_X6_walkAsTold x1 x3 x4 m37) (fun r55 m55 =>
        if x5 = (1 : Int32) then
          some (r55, m55)
        else
          if r55 = (-9 : Int32) then
            if x5 = (0 : Int32) then
              some ((m55 7 0 13), m55)
            else
              if x5 = (1 : Int32) then
                bnd (f_X5_has (x5 - (10 : Int32)) m55) (fun r161 m161 =>
                  if r161 = 0 then
                    some ((-9 : Int32), m161)
                  else
                    if inB (x5 - (10 : Int32)) 5 = true then
                      some ((m161 10 0 (ix (x5 - (10 : Int32)))), m161)
                    else none)
              else
                if x5 = (2 : Int32) then
                  some ((m55 7 0 10), m55)
                else
                  if x5 = (3 : Int32) then
                    some ((m55 7 0 11), m55)
                  else
                    if x5 = (4 : Int32) then
                      some ((m55 7 0 12), m55)
                    else
                      bnd (f_X5_has (x5 - (10 : Int32)) m55) (fun r161 m161 =>
                        if r161 = 0 then
                          some ((-9 : Int32), m161)
                        else
                          if inB (x5 - (10 : Int32)) 5 = true then
                            some ((m161 10 0 (ix (x5 - (10 : Int32)))), m161)
                          else none)
          else
            some (((-100 : Int32) - r55), m55))
    else
      some (r37, m37))
theorem g_X6_passes_j27 {X : XT} (h : MX X prog_1_method_7_code P_X6 6 (some .int)) (s0 : Int32) (x1 : Int32) (x2 : Int32) (x3 : Int32) (x4 : Int32) (x5 : Int32) (m : Mem) (o6 : Option AV) (o7 : Option AV) (o8 : Option AV) : Go X (Em X puI) 27 [some (.inr (.inr (0, 0))), some (.inl x1), some (.inl x2), some (.inl x3), some (.inl x4), some (.inl x5), o6, o7, o8] [.inl s0] m (f_X6_passes_j27 s0 x1 x2 x3 x4 x5 m) := by
  unfold f_X6_passes_j27
  refine go_blk h.1 (is := [.istore 6, .aload_n 0, .iload_n 1, .iload_n 2, .iload_n 3, .iload 4, .iload 6]) (pc' := 37) (ls' := [some (.inr (.inr (0, 0))), some (.inl x1), some (.inl x2), some (.inl x3), some (.inl x4), some (.inl x5), some (.inl s0), o7, o8]) (st' := [.inl s0, .inl x4, .inl x3, .inl x2, .inl x1, .inr (.inr (0, 0))]) (m' := m) (by decide +kernel) rfl ?_
  refine go_callV h.1 (index := 121) (n := 5) (t := 0) (i := 0) (ci := 6) (nf := 7) (cz := (RX6, TX6, 7)) (as := [.inl x1, .inl x2, .inl x3, .inl x4, .inl s0]) (rest := []) (ctr_X6_refusalOf (xZ X) x1 x2 x3 x4 s0 m) (by decide +kernel) rfl rfl wd_v_X6_121 rfl (h.room (by first | decide | omega) (by decide)) h.cl (Nat.le_of_ble_eq_true rfl) puI_ok rfl (fun r37 m37 _ => ?_)
  show Go X (Em X puI) 40 [some (.inr (.inr (0, 0))), some (.inl x1), some (.inl x2), some (.inl x3), some (.inl x4), some (.inl x5), some (.inl s0), o7, o8] [.inl r37] m37 _
  refine go_blk h.1 (is := [.istore 7, .iload 7]) (pc' := 44) (ls' := [some (.inr (.inr (0, 0))), some (.inl x1), some (.inl x2), some (.inl x3), some (.inl x4), some (.inl x5), some (.inl s0), some (.inl r37), o8]) (st' := [.inl r37]) (m' := m37) (by decide +kernel) rfl ?_
  refine go_ifeq h.1 (off := 6) 50 (by decide +kernel) (by decide) (fun c44 => ?_) (fun c44 => ?_)
  · refine go_blk h.1 (is := [.aload_n 0, .iload_n 1, .iload_n 3, .iload 4]) (pc' := 55) (ls' := [some (.inr (.inr (0, 0))), some (.inl x1), some (.inl x2), some (.inl x3), some (.inl x4), some (.inl x5), some (.inl s0), some (.inl r37), o8]) (st' := [.inl x4, .inl x3, .inl x1, .inr (.inr (0, 0))]) (m' := m37) (by decide +kernel) rfl ?_
    refine go_callV h.1 (index := 125) (n := 3) (t := 0) (i := 0) (ci := 6) (nf := 7) (cz := (RX6, TX6, 7)) (as := [.inl x1, .inl x3, .inl x4]) (rest := []) (ctr_X6_walkAsTold (xZ X) x1 x3 x4 m37) (by decide +kernel) rfl rfl wd_v_X6_125 rfl (h.room (by first | decide | omega) (by decide)) h.cl (Nat.le_of_ble_eq_true rfl) puI_ok rfl (fun r55 m55 _ => ?_)
    show Go X (Em X puI) 58 [some (.inr (.inr (0, 0))), some (.inl x1), some (.inl x2), some (.inl x3), some (.inl x4), some (.inl x5), some (.inl s0), some (.inl r37), o8] [.inl r55] m55 _
    refine go_blk h.1 (is := [.istore 8, .iload 5, .iconst 1]) (pc' := 63) (ls' := [some (.inr (.inr (0, 0))), some (.inl x1), some (.inl x2), some (.inl x3), some (.inl x4), some (.inl x5), some (.inl s0), some (.inl r37), some (.inl r55)]) (st' := [.inl (1 : Int32), .inl x5]) (m' := m55) (by decide +kernel) rfl ?_
    refine go_icmpne h.1 (off := 6) 69 (by decide +kernel) (by decide) (fun c63 => ?_) (fun c63 => ?_)
    · refine go_blk h.1 (is := [.iload 8, .bipush (-9)]) (pc' := 73) (ls' := [some (.inr (.inr (0, 0))), some (.inl x1), some (.inl x2), some (.inl x3), some (.inl x4), some (.inl x5), some (.inl s0), some (.inl r37), some (.inl r55)]) (st' := [.inl (-9 : Int32), .inl r55]) (m' := m55) (by decide +kernel) rfl ?_
      refine go_icmpeq h.1 (off := 9) 82 (by decide +kernel) (by decide) (fun c73 => ?_) (fun c73 => ?_)
      · refine go_blk h.1 (is := [.iload 5]) (pc' := 84) (ls' := [some (.inr (.inr (0, 0))), some (.inl x1), some (.inl x2), some (.inl x3), some (.inl x4), some (.inl x5), some (.inl s0), some (.inl r37), some (.inl r55)]) (st' := [.inl x5]) (m' := m55) (by decide +kernel) rfl ?_
        refine go_ite (fun w84_0 => ?_) (fun w84_0 => ?_)
        · refine go_tsIn h.1 (dflt := 68) (lo := 0) (hi := 4) (offs := #[36, 68, 44, 52, 60]) (len := 36) (off := 36) (0 : Int32) 120 w84_0 (by decide +kernel) (by decide) rfl (by decide) ?_
          refine go_blk h.1 (is := [.aload_n 0, .getfield 28, .getfield 128]) (pc' := 127) (ls' := [some (.inr (.inr (0, 0))), some (.inl x1), some (.inl x2), some (.inl x3), some (.inl x4), some (.inl x5), some (.inl s0), some (.inl r37), some (.inl r55)]) (st' := [.inl (m55 7 0 13)]) (m' := m55) (by decide +kernel) rfl ?_
          exact go_iret h.1 h.2.2.2.2 (by decide +kernel)
        · refine go_ite (fun w84_1 => ?_) (fun w84_1 => ?_)
          · refine go_tsIn h.1 (dflt := 68) (lo := 0) (hi := 4) (offs := #[36, 68, 44, 52, 60]) (len := 36) (off := 68) (1 : Int32) 152 w84_1 (by decide +kernel) (by decide) rfl (by decide) ?_
            refine go_blk h.1 (is := [.aload_n 0, .getfield 21, .iload 5, .bipush 10, .isub]) (pc' := 161) (ls' := [some (.inr (.inr (0, 0))), some (.inl x1), some (.inl x2), some (.inl x3), some (.inl x4), some (.inl x5), some (.inl s0), some (.inl r37), some (.inl r55)]) (st' := [.inl (x5 - (10 : Int32)), .inr (.inr (4, 0))]) (m' := m55) (by decide +kernel) rfl ?_
            refine go_callV h.1 (index := 83) (n := 1) (t := 4) (i := 0) (ci := 5) (nf := 4) (cz := (RX5, TX5, 4)) (as := [.inl (x5 - (10 : Int32))]) (rest := []) (ctr_X5_has (xZ X) (x5 - (10 : Int32)) m55) (by decide +kernel) rfl rfl wd_v_X6_83 rfl (h.room (by first | decide | omega) (by decide)) h.cl (Nat.le_of_ble_eq_true rfl) puI_ok rfl (fun r161 m161 _ => ?_)
            show Go X (Em X puI) 164 [some (.inr (.inr (0, 0))), some (.inl x1), some (.inl x2), some (.inl x3), some (.inl x4), some (.inl x5), some (.inl s0), some (.inl r37), some (.inl r55)] [.inl r161] m161 _
            refine go_ifeq h.1 (off := 19) 183 (by decide +kernel) (by decide) (fun c164 => ?_) (fun c164 => ?_)
            · refine go_blk h.1 (is := [.bipush (-9)]) (pc' := 185) (ls' := [some (.inr (.inr (0, 0))), some (.inl x1), some (.inl x2), some (.inl x3), some (.inl x4), some (.inl x5), some (.inl s0), some (.inl r37), some (.inl r55)]) (st' := [.inl (-9 : Int32)]) (m' := m161) (by decide +kernel) rfl ?_
              exact go_iret h.1 h.2.2.2.2 (by decide +kernel)
            · refine go_blk h.1 (is := [.aload_n 0, .getfield 28, .getfield 138, .iload 5, .bipush 10, .isub]) (pc' := 179) (ls' := [some (.inr (.inr (0, 0))), some (.inl x1), some (.inl x2), some (.inl x3), some (.inl x4), some (.inl x5), some (.inl s0), some (.inl r37), some (.inl r55)]) (st' := [.inl (x5 - (10 : Int32)), .inr (.inr (10, 0))]) (m' := m161) (by decide +kernel) rfl ?_
              refine go_iald h.1 (by decide +kernel) rfl rfl (fun b179 => ?_)
              show Go X (Em X puI) 180 [some (.inr (.inr (0, 0))), some (.inl x1), some (.inl x2), some (.inl x3), some (.inl x4), some (.inl x5), some (.inl s0), some (.inl r37), some (.inl r55)] [.inl (m161 10 0 (ix (x5 - (10 : Int32))))] m161 _
              refine go_goto h.1 (off := 5) 185 (by decide +kernel) (by decide) ?_
              exact go_iret h.1 h.2.2.2.2 (by decide +kernel)
          · refine go_ite (fun w84_2 => ?_) (fun w84_2 => ?_)
            · refine go_tsIn h.1 (dflt := 68) (lo := 0) (hi := 4) (offs := #[36, 68, 44, 52, 60]) (len := 36) (off := 44) (2 : Int32) 128 w84_2 (by decide +kernel) (by decide) rfl (by decide) ?_
              refine go_blk h.1 (is := [.aload_n 0, .getfield 28, .getfield 131]) (pc' := 135) (ls' := [some (.inr (.inr (0, 0))), some (.inl x1), some (.inl x2), some (.inl x3), some (.inl x4), some (.inl x5), some (.inl s0), some (.inl r37), some (.inl r55)]) (st' := [.inl (m55 7 0 10)]) (m' := m55) (by decide +kernel) rfl ?_
              exact go_iret h.1 h.2.2.2.2 (by decide +kernel)
            · refine go_ite (fun w84_3 => ?_) (fun w84_3 => ?_)
              · refine go_tsIn h.1 (dflt := 68) (lo := 0) (hi := 4) (offs := #[36, 68, 44, 52, 60]) (len := 36) (off := 52) (3 : Int32) 136 w84_3 (by decide +kernel) (by decide) rfl (by decide) ?_
                refine go_blk h.1 (is := [.aload_n 0, .getfield 28, .getfield 132]) (pc' := 143) (ls' := [some (.inr (.inr (0, 0))), some (.inl x1), some (.inl x2), some (.inl x3), some (.inl x4), some (.inl x5), some (.inl s0), some (.inl r37), some (.inl r55)]) (st' := [.inl (m55 7 0 11)]) (m' := m55) (by decide +kernel) rfl ?_
                exact go_iret h.1 h.2.2.2.2 (by decide +kernel)
              · refine go_ite (fun w84_4 => ?_) (fun w84_4 => ?_)
                · refine go_tsIn h.1 (dflt := 68) (lo := 0) (hi := 4) (offs := #[36, 68, 44, 52, 60]) (len := 36) (off := 60) (4 : Int32) 144 w84_4 (by decide +kernel) (by decide) rfl (by decide) ?_
                  refine go_blk h.1 (is := [.aload_n 0, .getfield 28, .getfield 135]) (pc' := 151) (ls' := [some (.inr (.inr (0, 0))), some (.inl x1), some (.inl x2), some (.inl x3), some (.inl x4), some (.inl x5), some (.inl s0), some (.inl r37), some (.inl r55)]) (st' := [.inl (m55 7 0 12)]) (m' := m55) (by decide +kernel) rfl ?_
                  exact go_iret h.1 h.2.2.2.2 (by decide +kernel)
                · refine go_tsOut h.1 (dflt := 68) (lo := 0) (hi := 4) (offs := #[36, 68, 44, 52, 60]) (len := 36) 152 (by decide +kernel) (sw_out (n := 5) (by decide) ((lt_s (lt_s (lt_s (lt_s (lt_s lt_0 w84_0) w84_1) w84_2) w84_3) w84_4) : ∀ j : Nat, j < 5 → ¬ x5 = Int32.ofInt (0 + (j : Int)))) (by decide) ?_
                  refine go_blk h.1 (is := [.aload_n 0, .getfield 21, .iload 5, .bipush 10, .isub]) (pc' := 161) (ls' := [some (.inr (.inr (0, 0))), some (.inl x1), some (.inl x2), some (.inl x3), some (.inl x4), some (.inl x5), some (.inl s0), some (.inl r37), some (.inl r55)]) (st' := [.inl (x5 - (10 : Int32)), .inr (.inr (4, 0))]) (m' := m55) (by decide +kernel) rfl ?_
                  refine go_callV h.1 (index := 83) (n := 1) (t := 4) (i := 0) (ci := 5) (nf := 4) (cz := (RX5, TX5, 4)) (as := [.inl (x5 - (10 : Int32))]) (rest := []) (ctr_X5_has (xZ X) (x5 - (10 : Int32)) m55) (by decide +kernel) rfl rfl wd_v_X6_83 rfl (h.room (by first | decide | omega) (by decide)) h.cl (Nat.le_of_ble_eq_true rfl) puI_ok rfl (fun r161 m161 _ => ?_)
                  show Go X (Em X puI) 164 [some (.inr (.inr (0, 0))), some (.inl x1), some (.inl x2), some (.inl x3), some (.inl x4), some (.inl x5), some (.inl s0), some (.inl r37), some (.inl r55)] [.inl r161] m161 _
                  refine go_ifeq h.1 (off := 19) 183 (by decide +kernel) (by decide) (fun c164 => ?_) (fun c164 => ?_)
                  · refine go_blk h.1 (is := [.bipush (-9)]) (pc' := 185) (ls' := [some (.inr (.inr (0, 0))), some (.inl x1), some (.inl x2), some (.inl x3), some (.inl x4), some (.inl x5), some (.inl s0), some (.inl r37), some (.inl r55)]) (st' := [.inl (-9 : Int32)]) (m' := m161) (by decide +kernel) rfl ?_
                    exact go_iret h.1 h.2.2.2.2 (by decide +kernel)
                  · refine go_blk h.1 (is := [.aload_n 0, .getfield 28, .getfield 138, .iload 5, .bipush 10, .isub]) (pc' := 179) (ls' := [some (.inr (.inr (0, 0))), some (.inl x1), some (.inl x2), some (.inl x3), some (.inl x4), some (.inl x5), some (.inl s0), some (.inl r37), some (.inl r55)]) (st' := [.inl (x5 - (10 : Int32)), .inr (.inr (10, 0))]) (m' := m161) (by decide +kernel) rfl ?_
                    refine go_iald h.1 (by decide +kernel) rfl rfl (fun b179 => ?_)
                    show Go X (Em X puI) 180 [some (.inr (.inr (0, 0))), some (.inl x1), some (.inl x2), some (.inl x3), some (.inl x4), some (.inl x5), some (.inl s0), some (.inl r37), some (.inl r55)] [.inl (m161 10 0 (ix (x5 - (10 : Int32))))] m161 _
                    refine go_goto h.1 (off := 5) 185 (by decide +kernel) (by decide) ?_
                    exact go_iret h.1 h.2.2.2.2 (by decide +kernel)
      · refine go_blk h.1 (is := [.bipush (-100), .iload 8, .isub]) (pc' := 81) (ls' := [some (.inr (.inr (0, 0))), some (.inl x1), some (.inl x2), some (.inl x3), some (.inl x4), some (.inl x5), some (.inl s0), some (.inl r37), some (.inl r55)]) (st' := [.inl ((-100 : Int32) - r55)]) (m' := m55) (by decide +kernel) rfl ?_
        exact go_iret h.1 h.2.2.2.2 (by decide +kernel)
    · refine go_blk h.1 (is := [.iload 8]) (pc' := 68) (ls' := [some (.inr (.inr (0, 0))), some (.inl x1), some (.inl x2), some (.inl x3), some (.inl x4), some (.inl x5), some (.inl s0), some (.inl r37), some (.inl r55)]) (st' := [.inl r55]) (m' := m55) (by decide +kernel) rfl ?_
      exact go_iret h.1 h.2.2.2.2 (by decide +kernel)
  · refine go_blk h.1 (is := [.iload 7]) (pc' := 49) (ls' := [some (.inr (.inr (0, 0))), some (.inl x1), some (.inl x2), some (.inl x3), some (.inl x4), some (.inl x5), some (.inl s0), some (.inl r37), o8]) (st' := [.inl r37]) (m' := m37) (by decide +kernel) rfl ?_
    exact go_iret h.1 h.2.2.2.2 (by decide +kernel)

def f_X6_passes_j22 (x1 : Int32) (x2 : Int32) (x3 : Int32) (x4 : Int32) (x5 : Int32) (m : Mem) : Option (Int32 × Mem) :=
  f_X6_passes_j27 (1 : Int32) x1 x2 x3 x4 x5 m
theorem g_X6_passes_j22 {X : XT} (h : MX X prog_1_method_7_code P_X6 6 (some .int)) (x1 : Int32) (x2 : Int32) (x3 : Int32) (x4 : Int32) (x5 : Int32) (m : Mem) (o6 : Option AV) (o7 : Option AV) (o8 : Option AV) : Go X (Em X puI) 22 [some (.inr (.inr (0, 0))), some (.inl x1), some (.inl x2), some (.inl x3), some (.inl x4), some (.inl x5), o6, o7, o8] [] m (f_X6_passes_j22 x1 x2 x3 x4 x5 m) := by
  unfold f_X6_passes_j22
  refine go_blk h.1 (is := [.iconst 1]) (pc' := 23) (ls' := [some (.inr (.inr (0, 0))), some (.inl x1), some (.inl x2), some (.inl x3), some (.inl x4), some (.inl x5), o6, o7, o8]) (st' := [.inl (1 : Int32)]) (m' := m) (by decide +kernel) rfl ?_
  refine go_goto h.1 (off := 4) 27 (by decide +kernel) (by decide) ?_
  exact g_X6_passes_j27 h (1 : Int32) x1 x2 x3 x4 x5 m (o6) (o7) (o8)

def f_X6_passes (x1 : Int32) (x2 : Int32) (x3 : Int32) (x4 : Int32) (x5 : Int32) (m : Mem) : Option (Int32 × Mem) :=
  bnd (f_X6_isWithin x5 (0 : Int32) (4 : Int32) m) (fun r4 m4 =>
    if r4 = 0 then
      bnd (f_X6_isWithin x5 (10 : Int32) (14 : Int32) m4) (fun r16 m16 =>
        if r16 = 0 then
          f_X6_passes_j27 (0 : Int32) x1 x2 x3 x4 x5 m16
        else
          f_X6_passes_j22 x1 x2 x3 x4 x5 m16)
    else
      f_X6_passes_j22 x1 x2 x3 x4 x5 m4)
theorem g_X6_passes {X : XT} (h : MX X prog_1_method_7_code P_X6 6 (some .int)) (x1 : Int32) (x2 : Int32) (x3 : Int32) (x4 : Int32) (x5 : Int32) (m : Mem) : Go X (Em X puI) 0 [some (.inr (.inr (0, 0))), some (.inl x1), some (.inl x2), some (.inl x3), some (.inl x4), some (.inl x5), none, none, none] [] m (f_X6_passes x1 x2 x3 x4 x5 m) := by
  unfold f_X6_passes
  refine go_blk h.1 (is := [.iload 5, .iconst 0, .iconst 4]) (pc' := 4) (ls' := [some (.inr (.inr (0, 0))), some (.inl x1), some (.inl x2), some (.inl x3), some (.inl x4), some (.inl x5), none, none, none]) (st' := [.inl (4 : Int32), .inl (0 : Int32), .inl x5]) (m' := m) (by decide +kernel) rfl ?_
  refine go_callS h.1 (index := 111) (n := 3) (as := [.inl x5, .inl (0 : Int32), .inl (4 : Int32)]) (rest := []) (ctr_X6_isWithin (xZ X) x5 (0 : Int32) (4 : Int32) m) (by decide +kernel) wd_s_X6_111 rfl (h.room (by first | decide | omega) (by decide)) h.cl (Nat.le_of_ble_eq_true rfl) puI_ok rfl (fun r4 m4 _ => ?_)
  show Go X (Em X puI) 7 [some (.inr (.inr (0, 0))), some (.inl x1), some (.inl x2), some (.inl x3), some (.inl x4), some (.inl x5), none, none, none] [.inl r4] m4 _
  refine go_ifne h.1 (off := 15) 22 (by decide +kernel) (by decide) (fun c7 => ?_) (fun c7 => ?_)
  · exact g_X6_passes_j22 h x1 x2 x3 x4 x5 m4 (none) (none) (none)
  · refine go_blk h.1 (is := [.iload 5, .bipush 10, .bipush 14]) (pc' := 16) (ls' := [some (.inr (.inr (0, 0))), some (.inl x1), some (.inl x2), some (.inl x3), some (.inl x4), some (.inl x5), none, none, none]) (st' := [.inl (14 : Int32), .inl (10 : Int32), .inl x5]) (m' := m4) (by decide +kernel) rfl ?_
    refine go_callS h.1 (index := 111) (n := 3) (as := [.inl x5, .inl (10 : Int32), .inl (14 : Int32)]) (rest := []) (ctr_X6_isWithin (xZ X) x5 (10 : Int32) (14 : Int32) m4) (by decide +kernel) wd_s_X6_111 rfl (h.room (by first | decide | omega) (by decide)) h.cl (Nat.le_of_ble_eq_true rfl) puI_ok rfl (fun r16 m16 _ => ?_)
    show Go X (Em X puI) 19 [some (.inr (.inr (0, 0))), some (.inl x1), some (.inl x2), some (.inl x3), some (.inl x4), some (.inl x5), none, none, none] [.inl r16] m16 _
    refine go_ifeq h.1 (off := 7) 26 (by decide +kernel) (by decide) (fun c19 => ?_) (fun c19 => ?_)
    · refine go_blk h.1 (is := [.iconst 0]) (pc' := 27) (ls' := [some (.inr (.inr (0, 0))), some (.inl x1), some (.inl x2), some (.inl x3), some (.inl x4), some (.inl x5), none, none, none]) (st' := [.inl (0 : Int32)]) (m' := m16) (by decide +kernel) rfl ?_
      exact g_X6_passes_j27 h (0 : Int32) x1 x2 x3 x4 x5 m16 (none) (none) (none)
    · exact g_X6_passes_j22 h x1 x2 x3 x4 x5 m16 (none) (none) (none)
theorem ctr_X6_passes (Z : ZT) (x1 : Int32) (x2 : Int32) (x3 : Int32) (x4 : Int32) (x5 : Int32) (m : Mem) : Ctr Z yX6_passes prog_1_method_7_code 9 (some .int) 6 puI [.inr (.inr (0, 0)), .inl x1, .inl x2, .inl x3, .inl x4, .inl x5] m (f_X6_passes x1 x2 x3 x4 x5 m) :=
  ctr_of (P := P_X6) (by decide +kernel) rfl pt_X6 rfl rfl (fun X hC hZ hR h0 h1 hr => by subst hZ; exact g_X6_passes ⟨hC, hR, h0, h1, hr⟩ x1 x2 x3 x4 x5 m)

def f_X6_unknownFish (m : Mem) : Option (Int32 × Mem) :=
  some ((-1 : Int32), (mset m 0 0 6 (0 : Int32)))
theorem g_X6_unknownFish {X : XT} (h : MX X prog_1_method_37_code P_X6 0 (some .int)) (m : Mem) : Go X (Em X puI) 0 [some (.inr (.inr (0, 0)))] [] m (f_X6_unknownFish m) := by
  unfold f_X6_unknownFish
  refine go_blk h.1 (is := [.aload_n 0, .iconst 0, .putfield 50, .iconst (-1)]) (pc' := 6) (ls' := [some (.inr (.inr (0, 0)))]) (st' := [.inl (-1 : Int32)]) (m' := (mset m 0 0 6 (0 : Int32))) (by decide +kernel) rfl ?_
  exact go_iret h.1 h.2.2.2.2 (by decide +kernel)
theorem ctr_X6_unknownFish (Z : ZT) (m : Mem) : Ctr Z yX6_unknownFish prog_1_method_37_code 1 (some .int) 0 puI [.inr (.inr (0, 0))] m (f_X6_unknownFish m) :=
  ctr_of (P := P_X6) (by decide +kernel) rfl pt_X6 rfl rfl (fun X hC hZ hR h0 h1 hr => by subst hZ; exact g_X6_unknownFish ⟨hC, hR, h0, h1, hr⟩ m)

def f_X6_refusalWithFish (x1 : Int32) (x2 : Int32) (x3 : Int32) (x4 : Int32) (x5 : Int32) (m : Mem) : Option (Int32 × Mem) :=
  bnd (f_X5_has x1 m) (fun r5 m5 =>
    if r5 = 0 then
      bnd (f_X6_unknownFish m5) (fun r26 m26 =>
        some (r26, m26))
    else
      bnd (f_X6_refusalOf x2 x3 x4 x5 (1 : Int32) m5) (fun r19 m19 =>
        some (r19, m19)))
theorem g_X6_refusalWithFish {X : XT} (h : MX X prog_1_method_38_code P_X6 3 (some .int)) (x1 : Int32) (x2 : Int32) (x3 : Int32) (x4 : Int32) (x5 : Int32) (m : Mem) : Go X (Em X puI) 0 [some (.inr (.inr (0, 0))), some (.inl x1), some (.inl x2), some (.inl x3), some (.inl x4), some (.inl x5)] [] m (f_X6_refusalWithFish x1 x2 x3 x4 x5 m) := by
  unfold f_X6_refusalWithFish
  refine go_blk h.1 (is := [.aload_n 0, .getfield 21, .iload_n 1]) (pc' := 5) (ls' := [some (.inr (.inr (0, 0))), some (.inl x1), some (.inl x2), some (.inl x3), some (.inl x4), some (.inl x5)]) (st' := [.inl x1, .inr (.inr (4, 0))]) (m' := m) (by decide +kernel) rfl ?_
  refine go_callV h.1 (index := 83) (n := 1) (t := 4) (i := 0) (ci := 5) (nf := 4) (cz := (RX5, TX5, 4)) (as := [.inl x1]) (rest := []) (ctr_X5_has (xZ X) x1 m) (by decide +kernel) rfl rfl wd_v_X6_83 rfl (h.room (by first | decide | omega) (by decide)) h.cl (Nat.le_of_ble_eq_true rfl) puI_ok rfl (fun r5 m5 _ => ?_)
  show Go X (Em X puI) 8 [some (.inr (.inr (0, 0))), some (.inl x1), some (.inl x2), some (.inl x3), some (.inl x4), some (.inl x5)] [.inl r5] m5 _
  refine go_ifeq h.1 (off := 17) 25 (by decide +kernel) (by decide) (fun c8 => ?_) (fun c8 => ?_)
  · refine go_blk h.1 (is := [.aload_n 0]) (pc' := 26) (ls' := [some (.inr (.inr (0, 0))), some (.inl x1), some (.inl x2), some (.inl x3), some (.inl x4), some (.inl x5)]) (st' := [.inr (.inr (0, 0))]) (m' := m5) (by decide +kernel) rfl ?_
    refine go_callV h.1 (index := 145) (n := 0) (t := 0) (i := 0) (ci := 6) (nf := 7) (cz := (RX6, TX6, 7)) (as := []) (rest := []) (ctr_X6_unknownFish (xZ X) m5) (by decide +kernel) rfl rfl wd_v_X6_145 rfl (h.room (by first | decide | omega) (by decide)) h.cl (Nat.le_of_ble_eq_true rfl) puI_ok rfl (fun r26 m26 _ => ?_)
    show Go X (Em X puI) 29 [some (.inr (.inr (0, 0))), some (.inl x1), some (.inl x2), some (.inl x3), some (.inl x4), some (.inl x5)] [.inl r26] m26 _
    exact go_iret h.1 h.2.2.2.2 (by decide +kernel)
  · refine go_blk h.1 (is := [.aload_n 0, .iload_n 2, .iload_n 3, .iload 4, .iload 5, .iconst 1]) (pc' := 19) (ls' := [some (.inr (.inr (0, 0))), some (.inl x1), some (.inl x2), some (.inl x3), some (.inl x4), some (.inl x5)]) (st' := [.inl (1 : Int32), .inl x5, .inl x4, .inl x3, .inl x2, .inr (.inr (0, 0))]) (m' := m5) (by decide +kernel) rfl ?_
    refine go_callV h.1 (index := 121) (n := 5) (t := 0) (i := 0) (ci := 6) (nf := 7) (cz := (RX6, TX6, 7)) (as := [.inl x2, .inl x3, .inl x4, .inl x5, .inl (1 : Int32)]) (rest := []) (ctr_X6_refusalOf (xZ X) x2 x3 x4 x5 (1 : Int32) m5) (by decide +kernel) rfl rfl wd_v_X6_121 rfl (h.room (by first | decide | omega) (by decide)) h.cl (Nat.le_of_ble_eq_true rfl) puI_ok rfl (fun r19 m19 _ => ?_)
    show Go X (Em X puI) 22 [some (.inr (.inr (0, 0))), some (.inl x1), some (.inl x2), some (.inl x3), some (.inl x4), some (.inl x5)] [.inl r19] m19 _
    refine go_goto h.1 (off := 7) 29 (by decide +kernel) (by decide) ?_
    exact go_iret h.1 h.2.2.2.2 (by decide +kernel)
theorem ctr_X6_refusalWithFish (Z : ZT) (x1 : Int32) (x2 : Int32) (x3 : Int32) (x4 : Int32) (x5 : Int32) (m : Mem) : Ctr Z yX6_refusalWithFish prog_1_method_38_code 6 (some .int) 3 puI [.inr (.inr (0, 0)), .inl x1, .inl x2, .inl x3, .inl x4, .inl x5] m (f_X6_refusalWithFish x1 x2 x3 x4 x5 m) :=
  ctr_of (P := P_X6) (by decide +kernel) rfl pt_X6 rfl rfl (fun X hC hZ hR h0 h1 hr => by subst hZ; exact g_X6_refusalWithFish ⟨hC, hR, h0, h1, hr⟩ x1 x2 x3 x4 x5 m)

def f_X6_owes_j30 (s0 : Int32) (x1 : Int32) (x2 : Int32) (x3 : Int32) (x5 : Int32) (x6 : Int32) (m : Mem) : Option (Int32 × Mem) :=
  if s0 = 0 then
    bnd (f_X6_walkAsTold x3 x5 x6 m) (fun r46 m46 =>
      if r46 = (-9 : Int32) then
        if inB x1 5 = true then
          if inB x2 5 = true then
            some ((m46 14 (5 * 0 + (ix x1)) (ix x2)), m46)
          else none
        else none
      else
        some (((-100 : Int32) - r46), m46))
  else
    some (s0, m)
theorem g_X6_owes_j30 {X : XT} (h : MX X prog_1_method_8_code P_X6 6 (some .int)) (s0 : Int32) (x1 : Int32) (x2 : Int32) (x3 : Int32) (x5 : Int32) (x6 : Int32) (m : Mem) (o4 : Option AV) (o7 : Option AV) (o8 : Option AV) : Go X (Em X puI) 30 [some (.inr (.inr (0, 0))), some (.inl x1), some (.inl x2), some (.inl x3), o4, some (.inl x5), some (.inl x6), o7, o8] [.inl s0] m (f_X6_owes_j30 s0 x1 x2 x3 x5 x6 m) := by
  unfold f_X6_owes_j30
  refine go_blk h.1 (is := [.istore 7, .iload 7]) (pc' := 34) (ls' := [some (.inr (.inr (0, 0))), some (.inl x1), some (.inl x2), some (.inl x3), o4, some (.inl x5), some (.inl x6), some (.inl s0), o8]) (st' := [.inl s0]) (m' := m) (by decide +kernel) rfl ?_
  refine go_ifeq h.1 (off := 6) 40 (by decide +kernel) (by decide) (fun c34 => ?_) (fun c34 => ?_)
  · refine go_blk h.1 (is := [.aload_n 0, .iload_n 3, .iload 5, .iload 6]) (pc' := 46) (ls' := [some (.inr (.inr (0, 0))), some (.inl x1), some (.inl x2), some (.inl x3), o4, some (.inl x5), some (.inl x6), some (.inl s0), o8]) (st' := [.inl x6, .inl x5, .inl x3, .inr (.inr (0, 0))]) (m' := m) (by decide +kernel) rfl ?_
    refine go_callV h.1 (index := 125) (n := 3) (t := 0) (i := 0) (ci := 6) (nf := 7) (cz := (RX6, TX6, 7)) (as := [.inl x3, .inl x5, .inl x6]) (rest := []) (ctr_X6_walkAsTold (xZ X) x3 x5 x6 m) (by decide +kernel) rfl rfl wd_v_X6_125 rfl (h.room (by first | decide | omega) (by decide)) h.cl (Nat.le_of_ble_eq_true rfl) puI_ok rfl (fun r46 m46 _ => ?_)
    show Go X (Em X puI) 49 [some (.inr (.inr (0, 0))), some (.inl x1), some (.inl x2), some (.inl x3), o4, some (.inl x5), some (.inl x6), some (.inl s0), o8] [.inl r46] m46 _
    refine go_blk h.1 (is := [.istore 8, .iload 8, .bipush (-9)]) (pc' := 55) (ls' := [some (.inr (.inr (0, 0))), some (.inl x1), some (.inl x2), some (.inl x3), o4, some (.inl x5), some (.inl x6), some (.inl s0), some (.inl r46)]) (st' := [.inl (-9 : Int32), .inl r46]) (m' := m46) (by decide +kernel) rfl ?_
    refine go_icmpeq h.1 (off := 11) 66 (by decide +kernel) (by decide) (fun c55 => ?_) (fun c55 => ?_)
    · refine go_blk h.1 (is := [.aload_n 0, .getfield 28, .getfield 149, .iload_n 1]) (pc' := 74) (ls' := [some (.inr (.inr (0, 0))), some (.inl x1), some (.inl x2), some (.inl x3), o4, some (.inl x5), some (.inl x6), some (.inl s0), some (.inl r46)]) (st' := [.inl x1, .inr (.inr (13, 0))]) (m' := m46) (by decide +kernel) rfl ?_
      refine go_aald h.1 (kd := 2) (z := (14, (5 * 0 + (ix x1)))) (by decide +kernel) rfl rfl (by decide) rfl (fun b74 => ?_)
      refine go_blk h.1 (is := [.iload_n 2]) (pc' := 76) (ls' := [some (.inr (.inr (0, 0))), some (.inl x1), some (.inl x2), some (.inl x3), o4, some (.inl x5), some (.inl x6), some (.inl s0), some (.inl r46)]) (st' := [.inl x2, .inr (.inr (14, (5 * 0 + (ix x1))))]) (m' := m46) (by decide +kernel) rfl ?_
      refine go_iald h.1 (by decide +kernel) rfl rfl (fun b76 => ?_)
      show Go X (Em X puI) 77 [some (.inr (.inr (0, 0))), some (.inl x1), some (.inl x2), some (.inl x3), o4, some (.inl x5), some (.inl x6), some (.inl s0), some (.inl r46)] [.inl (m46 14 (5 * 0 + (ix x1)) (ix x2))] m46 _
      exact go_iret h.1 h.2.2.2.2 (by decide +kernel)
    · refine go_blk h.1 (is := [.bipush (-100), .iload 8, .isub]) (pc' := 63) (ls' := [some (.inr (.inr (0, 0))), some (.inl x1), some (.inl x2), some (.inl x3), o4, some (.inl x5), some (.inl x6), some (.inl s0), some (.inl r46)]) (st' := [.inl ((-100 : Int32) - r46)]) (m' := m46) (by decide +kernel) rfl ?_
      refine go_goto h.1 (off := 14) 77 (by decide +kernel) (by decide) ?_
      exact go_iret h.1 h.2.2.2.2 (by decide +kernel)
  · refine go_blk h.1 (is := [.iload 7]) (pc' := 39) (ls' := [some (.inr (.inr (0, 0))), some (.inl x1), some (.inl x2), some (.inl x3), o4, some (.inl x5), some (.inl x6), some (.inl s0), o8]) (st' := [.inl s0]) (m' := m) (by decide +kernel) rfl ?_
    exact go_iret h.1 h.2.2.2.2 (by decide +kernel)

def f_X6_owes (x1 : Int32) (x2 : Int32) (x3 : Int32) (x4 : Int32) (x5 : Int32) (x6 : Int32) (m : Mem) : Option (Int32 × Mem) :=
  bnd (f_X5_has x2 m) (fun r5 m5 =>
    if r5 = 0 then
      bnd (f_X6_unknownFish m5) (fun r27 m27 =>
        f_X6_owes_j30 r27 x1 x2 x3 x5 x6 m27)
    else
      bnd (f_X6_refusalWithFish x1 x3 x4 x5 x6 m5) (fun r20 m20 =>
        f_X6_owes_j30 r20 x1 x2 x3 x5 x6 m20))
theorem g_X6_owes {X : XT} (h : MX X prog_1_method_8_code P_X6 6 (some .int)) (x1 : Int32) (x2 : Int32) (x3 : Int32) (x4 : Int32) (x5 : Int32) (x6 : Int32) (m : Mem) : Go X (Em X puI) 0 [some (.inr (.inr (0, 0))), some (.inl x1), some (.inl x2), some (.inl x3), some (.inl x4), some (.inl x5), some (.inl x6), none, none] [] m (f_X6_owes x1 x2 x3 x4 x5 x6 m) := by
  unfold f_X6_owes
  refine go_blk h.1 (is := [.aload_n 0, .getfield 21, .iload_n 2]) (pc' := 5) (ls' := [some (.inr (.inr (0, 0))), some (.inl x1), some (.inl x2), some (.inl x3), some (.inl x4), some (.inl x5), some (.inl x6), none, none]) (st' := [.inl x2, .inr (.inr (4, 0))]) (m' := m) (by decide +kernel) rfl ?_
  refine go_callV h.1 (index := 83) (n := 1) (t := 4) (i := 0) (ci := 5) (nf := 4) (cz := (RX5, TX5, 4)) (as := [.inl x2]) (rest := []) (ctr_X5_has (xZ X) x2 m) (by decide +kernel) rfl rfl wd_v_X6_83 rfl (h.room (by first | decide | omega) (by decide)) h.cl (Nat.le_of_ble_eq_true rfl) puI_ok rfl (fun r5 m5 _ => ?_)
  show Go X (Em X puI) 8 [some (.inr (.inr (0, 0))), some (.inl x1), some (.inl x2), some (.inl x3), some (.inl x4), some (.inl x5), some (.inl x6), none, none] [.inl r5] m5 _
  refine go_ifeq h.1 (off := 18) 26 (by decide +kernel) (by decide) (fun c8 => ?_) (fun c8 => ?_)
  · refine go_blk h.1 (is := [.aload_n 0]) (pc' := 27) (ls' := [some (.inr (.inr (0, 0))), some (.inl x1), some (.inl x2), some (.inl x3), some (.inl x4), some (.inl x5), some (.inl x6), none, none]) (st' := [.inr (.inr (0, 0))]) (m' := m5) (by decide +kernel) rfl ?_
    refine go_callV h.1 (index := 145) (n := 0) (t := 0) (i := 0) (ci := 6) (nf := 7) (cz := (RX6, TX6, 7)) (as := []) (rest := []) (ctr_X6_unknownFish (xZ X) m5) (by decide +kernel) rfl rfl wd_v_X6_145 rfl (h.room (by first | decide | omega) (by decide)) h.cl (Nat.le_of_ble_eq_true rfl) puI_ok rfl (fun r27 m27 _ => ?_)
    show Go X (Em X puI) 30 [some (.inr (.inr (0, 0))), some (.inl x1), some (.inl x2), some (.inl x3), some (.inl x4), some (.inl x5), some (.inl x6), none, none] [.inl r27] m27 _
    exact g_X6_owes_j30 h r27 x1 x2 x3 x5 x6 m27 (some (.inl x4)) (none) (none)
  · refine go_blk h.1 (is := [.aload_n 0, .iload_n 1, .iload_n 3, .iload 4, .iload 5, .iload 6]) (pc' := 20) (ls' := [some (.inr (.inr (0, 0))), some (.inl x1), some (.inl x2), some (.inl x3), some (.inl x4), some (.inl x5), some (.inl x6), none, none]) (st' := [.inl x6, .inl x5, .inl x4, .inl x3, .inl x1, .inr (.inr (0, 0))]) (m' := m5) (by decide +kernel) rfl ?_
    refine go_callV h.1 (index := 141) (n := 5) (t := 0) (i := 0) (ci := 6) (nf := 7) (cz := (RX6, TX6, 7)) (as := [.inl x1, .inl x3, .inl x4, .inl x5, .inl x6]) (rest := []) (ctr_X6_refusalWithFish (xZ X) x1 x3 x4 x5 x6 m5) (by decide +kernel) rfl rfl wd_v_X6_141 rfl (h.room (by first | decide | omega) (by decide)) h.cl (Nat.le_of_ble_eq_true rfl) puI_ok rfl (fun r20 m20 _ => ?_)
    show Go X (Em X puI) 23 [some (.inr (.inr (0, 0))), some (.inl x1), some (.inl x2), some (.inl x3), some (.inl x4), some (.inl x5), some (.inl x6), none, none] [.inl r20] m20 _
    refine go_goto h.1 (off := 7) 30 (by decide +kernel) (by decide) ?_
    exact g_X6_owes_j30 h r20 x1 x2 x3 x5 x6 m20 (some (.inl x4)) (none) (none)
theorem ctr_X6_owes (Z : ZT) (x1 : Int32) (x2 : Int32) (x3 : Int32) (x4 : Int32) (x5 : Int32) (x6 : Int32) (m : Mem) : Ctr Z yX6_owes prog_1_method_8_code 9 (some .int) 6 puI [.inr (.inr (0, 0)), .inl x1, .inl x2, .inl x3, .inl x4, .inl x5, .inl x6] m (f_X6_owes x1 x2 x3 x4 x5 x6 m) :=
  ctr_of (P := P_X6) (by decide +kernel) rfl pt_X6 rfl rfl (fun X hC hZ hR h0 h1 hr => by subst hZ; exact g_X6_owes ⟨hC, hR, h0, h1, hr⟩ x1 x2 x3 x4 x5 x6 m)

def f_X6_toll (x1 : Int32) (x2 : Int32) (x3 : Int32) (x4 : Int32) (x5 : Int32) (m : Mem) : Option (Int32 × Mem) :=
  bnd (f_X6_refusalWithFish x1 x2 x3 x4 x5 m) (fun r8 m8 =>
    if r8 = 0 then
      bnd (f_X6_walkAsTold x2 x4 x5 m8) (fun r27 m27 =>
        if r27 = (-9 : Int32) then
          bnd (f_X0_tollOf 0 x1 m27) (fun r52 m52 =>
            some (r52, m52))
        else
          some (((-100 : Int32) - r27), m27))
    else
      some (r8, m8))
theorem g_X6_toll {X : XT} (h : MX X prog_1_method_9_code P_X6 6 (some .int)) (x1 : Int32) (x2 : Int32) (x3 : Int32) (x4 : Int32) (x5 : Int32) (m : Mem) : Go X (Em X puI) 0 [some (.inr (.inr (0, 0))), some (.inl x1), some (.inl x2), some (.inl x3), some (.inl x4), some (.inl x5), none, none] [] m (f_X6_toll x1 x2 x3 x4 x5 m) := by
  unfold f_X6_toll
  refine go_blk h.1 (is := [.aload_n 0, .iload_n 1, .iload_n 2, .iload_n 3, .iload 4, .iload 5]) (pc' := 8) (ls' := [some (.inr (.inr (0, 0))), some (.inl x1), some (.inl x2), some (.inl x3), some (.inl x4), some (.inl x5), none, none]) (st' := [.inl x5, .inl x4, .inl x3, .inl x2, .inl x1, .inr (.inr (0, 0))]) (m' := m) (by decide +kernel) rfl ?_
  refine go_callV h.1 (index := 141) (n := 5) (t := 0) (i := 0) (ci := 6) (nf := 7) (cz := (RX6, TX6, 7)) (as := [.inl x1, .inl x2, .inl x3, .inl x4, .inl x5]) (rest := []) (ctr_X6_refusalWithFish (xZ X) x1 x2 x3 x4 x5 m) (by decide +kernel) rfl rfl wd_v_X6_141 rfl (h.room (by first | decide | omega) (by decide)) h.cl (Nat.le_of_ble_eq_true rfl) puI_ok rfl (fun r8 m8 _ => ?_)
  show Go X (Em X puI) 11 [some (.inr (.inr (0, 0))), some (.inl x1), some (.inl x2), some (.inl x3), some (.inl x4), some (.inl x5), none, none] [.inl r8] m8 _
  refine go_blk h.1 (is := [.istore 6, .iload 6]) (pc' := 15) (ls' := [some (.inr (.inr (0, 0))), some (.inl x1), some (.inl x2), some (.inl x3), some (.inl x4), some (.inl x5), some (.inl r8), none]) (st' := [.inl r8]) (m' := m8) (by decide +kernel) rfl ?_
  refine go_ifeq h.1 (off := 6) 21 (by decide +kernel) (by decide) (fun c15 => ?_) (fun c15 => ?_)
  · refine go_blk h.1 (is := [.aload_n 0, .iload_n 2, .iload 4, .iload 5]) (pc' := 27) (ls' := [some (.inr (.inr (0, 0))), some (.inl x1), some (.inl x2), some (.inl x3), some (.inl x4), some (.inl x5), some (.inl r8), none]) (st' := [.inl x5, .inl x4, .inl x2, .inr (.inr (0, 0))]) (m' := m8) (by decide +kernel) rfl ?_
    refine go_callV h.1 (index := 125) (n := 3) (t := 0) (i := 0) (ci := 6) (nf := 7) (cz := (RX6, TX6, 7)) (as := [.inl x2, .inl x4, .inl x5]) (rest := []) (ctr_X6_walkAsTold (xZ X) x2 x4 x5 m8) (by decide +kernel) rfl rfl wd_v_X6_125 rfl (h.room (by first | decide | omega) (by decide)) h.cl (Nat.le_of_ble_eq_true rfl) puI_ok rfl (fun r27 m27 _ => ?_)
    show Go X (Em X puI) 30 [some (.inr (.inr (0, 0))), some (.inl x1), some (.inl x2), some (.inl x3), some (.inl x4), some (.inl x5), some (.inl r8), none] [.inl r27] m27 _
    refine go_blk h.1 (is := [.istore 7, .iload 7, .bipush (-9)]) (pc' := 36) (ls' := [some (.inr (.inr (0, 0))), some (.inl x1), some (.inl x2), some (.inl x3), some (.inl x4), some (.inl x5), some (.inl r8), some (.inl r27)]) (st' := [.inl (-9 : Int32), .inl r27]) (m' := m27) (by decide +kernel) rfl ?_
    refine go_icmpeq h.1 (off := 11) 47 (by decide +kernel) (by decide) (fun c36 => ?_) (fun c36 => ?_)
    · refine go_blk h.1 (is := [.aload_n 0, .getfield 28, .iload_n 1]) (pc' := 52) (ls' := [some (.inr (.inr (0, 0))), some (.inl x1), some (.inl x2), some (.inl x3), some (.inl x4), some (.inl x5), some (.inl r8), some (.inl r27)]) (st' := [.inl x1, .inr (.inr (7, 0))]) (m' := m27) (by decide +kernel) rfl ?_
      refine go_callV h.1 (index := 153) (n := 1) (t := 7) (i := 0) (ci := 0) (nf := 14) (cz := (RX0, TX0, 14)) (as := [.inl x1]) (rest := []) (ctr_X0_tollOf (xZ X) 0 x1 m27) (by decide +kernel) rfl rfl wd_v_X6_153 rfl (h.room (by first | decide | omega) (by decide)) h.cl (Nat.le_of_ble_eq_true rfl) puI_ok rfl (fun r52 m52 _ => ?_)
      show Go X (Em X puI) 55 [some (.inr (.inr (0, 0))), some (.inl x1), some (.inl x2), some (.inl x3), some (.inl x4), some (.inl x5), some (.inl r8), some (.inl r27)] [.inl r52] m52 _
      exact go_iret h.1 h.2.2.2.2 (by decide +kernel)
    · refine go_blk h.1 (is := [.bipush (-100), .iload 7, .isub]) (pc' := 44) (ls' := [some (.inr (.inr (0, 0))), some (.inl x1), some (.inl x2), some (.inl x3), some (.inl x4), some (.inl x5), some (.inl r8), some (.inl r27)]) (st' := [.inl ((-100 : Int32) - r27)]) (m' := m27) (by decide +kernel) rfl ?_
      refine go_goto h.1 (off := 11) 55 (by decide +kernel) (by decide) ?_
      exact go_iret h.1 h.2.2.2.2 (by decide +kernel)
  · refine go_blk h.1 (is := [.iload 6]) (pc' := 20) (ls' := [some (.inr (.inr (0, 0))), some (.inl x1), some (.inl x2), some (.inl x3), some (.inl x4), some (.inl x5), some (.inl r8), none]) (st' := [.inl r8]) (m' := m8) (by decide +kernel) rfl ?_
    exact go_iret h.1 h.2.2.2.2 (by decide +kernel)
theorem ctr_X6_toll (Z : ZT) (x1 : Int32) (x2 : Int32) (x3 : Int32) (x4 : Int32) (x5 : Int32) (m : Mem) : Ctr Z yX6_toll prog_1_method_9_code 8 (some .int) 6 puI [.inr (.inr (0, 0)), .inl x1, .inl x2, .inl x3, .inl x4, .inl x5] m (f_X6_toll x1 x2 x3 x4 x5 m) :=
  ctr_of (P := P_X6) (by decide +kernel) rfl pt_X6 rfl rfl (fun X hC hZ hR h0 h1 hr => by subst hZ; exact g_X6_toll ⟨hC, hR, h0, h1, hr⟩ x1 x2 x3 x4 x5 m)

def f_X6_wants_b24 (x1 : Int32) (x2 : Int32) (x4 : Int32) (x5 : Int32) (next : Int32 × Mem → Option (Int32 × Mem)) (exit : Mem → Option (Int32 × Mem)) (s : Int32 × Mem) : Option (Int32 × Mem) :=
  if (99 : Int32) < s.1 then
    exit (s.2)
  else
    bnd (f_X0_start 0 s.2) (fun _ m39 =>
      if inB x1 5 = true then
        if inB x1 5 = true then
          if inB x2 4 = true then
            bnd (f_X0_walk 0 (ix x2) x4 x5 (mset m39 10 0 (ix x1) ((m39 10 0 (ix x1)) + s.1))) (fun r70 m70 =>
              if r70 = (-9 : Int32) then
                some (s.1, m70)
              else
                next ((s.1 + (1 : Int32)), m70))
          else none
        else none
      else none)
theorem g_X6_wants_b24 {X : XT} (h : MX X prog_1_method_12_code P_X6 5 (some .int)) (x1 : Int32) (x2 : Int32) (x4 : Int32) (x5 : Int32) (next : Int32 × Mem → Option (Int32 × Mem)) (exit : Mem → Option (Int32 × Mem)) (hn : ∀ (y7 : Int32) (n : Mem) (o3 : Option AV) (o6 : Option AV), Go X (Em X puI) 24 [some (.inr (.inr (0, 0))), some (.inl x1), some (.inl x2), o3, some (.inl x4), some (.inl x5), o6, some (.inl y7)] [] n (next (y7, n))) (hx : ∀ (n : Mem) (o0 : Option AV) (o1 : Option AV) (o2 : Option AV) (o3 : Option AV) (o4 : Option AV) (o5 : Option AV) (o6 : Option AV) (o7 : Option AV), Go X (Em X puI) 87 [o0, o1, o2, o3, o4, o5, o6, o7] [] n (exit (n))) (s : Int32 × Mem) (o3 : Option AV) (o6 : Option AV) : Go X (Em X puI) 24 [some (.inr (.inr (0, 0))), some (.inl x1), some (.inl x2), o3, some (.inl x4), some (.inl x5), o6, some (.inl s.1)] [] s.2 (f_X6_wants_b24 x1 x2 x4 x5 next exit s) := by
  unfold f_X6_wants_b24
  refine go_blk h.1 (is := [.iload 7, .bipush 99]) (pc' := 28) (ls' := [some (.inr (.inr (0, 0))), some (.inl x1), some (.inl x2), o3, some (.inl x4), some (.inl x5), o6, some (.inl s.1)]) (st' := [.inl (99 : Int32), .inl s.1]) (m' := s.2) (by decide +kernel) rfl ?_
  refine go_icmpgt h.1 (off := 59) 87 (by decide +kernel) (by decide) (fun c28 => ?_) (fun c28 => ?_)
  · exact hx s.2 (some (.inr (.inr (0, 0)))) (some (.inl x1)) (some (.inl x2)) (o3) (some (.inl x4)) (some (.inl x5)) (o6) (some (.inl s.1))
  · refine go_blk h.1 (is := [.aload_n 0, .getfield 28, .aload_n 0, .getfield 21]) (pc' := 39) (ls' := [some (.inr (.inr (0, 0))), some (.inl x1), some (.inl x2), o3, some (.inl x4), some (.inl x5), o6, some (.inl s.1)]) (st' := [.inr (.inr (4, 0)), .inr (.inr (7, 0))]) (m' := s.2) (by decide +kernel) rfl ?_
    refine go_callV h.1 (index := 170) (n := 1) (t := 7) (i := 0) (ci := 0) (nf := 14) (cz := (RX0, TX0, 14)) (as := [.inr (.inr (4, 0))]) (rest := []) (ctr_X0_start (xZ X) 0 s.2) (by decide +kernel) rfl rfl wd_v_X6_170 rfl (h.room (by first | decide | omega) (by decide)) h.cl (Nat.le_of_ble_eq_true rfl) puV_ok rfl (fun r39 m39 _ => ?_)
    show Go X (Em X puI) 42 [some (.inr (.inr (0, 0))), some (.inl x1), some (.inl x2), o3, some (.inl x4), some (.inl x5), o6, some (.inl s.1)] [] m39 _
    refine go_blk h.1 (is := [.aload_n 0, .getfield 28, .getfield 138, .iload_n 1, .dup2]) (pc' := 51) (ls' := [some (.inr (.inr (0, 0))), some (.inl x1), some (.inl x2), o3, some (.inl x4), some (.inl x5), o6, some (.inl s.1)]) (st' := [.inl x1, .inr (.inr (10, 0)), .inl x1, .inr (.inr (10, 0))]) (m' := m39) (by decide +kernel) rfl ?_
    refine go_iald h.1 (by decide +kernel) rfl rfl (fun b51 => ?_)
    show Go X (Em X puI) 52 [some (.inr (.inr (0, 0))), some (.inl x1), some (.inl x2), o3, some (.inl x4), some (.inl x5), o6, some (.inl s.1)] [.inl (m39 10 0 (ix x1)), .inl x1, .inr (.inr (10, 0))] m39 _
    refine go_blk h.1 (is := [.iload 7, .iadd]) (pc' := 55) (ls' := [some (.inr (.inr (0, 0))), some (.inl x1), some (.inl x2), o3, some (.inl x4), some (.inl x5), o6, some (.inl s.1)]) (st' := [.inl ((m39 10 0 (ix x1)) + s.1), .inl x1, .inr (.inr (10, 0))]) (m' := m39) (by decide +kernel) rfl ?_
    refine go_iast h.1 (by decide +kernel) rfl rfl (fun b55 => ?_)
    refine go_blk h.1 (is := [.aload_n 0, .getfield 28, .aload_n 0, .getfield 13, .iload_n 2]) (pc' := 65) (ls' := [some (.inr (.inr (0, 0))), some (.inl x1), some (.inl x2), o3, some (.inl x4), some (.inl x5), o6, some (.inl s.1)]) (st' := [.inl x2, .inr (.inr (1, 0)), .inr (.inr (7, 0))]) (m' := (mset m39 10 0 (ix x1) ((m39 10 0 (ix x1)) + s.1))) (by decide +kernel) rfl ?_
    refine go_aald h.1 (kd := 0) (z := (2, (ix x2))) (by decide +kernel) rfl rfl (by decide) rfl (fun b65 => ?_)
    refine go_blk h.1 (is := [.iload 4, .iload 5]) (pc' := 70) (ls' := [some (.inr (.inr (0, 0))), some (.inl x1), some (.inl x2), o3, some (.inl x4), some (.inl x5), o6, some (.inl s.1)]) (st' := [.inl x5, .inl x4, .inr (.inr (2, (ix x2))), .inr (.inr (7, 0))]) (m' := (mset m39 10 0 (ix x1) ((m39 10 0 (ix x1)) + s.1))) (by decide +kernel) rfl ?_
    refine go_callV h.1 (index := 174) (n := 3) (t := 7) (i := 0) (ci := 0) (nf := 14) (cz := (RX0, TX0, 14)) (as := [.inr (.inr (2, (ix x2))), .inl x4, .inl x5]) (rest := []) (ctr_X0_walk (xZ X) 0 (ix x2) x4 x5 (mset m39 10 0 (ix x1) ((m39 10 0 (ix x1)) + s.1))) (by decide +kernel) rfl rfl wd_v_X6_174 rfl (h.room (by first | decide | omega) (by decide)) h.cl (Nat.le_of_ble_eq_true rfl) puI_ok rfl (fun r70 m70 _ => ?_)
    show Go X (Em X puI) 73 [some (.inr (.inr (0, 0))), some (.inl x1), some (.inl x2), o3, some (.inl x4), some (.inl x5), o6, some (.inl s.1)] [.inl r70] m70 _
    refine go_blk h.1 (is := [.bipush (-9)]) (pc' := 75) (ls' := [some (.inr (.inr (0, 0))), some (.inl x1), some (.inl x2), o3, some (.inl x4), some (.inl x5), o6, some (.inl s.1)]) (st' := [.inl (-9 : Int32), .inl r70]) (m' := m70) (by decide +kernel) rfl ?_
    refine go_icmpne h.1 (off := 6) 81 (by decide +kernel) (by decide) (fun c75 => ?_) (fun c75 => ?_)
    · refine go_blk h.1 (is := [.iinc 7 1]) (pc' := 84) (ls' := [some (.inr (.inr (0, 0))), some (.inl x1), some (.inl x2), o3, some (.inl x4), some (.inl x5), (clrL o6), some (.inl (s.1 + (1 : Int32)))]) (st' := []) (m' := m70) (by decide +kernel) rfl ?_
      refine go_goto h.1 (off := -60) 24 (by decide +kernel) (by decide) ?_
      exact hn (s.1 + (1 : Int32)) m70 (o3) ((clrL o6))
    · refine go_blk h.1 (is := [.iload 7]) (pc' := 80) (ls' := [some (.inr (.inr (0, 0))), some (.inl x1), some (.inl x2), o3, some (.inl x4), some (.inl x5), o6, some (.inl s.1)]) (st' := [.inl s.1]) (m' := m70) (by decide +kernel) rfl ?_
      exact go_iret h.1 h.2.2.2.2 (by decide +kernel)

def f_X6_wants (x1 : Int32) (x2 : Int32) (x3 : Int32) (x4 : Int32) (x5 : Int32) (m : Mem) : Option (Int32 × Mem) :=
  bnd (f_X6_refusalWithFish x1 x2 x3 x4 x5 m) (fun r8 m8 =>
    if r8 = 0 then
      lpk (f_X6_wants_b24 x1 x2 x4 x5) fuelN ((0 : Int32), m8) (fun t24 =>
        some ((-9 : Int32), t24))
    else
      some (r8, m8))
theorem g_X6_wants {X : XT} (h : MX X prog_1_method_12_code P_X6 5 (some .int)) (x1 : Int32) (x2 : Int32) (x3 : Int32) (x4 : Int32) (x5 : Int32) (m : Mem) : Go X (Em X puI) 0 [some (.inr (.inr (0, 0))), some (.inl x1), some (.inl x2), some (.inl x3), some (.inl x4), some (.inl x5), none, none] [] m (f_X6_wants x1 x2 x3 x4 x5 m) := by
  unfold f_X6_wants
  refine go_blk h.1 (is := [.aload_n 0, .iload_n 1, .iload_n 2, .iload_n 3, .iload 4, .iload 5]) (pc' := 8) (ls' := [some (.inr (.inr (0, 0))), some (.inl x1), some (.inl x2), some (.inl x3), some (.inl x4), some (.inl x5), none, none]) (st' := [.inl x5, .inl x4, .inl x3, .inl x2, .inl x1, .inr (.inr (0, 0))]) (m' := m) (by decide +kernel) rfl ?_
  refine go_callV h.1 (index := 141) (n := 5) (t := 0) (i := 0) (ci := 6) (nf := 7) (cz := (RX6, TX6, 7)) (as := [.inl x1, .inl x2, .inl x3, .inl x4, .inl x5]) (rest := []) (ctr_X6_refusalWithFish (xZ X) x1 x2 x3 x4 x5 m) (by decide +kernel) rfl rfl wd_v_X6_141 rfl (h.room (by first | decide | omega) (by decide)) h.cl (Nat.le_of_ble_eq_true rfl) puI_ok rfl (fun r8 m8 _ => ?_)
  show Go X (Em X puI) 11 [some (.inr (.inr (0, 0))), some (.inl x1), some (.inl x2), some (.inl x3), some (.inl x4), some (.inl x5), none, none] [.inl r8] m8 _
  refine go_blk h.1 (is := [.istore 6, .iload 6]) (pc' := 15) (ls' := [some (.inr (.inr (0, 0))), some (.inl x1), some (.inl x2), some (.inl x3), some (.inl x4), some (.inl x5), some (.inl r8), none]) (st' := [.inl r8]) (m' := m8) (by decide +kernel) rfl ?_
  refine go_ifeq h.1 (off := 6) 21 (by decide +kernel) (by decide) (fun c15 => ?_) (fun c15 => ?_)
  · refine go_blk h.1 (is := [.iconst 0, .istore 7]) (pc' := 24) (ls' := [some (.inr (.inr (0, 0))), some (.inl x1), some (.inl x2), some (.inl x3), some (.inl x4), some (.inl x5), some (.inl r8), some (.inl (0 : Int32))]) (st' := []) (m' := m8) (by decide +kernel) rfl ?_
    refine go_lp1 (hd := fun (y7 : Int32) (n : Mem) o => ∀ (o3 : Option AV) (o6 : Option AV), Go X (Em X puI) 24 [some (.inr (.inr (0, 0))), some (.inl x1), some (.inl x2), o3, some (.inl x4), some (.inl x5), o6, some (.inl y7)] [] n o) (fun _ _ _ _ => go_none) (fun y7 n nx_ hn_ => g_X6_wants_b24 h x1 x2 x4 x5 nx_ _ hn_ (fun z_24 o0_24 o1_24 o2_24 o3_24 o4_24 o5_24 o6_24 o7_24 => ?_) (y7, n)) fuelN (0 : Int32) m8 (some (.inl x3)) (some (.inl r8))
    refine go_blk h.1 (is := [.bipush (-9)]) (pc' := 89) (ls' := [o0_24, o1_24, o2_24, o3_24, o4_24, o5_24, o6_24, o7_24]) (st' := [.inl (-9 : Int32)]) (m' := z_24) (by decide +kernel) rfl ?_
    exact go_iret h.1 h.2.2.2.2 (by decide +kernel)
  · refine go_blk h.1 (is := [.iload 6]) (pc' := 20) (ls' := [some (.inr (.inr (0, 0))), some (.inl x1), some (.inl x2), some (.inl x3), some (.inl x4), some (.inl x5), some (.inl r8), none]) (st' := [.inl r8]) (m' := m8) (by decide +kernel) rfl ?_
    exact go_iret h.1 h.2.2.2.2 (by decide +kernel)
theorem ctr_X6_wants (Z : ZT) (x1 : Int32) (x2 : Int32) (x3 : Int32) (x4 : Int32) (x5 : Int32) (m : Mem) : Ctr Z yX6_wants prog_1_method_12_code 8 (some .int) 5 puI [.inr (.inr (0, 0)), .inl x1, .inl x2, .inl x3, .inl x4, .inl x5] m (f_X6_wants x1 x2 x3 x4 x5 m) :=
  ctr_of (P := P_X6) (by decide +kernel) rfl pt_X6 rfl rfl (fun X hC hZ hR h0 h1 hr => by subst hZ; exact g_X6_wants ⟨hC, hR, h0, h1, hr⟩ x1 x2 x3 x4 x5 m)

def f_J7_fill_53178_t3_b5 (w : Nat) (x1 : Int32) (x3 : Int32) (next : Int32 × Mem → Option (Unit × Mem)) (exit : Mem → Option (Unit × Mem)) (s : Int32 × Mem) : Option (Unit × Mem) :=
  if x3 ≤ s.1 then
    exit (s.2)
  else
    if inB s.1 60 = true then
      next ((s.1 + (1 : Int32)), (mset s.2 3 w (ix s.1) x1))
    else none
theorem g_J7_fill_53178_t3_b5 {X : XT} (h : MX X prog_11_method_103_code P_J7 0 none) (w : Nat) (x1 : Int32) (x3 : Int32) (next : Int32 × Mem → Option (Unit × Mem)) (exit : Mem → Option (Unit × Mem)) (hn : ∀ (y2 : Int32) (n : Mem), Go X (Em X puV) 5 [some (.inr (.inr (3, w))), some (.inl x1), some (.inl y2), some (.inl x3)] [] n (next (y2, n))) (hx : ∀ (n : Mem) (o0 : Option AV) (o1 : Option AV) (o2 : Option AV) (o3 : Option AV), Go X (Em X puV) 20 [o0, o1, o2, o3] [] n (exit (n))) (s : Int32 × Mem) : Go X (Em X puV) 5 [some (.inr (.inr (3, w))), some (.inl x1), some (.inl s.1), some (.inl x3)] [] s.2 (f_J7_fill_53178_t3_b5 w x1 x3 next exit s) := by
  unfold f_J7_fill_53178_t3_b5
  refine go_blk h.1 (is := [.iload_n 2, .iload_n 3]) (pc' := 7) (ls' := [some (.inr (.inr (3, w))), some (.inl x1), some (.inl s.1), some (.inl x3)]) (st' := [.inl x3, .inl s.1]) (m' := s.2) (by decide +kernel) rfl ?_
  refine go_icmpge h.1 (off := 13) 20 (by decide +kernel) (by decide) (fun c7 => ?_) (fun c7 => ?_)
  · exact hx s.2 (some (.inr (.inr (3, w)))) (some (.inl x1)) (some (.inl s.1)) (some (.inl x3))
  · refine go_blk h.1 (is := [.aload_n 0, .iload_n 2, .iload_n 1]) (pc' := 13) (ls' := [some (.inr (.inr (3, w))), some (.inl x1), some (.inl s.1), some (.inl x3)]) (st' := [.inl x1, .inl s.1, .inr (.inr (3, w))]) (m' := s.2) (by decide +kernel) rfl ?_
    refine go_iast h.1 (by decide +kernel) rfl rfl (fun b13 => ?_)
    refine go_blk h.1 (is := [.iinc 2 1]) (pc' := 17) (ls' := [some (.inr (.inr (3, w))), some (.inl x1), some (.inl (s.1 + (1 : Int32))), some (.inl x3)]) (st' := []) (m' := (mset s.2 3 w (ix s.1) x1)) (by decide +kernel) rfl ?_
    refine go_goto h.1 (off := -12) 5 (by decide +kernel) (by decide) ?_
    exact hn (s.1 + (1 : Int32)) (mset s.2 3 w (ix s.1) x1)

def f_J7_fill_53178_t3 (w : Nat) (x1 : Int32) (m : Mem) : Option (Unit × Mem) :=
  lpk (f_J7_fill_53178_t3_b5 w x1 (60 : Int32)) fuelN ((0 : Int32), m) (fun t5 =>
    some ((), t5))
theorem g_J7_fill_53178_t3 {X : XT} (h : MX X prog_11_method_103_code P_J7 0 none) (w : Nat) (x1 : Int32) (m : Mem) : Go X (Em X puV) 0 [some (.inr (.inr (3, w))), some (.inl x1), none, none] [] m (f_J7_fill_53178_t3 w x1 m) := by
  unfold f_J7_fill_53178_t3
  refine go_blk h.1 (is := [.iconst 0, .istore_n 2, .aload_n 0]) (pc' := 3) (ls' := [some (.inr (.inr (3, w))), some (.inl x1), some (.inl (0 : Int32)), none]) (st' := [.inr (.inr (3, w))]) (m' := m) (by decide +kernel) rfl ?_
  refine go_alen h.1 (by decide +kernel) rfl rfl ?_
  show Go X (Em X puV) 4 [some (.inr (.inr (3, w))), some (.inl x1), some (.inl (0 : Int32)), none] [.inl (60 : Int32)] m _
  refine go_blk h.1 (is := [.istore_n 3]) (pc' := 5) (ls' := [some (.inr (.inr (3, w))), some (.inl x1), some (.inl (0 : Int32)), some (.inl (60 : Int32))]) (st' := []) (m' := m) (by decide +kernel) rfl ?_
  refine go_lp1 (hd := fun (y2 : Int32) (n : Mem) o => Go X (Em X puV) 5 [some (.inr (.inr (3, w))), some (.inl x1), some (.inl y2), some (.inl (60 : Int32))] [] n o) (fun _ _ => go_none) (fun y2 n nx_ hn_ => g_J7_fill_53178_t3_b5 h w x1 (60 : Int32) nx_ _ hn_ (fun z_5 o0_5 o1_5 o2_5 o3_5 => ?_) (y2, n)) fuelN (0 : Int32) m
  exact go_vret h.1 h.2.2.2.2 (by decide +kernel)
theorem ctr_J7_fill_53178_t3 (Z : ZT) (w : Nat) (x1 : Int32) (m : Mem) : Ctr Z yJ7_fill_53178 prog_11_method_103_code 4 none 0 puV [.inr (.inr (3, w)), .inl x1] m (f_J7_fill_53178_t3 w x1 m) :=
  ctr_of (P := P_J7) (by decide +kernel) rfl pt_J7 rfl rfl (fun X hC hZ hR h0 h1 hr => by subst hZ; exact g_J7_fill_53178_t3 ⟨hC, hR, h0, h1, hr⟩ w x1 m)

def f_X4_begin (w : Nat) (x1 : Int32) (x2 : Int32) (m : Mem) : Option (Unit × Mem) :=
  bnd (f_J7_fill_53178_t3 w (0 : Int32) m) (fun _ m5 =>
    some ((), (mset (mset (mset m5 2 w 1 (1 : Int32)) 2 w 2 x1) 2 w 3 (if (60 : Int32) < (if x2 < (0 : Int32) then (0 : Int32) else x2) then (60 : Int32) else (if x2 < (0 : Int32) then (0 : Int32) else x2)))))
theorem g_X4_begin {X : XT} (h : MX X prog_6_method_2_code P_X4 1 none) (w : Nat) (x1 : Int32) (x2 : Int32) (m : Mem) : Go X (Em X puV) 0 [some (.inr (.inr (2, w))), some (.inl x1), some (.inl x2)] [] m (f_X4_begin w x1 x2 m) := by
  unfold f_X4_begin
  refine go_blk h.1 (is := [.aload_n 0, .getfield 9, .iconst 0]) (pc' := 5) (ls' := [some (.inr (.inr (2, w))), some (.inl x1), some (.inl x2)]) (st' := [.inl (0 : Int32), .inr (.inr (3, w))]) (m' := m) (by decide +kernel) rfl ?_
  refine go_callS h.1 (index := 26) (n := 2) (as := [.inr (.inr (3, w)), .inl (0 : Int32)]) (rest := []) (ctr_J7_fill_53178_t3 (xZ X) w (0 : Int32) m) (by decide +kernel) wd_s_X4_26 rfl (h.room (by first | decide | omega) (by decide)) h.cl (Nat.le_of_ble_eq_true rfl) puV_ok rfl (fun r5 m5 _ => ?_)
  show Go X (Em X puV) 8 [some (.inr (.inr (2, w))), some (.inl x1), some (.inl x2)] [] m5 _
  refine go_blk h.1 (is := [.aload_n 0, .iconst 1, .putfield 15, .aload_n 0, .iload_n 1, .putfield 19, .aload_n 0, .iload_n 2, .iconst 0]) (pc' := 21) (ls' := [some (.inr (.inr (2, w))), some (.inl x1), some (.inl x2)]) (st' := [.inl (0 : Int32), .inl x2, .inr (.inr (2, w))]) (m' := (mset (mset m5 2 w 1 (1 : Int32)) 2 w 2 x1)) (by decide +kernel) rfl ?_
  refine go_max h (index := 32) (by first | decide | omega) (by decide +kernel) wd_ml_X4_32 wd_st_max wd_in_Math wd_co_max (Nat.le_of_ble_eq_true rfl) ?_
  show Go X (Em X puV) 24 [some (.inr (.inr (2, w))), some (.inl x1), some (.inl x2)] [.inl (if x2 < (0 : Int32) then (0 : Int32) else x2), .inr (.inr (2, w))] (mset (mset m5 2 w 1 (1 : Int32)) 2 w 2 x1) _
  refine go_blk h.1 (is := [.bipush 60]) (pc' := 26) (ls' := [some (.inr (.inr (2, w))), some (.inl x1), some (.inl x2)]) (st' := [.inl (60 : Int32), .inl (if x2 < (0 : Int32) then (0 : Int32) else x2), .inr (.inr (2, w))]) (m' := (mset (mset m5 2 w 1 (1 : Int32)) 2 w 2 x1)) (by decide +kernel) rfl ?_
  refine go_min h (index := 38) (by first | decide | omega) (by decide +kernel) wd_ml_X4_38 wd_st_min wd_in_Math wd_co_min (Nat.le_of_ble_eq_true rfl) ?_
  show Go X (Em X puV) 29 [some (.inr (.inr (2, w))), some (.inl x1), some (.inl x2)] [.inl (if (60 : Int32) < (if x2 < (0 : Int32) then (0 : Int32) else x2) then (60 : Int32) else (if x2 < (0 : Int32) then (0 : Int32) else x2)), .inr (.inr (2, w))] (mset (mset m5 2 w 1 (1 : Int32)) 2 w 2 x1) _
  refine go_blk h.1 (is := [.putfield 23]) (pc' := 32) (ls' := [some (.inr (.inr (2, w))), some (.inl x1), some (.inl x2)]) (st' := []) (m' := (mset (mset (mset m5 2 w 1 (1 : Int32)) 2 w 2 x1) 2 w 3 (if (60 : Int32) < (if x2 < (0 : Int32) then (0 : Int32) else x2) then (60 : Int32) else (if x2 < (0 : Int32) then (0 : Int32) else x2)))) (by decide +kernel) rfl ?_
  exact go_vret h.1 h.2.2.2.2 (by decide +kernel)
theorem ctr_X4_begin (Z : ZT) (w : Nat) (x1 : Int32) (x2 : Int32) (m : Mem) : Ctr Z yX4_begin prog_6_method_2_code 3 none 1 puV [.inr (.inr (2, w)), .inl x1, .inl x2] m (f_X4_begin w x1 x2 m) :=
  ctr_of (P := P_X4) (by decide +kernel) rfl pt_X4 rfl rfl (fun X hC hZ hR h0 h1 hr => by subst hZ; exact g_X4_begin ⟨hC, hR, h0, h1, hr⟩ w x1 x2 m)

def f_X6_sheet (x1 : Int32) (x2 : Int32) (x3 : Int32) (m : Mem) : Option (Int32 × Mem) :=
  bnd (f_X6_isSheet x1 (mset m 0 0 6 (0 : Int32))) (fun r6 m6 =>
    if r6 = 0 then
      some ((-1 : Int32), m6)
    else
      bnd (f_X6_isLane x2 m6) (fun r15 m15 =>
        if r15 = 0 then
          some ((-2 : Int32), m15)
        else
          if x3 ≤ (60 : Int32) then
            if 0 ≤ x3 then
              if inB x1 4 = true then
                bnd (f_X4_begin (ix x1) x2 x3 m15) (fun _ m48 =>
                  some ((1 : Int32), m48))
              else none
            else
              bnd (f_X6_faulty (4 : Int32) m15) (fun r36 m36 =>
                some (r36, m36))
          else
            some ((-2 : Int32), m15)))
theorem g_X6_sheet {X : XT} (h : MX X prog_1_method_19_code P_X6 2 (some .int)) (x1 : Int32) (x2 : Int32) (x3 : Int32) (m : Mem) : Go X (Em X puI) 0 [some (.inr (.inr (0, 0))), some (.inl x1), some (.inl x2), some (.inl x3)] [] m (f_X6_sheet x1 x2 x3 m) := by
  unfold f_X6_sheet
  refine go_blk h.1 (is := [.aload_n 0, .iconst 0, .putfield 50, .iload_n 1]) (pc' := 6) (ls' := [some (.inr (.inr (0, 0))), some (.inl x1), some (.inl x2), some (.inl x3)]) (st' := [.inl x1]) (m' := (mset m 0 0 6 (0 : Int32))) (by decide +kernel) rfl ?_
  refine go_callS h.1 (index := 53) (n := 1) (as := [.inl x1]) (rest := []) (ctr_X6_isSheet (xZ X) x1 (mset m 0 0 6 (0 : Int32))) (by decide +kernel) wd_s_X6_53 rfl (h.room (by first | decide | omega) (by decide)) h.cl (Nat.le_of_ble_eq_true rfl) puI_ok rfl (fun r6 m6 _ => ?_)
  show Go X (Em X puI) 9 [some (.inr (.inr (0, 0))), some (.inl x1), some (.inl x2), some (.inl x3)] [.inl r6] m6 _
  refine go_ifne h.1 (off := 5) 14 (by decide +kernel) (by decide) (fun c9 => ?_) (fun c9 => ?_)
  · refine go_blk h.1 (is := [.iload_n 2]) (pc' := 15) (ls' := [some (.inr (.inr (0, 0))), some (.inl x1), some (.inl x2), some (.inl x3)]) (st' := [.inl x2]) (m' := m6) (by decide +kernel) rfl ?_
    refine go_callS h.1 (index := 57) (n := 1) (as := [.inl x2]) (rest := []) (ctr_X6_isLane (xZ X) x2 m6) (by decide +kernel) wd_s_X6_57 rfl (h.room (by first | decide | omega) (by decide)) h.cl (Nat.le_of_ble_eq_true rfl) puI_ok rfl (fun r15 m15 _ => ?_)
    show Go X (Em X puI) 18 [some (.inr (.inr (0, 0))), some (.inl x1), some (.inl x2), some (.inl x3)] [.inl r15] m15 _
    refine go_ifeq h.1 (off := 9) 27 (by decide +kernel) (by decide) (fun c18 => ?_) (fun c18 => ?_)
    · refine go_blk h.1 (is := [.bipush (-2)]) (pc' := 29) (ls' := [some (.inr (.inr (0, 0))), some (.inl x1), some (.inl x2), some (.inl x3)]) (st' := [.inl (-2 : Int32)]) (m' := m15) (by decide +kernel) rfl ?_
      exact go_iret h.1 h.2.2.2.2 (by decide +kernel)
    · refine go_blk h.1 (is := [.iload_n 3, .bipush 60]) (pc' := 24) (ls' := [some (.inr (.inr (0, 0))), some (.inl x1), some (.inl x2), some (.inl x3)]) (st' := [.inl (60 : Int32), .inl x3]) (m' := m15) (by decide +kernel) rfl ?_
      refine go_icmple h.1 (off := 6) 30 (by decide +kernel) (by decide) (fun c24 => ?_) (fun c24 => ?_)
      · refine go_blk h.1 (is := [.iload_n 3]) (pc' := 31) (ls' := [some (.inr (.inr (0, 0))), some (.inl x1), some (.inl x2), some (.inl x3)]) (st' := [.inl x3]) (m' := m15) (by decide +kernel) rfl ?_
        refine go_ifge h.1 (off := 9) 40 (by decide +kernel) (by decide) (fun c31 => ?_) (fun c31 => ?_)
        · refine go_blk h.1 (is := [.aload_n 0, .getfield 13, .iload_n 1]) (pc' := 45) (ls' := [some (.inr (.inr (0, 0))), some (.inl x1), some (.inl x2), some (.inl x3)]) (st' := [.inl x1, .inr (.inr (1, 0))]) (m' := m15) (by decide +kernel) rfl ?_
          refine go_aald h.1 (kd := 0) (z := (2, (ix x1))) (by decide +kernel) rfl rfl (by decide) rfl (fun b45 => ?_)
          refine go_blk h.1 (is := [.iload_n 2, .iload_n 3]) (pc' := 48) (ls' := [some (.inr (.inr (0, 0))), some (.inl x1), some (.inl x2), some (.inl x3)]) (st' := [.inl x3, .inl x2, .inr (.inr (2, (ix x1)))]) (m' := m15) (by decide +kernel) rfl ?_
          refine go_callV h.1 (index := 192) (n := 2) (t := 2) (i := (ix x1)) (ci := 4) (nf := 4) (cz := (RX4, TX4, 4)) (as := [.inl x2, .inl x3]) (rest := []) (ctr_X4_begin (xZ X) (ix x1) x2 x3 m15) (by decide +kernel) rfl rfl wd_v_X6_192 rfl (h.room (by first | decide | omega) (by decide)) h.cl (Nat.le_of_ble_eq_true rfl) puV_ok rfl (fun r48 m48 _ => ?_)
          show Go X (Em X puI) 51 [some (.inr (.inr (0, 0))), some (.inl x1), some (.inl x2), some (.inl x3)] [] m48 _
          refine go_blk h.1 (is := [.iconst 1]) (pc' := 52) (ls' := [some (.inr (.inr (0, 0))), some (.inl x1), some (.inl x2), some (.inl x3)]) (st' := [.inl (1 : Int32)]) (m' := m48) (by decide +kernel) rfl ?_
          exact go_iret h.1 h.2.2.2.2 (by decide +kernel)
        · refine go_blk h.1 (is := [.aload_n 0, .iconst 4]) (pc' := 36) (ls' := [some (.inr (.inr (0, 0))), some (.inl x1), some (.inl x2), some (.inl x3)]) (st' := [.inl (4 : Int32), .inr (.inr (0, 0))]) (m' := m15) (by decide +kernel) rfl ?_
          refine go_callV h.1 (index := 64) (n := 1) (t := 0) (i := 0) (ci := 6) (nf := 7) (cz := (RX6, TX6, 7)) (as := [.inl (4 : Int32)]) (rest := []) (ctr_X6_faulty (xZ X) (4 : Int32) m15) (by decide +kernel) rfl rfl wd_v_X6_64 rfl (h.room (by first | decide | omega) (by decide)) h.cl (Nat.le_of_ble_eq_true rfl) puI_ok rfl (fun r36 m36 _ => ?_)
          show Go X (Em X puI) 39 [some (.inr (.inr (0, 0))), some (.inl x1), some (.inl x2), some (.inl x3)] [.inl r36] m36 _
          exact go_iret h.1 h.2.2.2.2 (by decide +kernel)
      · refine go_blk h.1 (is := [.bipush (-2)]) (pc' := 29) (ls' := [some (.inr (.inr (0, 0))), some (.inl x1), some (.inl x2), some (.inl x3)]) (st' := [.inl (-2 : Int32)]) (m' := m15) (by decide +kernel) rfl ?_
        exact go_iret h.1 h.2.2.2.2 (by decide +kernel)
  · refine go_blk h.1 (is := [.iconst (-1)]) (pc' := 13) (ls' := [some (.inr (.inr (0, 0))), some (.inl x1), some (.inl x2), some (.inl x3)]) (st' := [.inl (-1 : Int32)]) (m' := m6) (by decide +kernel) rfl ?_
    exact go_iret h.1 h.2.2.2.2 (by decide +kernel)
theorem ctr_X6_sheet (Z : ZT) (x1 : Int32) (x2 : Int32) (x3 : Int32) (m : Mem) : Ctr Z yX6_sheet prog_1_method_19_code 4 (some .int) 2 puI [.inr (.inr (0, 0)), .inl x1, .inl x2, .inl x3] m (f_X6_sheet x1 x2 x3 m) :=
  ctr_of (P := P_X6) (by decide +kernel) rfl pt_X6 rfl rfl (fun X hC hZ hR h0 h1 hr => by subst hZ; exact g_X6_sheet ⟨hC, hR, h0, h1, hr⟩ x1 x2 x3 m)

def f_X4_cut (w : Nat) (x1 : Int32) (m : Mem) : Option (Int32 × Mem) :=
  if (m 2 w 2) = (0 : Int32) then
    some (x1.toInt8.toInt32, m)
  else
    if (m 2 w 2) = (1 : Int32) then
      some (x1.toInt16.toInt32, m)
    else
      some (x1, m)
theorem g_X4_cut {X : XT} (h : MX X prog_6_method_7_code P_X4 0 (some .int)) (w : Nat) (x1 : Int32) (m : Mem) : Go X (Em X puI) 0 [some (.inr (.inr (2, w))), some (.inl x1)] [] m (f_X4_cut w x1 m) := by
  unfold f_X4_cut
  refine go_blk h.1 (is := [.aload_n 0, .getfield 19]) (pc' := 4) (ls' := [some (.inr (.inr (2, w))), some (.inl x1)]) (st' := [.inl (m 2 w 2)]) (m' := m) (by decide +kernel) rfl ?_
  refine go_ite (fun w4_0 => ?_) (fun w4_0 => ?_)
  · refine go_lsIn h.1 (dflt := 34) (ps := #[(0, 28), (1, 31)]) (len := 28) (off := 28) (0 : Int32) 32 w4_0 (by decide +kernel) (by decide) rfl (by decide) ?_
    refine go_blk h.1 (is := [.iload_n 1, .i2b]) (pc' := 34) (ls' := [some (.inr (.inr (2, w))), some (.inl x1)]) (st' := [.inl x1.toInt8.toInt32]) (m' := m) (by decide +kernel) rfl ?_
    exact go_iret h.1 h.2.2.2.2 (by decide +kernel)
  · refine go_ite (fun w4_1 => ?_) (fun w4_1 => ?_)
    · refine go_lsIn h.1 (dflt := 34) (ps := #[(0, 28), (1, 31)]) (len := 28) (off := 31) (1 : Int32) 35 w4_1 (by decide +kernel) (by decide) rfl (by decide) ?_
      refine go_blk h.1 (is := [.iload_n 1, .i2s]) (pc' := 37) (ls' := [some (.inr (.inr (2, w))), some (.inl x1)]) (st' := [.inl x1.toInt16.toInt32]) (m' := m) (by decide +kernel) rfl ?_
      exact go_iret h.1 h.2.2.2.2 (by decide +kernel)
    · refine go_ls h.1 (dflt := 34) (ps := #[(0, 28), (1, 31)]) (len := 28) 38 (off := 34) (by decide +kernel) (by decide) (by simp only [Op.lookupswitch.offset]; rw [if_neg (fun q => toInt_ne w4_0 q.symm)]; rw [if_neg (fun q => toInt_ne w4_1 q.symm)]) (by decide) ?_
      refine go_blk h.1 (is := [.iload_n 1]) (pc' := 39) (ls' := [some (.inr (.inr (2, w))), some (.inl x1)]) (st' := [.inl x1]) (m' := m) (by decide +kernel) rfl ?_
      exact go_iret h.1 h.2.2.2.2 (by decide +kernel)
theorem ctr_X4_cut (Z : ZT) (w : Nat) (x1 : Int32) (m : Mem) : Ctr Z yX4_cut prog_6_method_7_code 2 (some .int) 0 puI [.inr (.inr (2, w)), .inl x1] m (f_X4_cut w x1 m) :=
  ctr_of (P := P_X4) (by decide +kernel) rfl pt_X4 rfl rfl (fun X hC hZ hR h0 h1 hr => by subst hZ; exact g_X4_cut ⟨hC, hR, h0, h1, hr⟩ w x1 m)

def f_X4_set (w : Nat) (x1 : Int32) (x2 : Int32) (m : Mem) : Option (Unit × Mem) :=
  bnd (f_X4_holds w x1 (1 : Int32) m) (fun r3 m3 =>
    if r3 = 0 then
      some ((), m3)
    else
      bnd (f_X4_cut w x2 m3) (fun r16 m16 =>
        if inB x1 60 = true then
          some ((), (mset m16 3 w (ix x1) r16))
        else none))
theorem g_X4_set {X : XT} (h : MX X prog_6_method_6_code P_X4 1 none) (w : Nat) (x1 : Int32) (x2 : Int32) (m : Mem) : Go X (Em X puV) 0 [some (.inr (.inr (2, w))), some (.inl x1), some (.inl x2)] [] m (f_X4_set w x1 x2 m) := by
  unfold f_X4_set
  refine go_blk h.1 (is := [.aload_n 0, .iload_n 1, .iconst 1]) (pc' := 3) (ls' := [some (.inr (.inr (2, w))), some (.inl x1), some (.inl x2)]) (st' := [.inl (1 : Int32), .inl x1, .inr (.inr (2, w))]) (m' := m) (by decide +kernel) rfl ?_
  refine go_callV h.1 (index := 41) (n := 2) (t := 2) (i := w) (ci := 4) (nf := 4) (cz := (RX4, TX4, 4)) (as := [.inl x1, .inl (1 : Int32)]) (rest := []) (ctr_X4_holds (xZ X) w x1 (1 : Int32) m) (by decide +kernel) rfl rfl wd_v_X4_41 rfl (h.room (by first | decide | omega) (by decide)) h.cl (Nat.le_of_ble_eq_true rfl) puI_ok rfl (fun r3 m3 _ => ?_)
  show Go X (Em X puV) 6 [some (.inr (.inr (2, w))), some (.inl x1), some (.inl x2)] [.inl r3] m3 _
  refine go_ifeq h.1 (off := 14) 20 (by decide +kernel) (by decide) (fun c6 => ?_) (fun c6 => ?_)
  · exact go_vret h.1 h.2.2.2.2 (by decide +kernel)
  · refine go_blk h.1 (is := [.aload_n 0, .getfield 9, .iload_n 1, .aload_n 0, .iload_n 2]) (pc' := 16) (ls' := [some (.inr (.inr (2, w))), some (.inl x1), some (.inl x2)]) (st' := [.inl x2, .inr (.inr (2, w)), .inl x1, .inr (.inr (3, w))]) (m' := m3) (by decide +kernel) rfl ?_
    refine go_callV h.1 (index := 45) (n := 1) (t := 2) (i := w) (ci := 4) (nf := 4) (cz := (RX4, TX4, 4)) (as := [.inl x2]) (rest := [.inl x1, .inr (.inr (3, w))]) (ctr_X4_cut (xZ X) w x2 m3) (by decide +kernel) rfl rfl wd_v_X4_45 rfl (h.room (by first | decide | omega) (by decide)) h.cl (Nat.le_of_ble_eq_true rfl) puI_ok rfl (fun r16 m16 _ => ?_)
    show Go X (Em X puV) 19 [some (.inr (.inr (2, w))), some (.inl x1), some (.inl x2)] [.inl r16, .inl x1, .inr (.inr (3, w))] m16 _
    refine go_iast h.1 (by decide +kernel) rfl rfl (fun b19 => ?_)
    exact go_vret h.1 h.2.2.2.2 (by decide +kernel)
theorem ctr_X4_set (Z : ZT) (w : Nat) (x1 : Int32) (x2 : Int32) (m : Mem) : Ctr Z yX4_set prog_6_method_6_code 3 none 1 puV [.inr (.inr (2, w)), .inl x1, .inl x2] m (f_X4_set w x1 x2 m) :=
  ctr_of (P := P_X4) (by decide +kernel) rfl pt_X4 rfl rfl (fun X hC hZ hR h0 h1 hr => by subst hZ; exact g_X4_set ⟨hC, hR, h0, h1, hr⟩ w x1 x2 m)

def f_X6_put (x1 : Int32) (x2 : Int32) (x3 : Int32) (m : Mem) : Option (Int32 × Mem) :=
  bnd (f_X6_isSheet x1 (mset m 0 0 6 (0 : Int32))) (fun r6 m6 =>
    if r6 = 0 then
      some ((-1 : Int32), m6)
    else
      if inB x1 4 = true then
        if (m6 2 (ix x1) 1) = 0 then
          bnd (f_X6_faulty (1 : Int32) m6) (fun r28 m28 =>
            some (r28, m28))
        else
          if inB x1 4 = true then
            bnd (f_X4_holds (ix x1) x2 (1 : Int32) m6) (fun r40 m40 =>
              if r40 = 0 then
                bnd (f_X6_faulty (3 : Int32) m40) (fun r48 m48 =>
                  some (r48, m48))
              else
                if inB x1 4 = true then
                  bnd (f_X4_set (ix x1) x2 x3 m40) (fun _ m60 =>
                    some ((1 : Int32), m60))
                else none)
          else none
      else none)
theorem g_X6_put {X : XT} (h : MX X prog_1_method_21_code P_X6 2 (some .int)) (x1 : Int32) (x2 : Int32) (x3 : Int32) (m : Mem) : Go X (Em X puI) 0 [some (.inr (.inr (0, 0))), some (.inl x1), some (.inl x2), some (.inl x3)] [] m (f_X6_put x1 x2 x3 m) := by
  unfold f_X6_put
  refine go_blk h.1 (is := [.aload_n 0, .iconst 0, .putfield 50, .iload_n 1]) (pc' := 6) (ls' := [some (.inr (.inr (0, 0))), some (.inl x1), some (.inl x2), some (.inl x3)]) (st' := [.inl x1]) (m' := (mset m 0 0 6 (0 : Int32))) (by decide +kernel) rfl ?_
  refine go_callS h.1 (index := 53) (n := 1) (as := [.inl x1]) (rest := []) (ctr_X6_isSheet (xZ X) x1 (mset m 0 0 6 (0 : Int32))) (by decide +kernel) wd_s_X6_53 rfl (h.room (by first | decide | omega) (by decide)) h.cl (Nat.le_of_ble_eq_true rfl) puI_ok rfl (fun r6 m6 _ => ?_)
  show Go X (Em X puI) 9 [some (.inr (.inr (0, 0))), some (.inl x1), some (.inl x2), some (.inl x3)] [.inl r6] m6 _
  refine go_ifne h.1 (off := 5) 14 (by decide +kernel) (by decide) (fun c9 => ?_) (fun c9 => ?_)
  · refine go_blk h.1 (is := [.aload_n 0, .getfield 13, .iload_n 1]) (pc' := 19) (ls' := [some (.inr (.inr (0, 0))), some (.inl x1), some (.inl x2), some (.inl x3)]) (st' := [.inl x1, .inr (.inr (1, 0))]) (m' := m6) (by decide +kernel) rfl ?_
    refine go_aald h.1 (kd := 0) (z := (2, (ix x1))) (by decide +kernel) rfl rfl (by decide) rfl (fun b19 => ?_)
    refine go_blk h.1 (is := [.getfield 196]) (pc' := 23) (ls' := [some (.inr (.inr (0, 0))), some (.inl x1), some (.inl x2), some (.inl x3)]) (st' := [.inl (m6 2 (ix x1) 1)]) (m' := m6) (by decide +kernel) rfl ?_
    refine go_ifne h.1 (off := 9) 32 (by decide +kernel) (by decide) (fun c23 => ?_) (fun c23 => ?_)
    · refine go_blk h.1 (is := [.aload_n 0, .getfield 13, .iload_n 1]) (pc' := 37) (ls' := [some (.inr (.inr (0, 0))), some (.inl x1), some (.inl x2), some (.inl x3)]) (st' := [.inl x1, .inr (.inr (1, 0))]) (m' := m6) (by decide +kernel) rfl ?_
      refine go_aald h.1 (kd := 0) (z := (2, (ix x1))) (by decide +kernel) rfl rfl (by decide) rfl (fun b37 => ?_)
      refine go_blk h.1 (is := [.iload_n 2, .iconst 1]) (pc' := 40) (ls' := [some (.inr (.inr (0, 0))), some (.inl x1), some (.inl x2), some (.inl x3)]) (st' := [.inl (1 : Int32), .inl x2, .inr (.inr (2, (ix x1)))]) (m' := m6) (by decide +kernel) rfl ?_
      refine go_callV h.1 (index := 200) (n := 2) (t := 2) (i := (ix x1)) (ci := 4) (nf := 4) (cz := (RX4, TX4, 4)) (as := [.inl x2, .inl (1 : Int32)]) (rest := []) (ctr_X4_holds (xZ X) (ix x1) x2 (1 : Int32) m6) (by decide +kernel) rfl rfl wd_v_X6_200 rfl (h.room (by first | decide | omega) (by decide)) h.cl (Nat.le_of_ble_eq_true rfl) puI_ok rfl (fun r40 m40 _ => ?_)
      show Go X (Em X puI) 43 [some (.inr (.inr (0, 0))), some (.inl x1), some (.inl x2), some (.inl x3)] [.inl r40] m40 _
      refine go_ifne h.1 (off := 9) 52 (by decide +kernel) (by decide) (fun c43 => ?_) (fun c43 => ?_)
      · refine go_blk h.1 (is := [.aload_n 0, .getfield 13, .iload_n 1]) (pc' := 57) (ls' := [some (.inr (.inr (0, 0))), some (.inl x1), some (.inl x2), some (.inl x3)]) (st' := [.inl x1, .inr (.inr (1, 0))]) (m' := m40) (by decide +kernel) rfl ?_
        refine go_aald h.1 (kd := 0) (z := (2, (ix x1))) (by decide +kernel) rfl rfl (by decide) rfl (fun b57 => ?_)
        refine go_blk h.1 (is := [.iload_n 2, .iload_n 3]) (pc' := 60) (ls' := [some (.inr (.inr (0, 0))), some (.inl x1), some (.inl x2), some (.inl x3)]) (st' := [.inl x3, .inl x2, .inr (.inr (2, (ix x1)))]) (m' := m40) (by decide +kernel) rfl ?_
        refine go_callV h.1 (index := 204) (n := 2) (t := 2) (i := (ix x1)) (ci := 4) (nf := 4) (cz := (RX4, TX4, 4)) (as := [.inl x2, .inl x3]) (rest := []) (ctr_X4_set (xZ X) (ix x1) x2 x3 m40) (by decide +kernel) rfl rfl wd_v_X6_204 rfl (h.room (by first | decide | omega) (by decide)) h.cl (Nat.le_of_ble_eq_true rfl) puV_ok rfl (fun r60 m60 _ => ?_)
        show Go X (Em X puI) 63 [some (.inr (.inr (0, 0))), some (.inl x1), some (.inl x2), some (.inl x3)] [] m60 _
        refine go_blk h.1 (is := [.iconst 1]) (pc' := 64) (ls' := [some (.inr (.inr (0, 0))), some (.inl x1), some (.inl x2), some (.inl x3)]) (st' := [.inl (1 : Int32)]) (m' := m60) (by decide +kernel) rfl ?_
        exact go_iret h.1 h.2.2.2.2 (by decide +kernel)
      · refine go_blk h.1 (is := [.aload_n 0, .iconst 3]) (pc' := 48) (ls' := [some (.inr (.inr (0, 0))), some (.inl x1), some (.inl x2), some (.inl x3)]) (st' := [.inl (3 : Int32), .inr (.inr (0, 0))]) (m' := m40) (by decide +kernel) rfl ?_
        refine go_callV h.1 (index := 64) (n := 1) (t := 0) (i := 0) (ci := 6) (nf := 7) (cz := (RX6, TX6, 7)) (as := [.inl (3 : Int32)]) (rest := []) (ctr_X6_faulty (xZ X) (3 : Int32) m40) (by decide +kernel) rfl rfl wd_v_X6_64 rfl (h.room (by first | decide | omega) (by decide)) h.cl (Nat.le_of_ble_eq_true rfl) puI_ok rfl (fun r48 m48 _ => ?_)
        show Go X (Em X puI) 51 [some (.inr (.inr (0, 0))), some (.inl x1), some (.inl x2), some (.inl x3)] [.inl r48] m48 _
        exact go_iret h.1 h.2.2.2.2 (by decide +kernel)
    · refine go_blk h.1 (is := [.aload_n 0, .iconst 1]) (pc' := 28) (ls' := [some (.inr (.inr (0, 0))), some (.inl x1), some (.inl x2), some (.inl x3)]) (st' := [.inl (1 : Int32), .inr (.inr (0, 0))]) (m' := m6) (by decide +kernel) rfl ?_
      refine go_callV h.1 (index := 64) (n := 1) (t := 0) (i := 0) (ci := 6) (nf := 7) (cz := (RX6, TX6, 7)) (as := [.inl (1 : Int32)]) (rest := []) (ctr_X6_faulty (xZ X) (1 : Int32) m6) (by decide +kernel) rfl rfl wd_v_X6_64 rfl (h.room (by first | decide | omega) (by decide)) h.cl (Nat.le_of_ble_eq_true rfl) puI_ok rfl (fun r28 m28 _ => ?_)
      show Go X (Em X puI) 31 [some (.inr (.inr (0, 0))), some (.inl x1), some (.inl x2), some (.inl x3)] [.inl r28] m28 _
      exact go_iret h.1 h.2.2.2.2 (by decide +kernel)
  · refine go_blk h.1 (is := [.iconst (-1)]) (pc' := 13) (ls' := [some (.inr (.inr (0, 0))), some (.inl x1), some (.inl x2), some (.inl x3)]) (st' := [.inl (-1 : Int32)]) (m' := m6) (by decide +kernel) rfl ?_
    exact go_iret h.1 h.2.2.2.2 (by decide +kernel)
theorem ctr_X6_put (Z : ZT) (x1 : Int32) (x2 : Int32) (x3 : Int32) (m : Mem) : Ctr Z yX6_put prog_1_method_21_code 4 (some .int) 2 puI [.inr (.inr (0, 0)), .inl x1, .inl x2, .inl x3] m (f_X6_put x1 x2 x3 m) :=
  ctr_of (P := P_X6) (by decide +kernel) rfl pt_X6 rfl rfl (fun X hC hZ hR h0 h1 hr => by subst hZ; exact g_X6_put ⟨hC, hR, h0, h1, hr⟩ x1 x2 x3 m)

def f_X6_many (x1 : Int32) (m : Mem) : Option (Int32 × Mem) :=
  if x1 = (0 : Int32) then
    some ((m 4 0 1), m)
  else
    if x1 = (1 : Int32) then
      some ((m 4 0 2), m)
    else
      if x1 = (2 : Int32) then
        some ((m 4 0 3), m)
      else
        if x1 = (3 : Int32) then
          some ((m 20 0 2), m)
        else
          some ((-2 : Int32), m)
theorem g_X6_many {X : XT} (h : MX X prog_1_method_29_code P_X6 0 (some .int)) (x1 : Int32) (m : Mem) : Go X (Em X puI) 0 [some (.inr (.inr (0, 0))), some (.inl x1)] [] m (f_X6_many x1 m) := by
  unfold f_X6_many
  refine go_blk h.1 (is := [.iload_n 1]) (pc' := 1) (ls' := [some (.inr (.inr (0, 0))), some (.inl x1)]) (st' := [.inl x1]) (m' := m) (by decide +kernel) rfl ?_
  refine go_ite (fun w1_0 => ?_) (fun w1_0 => ?_)
  · refine go_tsIn h.1 (dflt := 63) (lo := 0) (hi := 3) (offs := #[31, 39, 47, 55]) (len := 31) (off := 31) (0 : Int32) 32 w1_0 (by decide +kernel) (by decide) rfl (by decide) ?_
    refine go_blk h.1 (is := [.aload_n 0, .getfield 21, .getfield 82]) (pc' := 39) (ls' := [some (.inr (.inr (0, 0))), some (.inl x1)]) (st' := [.inl (m 4 0 1)]) (m' := m) (by decide +kernel) rfl ?_
    exact go_iret h.1 h.2.2.2.2 (by decide +kernel)
  · refine go_ite (fun w1_1 => ?_) (fun w1_1 => ?_)
    · refine go_tsIn h.1 (dflt := 63) (lo := 0) (hi := 3) (offs := #[31, 39, 47, 55]) (len := 31) (off := 39) (1 : Int32) 40 w1_1 (by decide +kernel) (by decide) rfl (by decide) ?_
      refine go_blk h.1 (is := [.aload_n 0, .getfield 21, .getfield 115]) (pc' := 47) (ls' := [some (.inr (.inr (0, 0))), some (.inl x1)]) (st' := [.inl (m 4 0 2)]) (m' := m) (by decide +kernel) rfl ?_
      exact go_iret h.1 h.2.2.2.2 (by decide +kernel)
    · refine go_ite (fun w1_2 => ?_) (fun w1_2 => ?_)
      · refine go_tsIn h.1 (dflt := 63) (lo := 0) (hi := 3) (offs := #[31, 39, 47, 55]) (len := 31) (off := 47) (2 : Int32) 48 w1_2 (by decide +kernel) (by decide) rfl (by decide) ?_
        refine go_blk h.1 (is := [.aload_n 0, .getfield 21, .getfield 118]) (pc' := 55) (ls' := [some (.inr (.inr (0, 0))), some (.inl x1)]) (st' := [.inl (m 4 0 3)]) (m' := m) (by decide +kernel) rfl ?_
        exact go_iret h.1 h.2.2.2.2 (by decide +kernel)
      · refine go_ite (fun w1_3 => ?_) (fun w1_3 => ?_)
        · refine go_tsIn h.1 (dflt := 63) (lo := 0) (hi := 3) (offs := #[31, 39, 47, 55]) (len := 31) (off := 55) (3 : Int32) 56 w1_3 (by decide +kernel) (by decide) rfl (by decide) ?_
          refine go_blk h.1 (is := [.aload_n 0, .getfield 42, .getfield 76]) (pc' := 63) (ls' := [some (.inr (.inr (0, 0))), some (.inl x1)]) (st' := [.inl (m 20 0 2)]) (m' := m) (by decide +kernel) rfl ?_
          exact go_iret h.1 h.2.2.2.2 (by decide +kernel)
        · refine go_tsOut h.1 (dflt := 63) (lo := 0) (hi := 3) (offs := #[31, 39, 47, 55]) (len := 31) 64 (by decide +kernel) (sw_out (n := 4) (by decide) ((lt_s (lt_s (lt_s (lt_s lt_0 w1_0) w1_1) w1_2) w1_3) : ∀ j : Nat, j < 4 → ¬ x1 = Int32.ofInt (0 + (j : Int)))) (by decide) ?_
          refine go_blk h.1 (is := [.bipush (-2)]) (pc' := 66) (ls' := [some (.inr (.inr (0, 0))), some (.inl x1)]) (st' := [.inl (-2 : Int32)]) (m' := m) (by decide +kernel) rfl ?_
          exact go_iret h.1 h.2.2.2.2 (by decide +kernel)
theorem ctr_X6_many (Z : ZT) (x1 : Int32) (m : Mem) : Ctr Z yX6_many prog_1_method_29_code 2 (some .int) 0 puI [.inr (.inr (0, 0)), .inl x1] m (f_X6_many x1 m) :=
  ctr_of (P := P_X6) (by decide +kernel) rfl pt_X6 rfl rfl (fun X hC hZ hR h0 h1 hr => by subst hZ; exact g_X6_many ⟨hC, hR, h0, h1, hr⟩ x1 m)

