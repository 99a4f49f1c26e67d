/-! ===== printed by wip/whole/tr.py out of the listing ===== -/
def f_X6_walkAsTold (x1 : Int32) (x2 : Int32) (x3 : Int32) (m : Mem) : Option (Int32 × Mem) :=
  bnd (f_X0_start 0 m) (fun _ m8 =>
    if inB x1 4 = true then
      bnd (f_X0_walk 0 (ix x1) x2 x3 m8) (fun r23 m23 =>
        some (r23, m23))
    else none)
theorem g_X6_walkAsTold {X : XT} (h : MX X prog_1_method_40_code P_X6 5 (some .int)) (x1 : Int32) (x2 : Int32) (x3 : Int32) (m : Mem) : Go X (Em X puI) 0 [some (.inr (.inr (0, 0))), some (.inl x1), some (.inl x2), some (.inl x3)] [] m (f_X6_walkAsTold x1 x2 x3 m) := by
  unfold f_X6_walkAsTold
  refine go_blk h.1 (is := [.aload_n 0, .getfield 28, .aload_n 0, .getfield 21]) (pc' := 8) (ls' := [some (.inr (.inr (0, 0))), some (.inl x1), some (.inl x2), some (.inl x3)]) (st' := [.inr (.inr (4, 0)), .inr (.inr (7, 0))]) (m' := m) (by decide +kernel) rfl ?_
  refine go_callV h.1 (index := 170) (n := 1) (t := 7) (i := 0) (ci := 0) (nf := 14) (cz := (RX0, TX0, 14)) (as := [.inr (.inr (4, 0))]) (rest := []) (ctr_X0_start (xl X) (xA X) (xC X) (xI X) (xk X) 0 m) (by decide +kernel) rfl rfl wd_v_X6_170 rfl (h.room (by first | decide | omega) (by decide)) h.cl (Nat.le_of_ble_eq_true rfl) puV_ok rfl (fun r8 m8 _ => ?_)
  show Go X (Em X puI) 11 [some (.inr (.inr (0, 0))), some (.inl x1), some (.inl x2), some (.inl x3)] [] m8 _
  refine go_blk h.1 (is := [.aload_n 0, .getfield 28, .aload_n 0, .getfield 13, .iload_n 1]) (pc' := 20) (ls' := [some (.inr (.inr (0, 0))), some (.inl x1), some (.inl x2), some (.inl x3)]) (st' := [.inl x1, .inr (.inr (1, 0)), .inr (.inr (7, 0))]) (m' := m8) (by decide +kernel) rfl ?_
  refine go_aald h.1 (kd := 0) (z := (2, (ix x1))) (by decide +kernel) rfl rfl (by decide) rfl (fun b20 => ?_)
  refine go_blk h.1 (is := [.iload_n 2, .iload_n 3]) (pc' := 23) (ls' := [some (.inr (.inr (0, 0))), some (.inl x1), some (.inl x2), some (.inl x3)]) (st' := [.inl x3, .inl x2, .inr (.inr (2, (ix x1))), .inr (.inr (7, 0))]) (m' := m8) (by decide +kernel) rfl ?_
  refine go_callV h.1 (index := 174) (n := 3) (t := 7) (i := 0) (ci := 0) (nf := 14) (cz := (RX0, TX0, 14)) (as := [.inr (.inr (2, (ix x1))), .inl x2, .inl x3]) (rest := []) (ctr_X0_walk (xl X) (xA X) (xC X) (xI X) (xk X) 0 (ix x1) x2 x3 m8) (by decide +kernel) rfl rfl wd_v_X6_174 rfl (h.room (by first | decide | omega) (by decide)) h.cl (Nat.le_of_ble_eq_true rfl) puI_ok rfl (fun r23 m23 _ => ?_)
  show Go X (Em X puI) 26 [some (.inr (.inr (0, 0))), some (.inl x1), some (.inl x2), some (.inl x3)] [.inl r23] m23 _
  exact go_iret h.1 h.2.2.2.2 (by decide +kernel)
theorem ctr_X6_walkAsTold (l : Launch) (A : AR → Nat) (dC : Nat → ClassId) (dI : Nat → Nat → Nat) (cs : Nat → ClassId) (x1 : Int32) (x2 : Int32) (x3 : Int32) (m : Mem) : Ctr l A dC dI cs yX6_walkAsTold prog_1_method_40_code 4 (some .int) 5 puI [.inr (.inr (0, 0)), .inl x1, .inl x2, .inl x3] m (f_X6_walkAsTold x1 x2 x3 m) :=
  ctr_of (P := P_X6) (by decide +kernel) rfl pt_X6 rfl rfl (fun X hC _ _ _ _ _ hR h0 h1 hr => g_X6_walkAsTold ⟨hC, hR, h0, h1, hr⟩ x1 x2 x3 m)

def f_X6_passes_j27 (s0 : Int32) (x1 : Int32) (x2 : Int32) (x3 : Int32) (x4 : Int32) (x5 : Int32) (m : Mem) : Option (Int32 × Mem) :=
  bnd (f_X6_refusalOf x1 x2 x3 x4 s0 m) (fun r37 m37 =>
    if r37 = 0 then
      bnd (f_X6_walkAsTold x1 x3 x4 m37) (fun r55 m55 =>
        if x5 = (1 : Int32) then
          some (r55, m55)
        else
          if r55 = (-9 : Int32) then
            if x5 = (0 : Int32) then
              some ((m55 7 0 13), m55)
            else
              if x5 = (1 : Int32) then
                bnd (f_X5_has (x5 - (10 : Int32)) m55) (fun r161 m161 =>
                  if r161 = 0 then
                    some ((-9 : Int32), m161)
                  else
                    if inB (x5 - (10 : Int32)) 5 = true then
                      some ((m161 10 0 (ix (x5 - (10 : Int32)))), m161)
                    else none)
              else
                if x5 = (2 : Int32) then
                  some ((m55 7 0 10), m55)
                else
                  if x5 = (3 : Int32) then
                    some ((m55 7 0 11), m55)
                  else
                    if x5 = (4 : Int32) then
                      some ((m55 7 0 12), m55)
                    else
                      bnd (f_X5_has (x5 - (10 : Int32)) m55) (fun r161 m161 =>
                        if r161 = 0 then
                          some ((-9 : Int32), m161)
                        else
                          if inB (x5 - (10 : Int32)) 5 = true then
                            some ((m161 10 0 (ix (x5 - (10 : Int32)))), m161)
                          else none)
          else
            some (((-100 : Int32) - r55), m55))
    else
      some (r37, m37))
theorem g_X6_passes_j27 {X : XT} (h : MX X prog_1_method_7_code P_X6 6 (some .int)) (s0 : Int32) (x1 : Int32) (x2 : Int32) (x3 : Int32) (x4 : Int32) (x5 : Int32) (m : Mem) (o6 : Option AV) (o7 : Option AV) (o8 : Option AV) : Go X (Em X puI) 27 [some (.inr (.inr (0, 0))), some (.inl x1), some (.inl x2), some (.inl x3), some (.inl x4), some (.inl x5), o6, o7, o8] [.inl s0] m (f_X6_passes_j27 s0 x1 x2 x3 x4 x5 m) := by
  unfold f_X6_passes_j27
  refine go_blk h.1 (is := [.istore 6, .aload_n 0, .iload_n 1, .iload_n 2, .iload_n 3, .iload 4, .iload 6]) (pc' := 37) (ls' := [some (.inr (.inr (0, 0))), some (.inl x1), some (.inl x2), some (.inl x3), some (.inl x4), some (.inl x5), some (.inl s0), o7, o8]) (st' := [.inl s0, .inl x4, .inl x3, .inl x2, .inl x1, .inr (.inr (0, 0))]) (m' := m) (by decide +kernel) rfl ?_
  refine go_callV h.1 (index := 121) (n := 5) (t := 0) (i := 0) (ci := 6) (nf := 7) (cz := (RX6, TX6, 7)) (as := [.inl x1, .inl x2, .inl x3, .inl x4, .inl s0]) (rest := []) (ctr_X6_refusalOf (xl X) (xA X) (xC X) (xI X) (xk X) x1 x2 x3 x4 s0 m) (by decide +kernel) rfl rfl wd_v_X6_121 rfl (h.room (by first | decide | omega) (by decide)) h.cl (Nat.le_of_ble_eq_true rfl) puI_ok rfl (fun r37 m37 _ => ?_)
  show Go X (Em X puI) 40 [some (.inr (.inr (0, 0))), some (.inl x1), some (.inl x2), some (.inl x3), some (.inl x4), some (.inl x5), some (.inl s0), o7, o8] [.inl r37] m37 _
  refine go_blk h.1 (is := [.istore 7, .iload 7]) (pc' := 44) (ls' := [some (.inr (.inr (0, 0))), some (.inl x1), some (.inl x2), some (.inl x3), some (.inl x4), some (.inl x5), some (.inl s0), some (.inl r37), o8]) (st' := [.inl r37]) (m' := m37) (by decide +kernel) rfl ?_
  refine go_ifeq h.1 (off := 6) 50 (by decide +kernel) (by decide) (fun c44 => ?_) (fun c44 => ?_)
  · refine go_blk h.1 (is := [.aload_n 0, .iload_n 1, .iload_n 3, .iload 4]) (pc' := 55) (ls' := [some (.inr (.inr (0, 0))), some (.inl x1), some (.inl x2), some (.inl x3), some (.inl x4), some (.inl x5), some (.inl s0), some (.inl r37), o8]) (st' := [.inl x4, .inl x3, .inl x1, .inr (.inr (0, 0))]) (m' := m37) (by decide +kernel) rfl ?_
    refine go_callV h.1 (index := 125) (n := 3) (t := 0) (i := 0) (ci := 6) (nf := 7) (cz := (RX6, TX6, 7)) (as := [.inl x1, .inl x3, .inl x4]) (rest := []) (ctr_X6_walkAsTold (xl X) (xA X) (xC X) (xI X) (xk X) x1 x3 x4 m37) (by decide +kernel) rfl rfl wd_v_X6_125 rfl (h.room (by first | decide | omega) (by decide)) h.cl (Nat.le_of_ble_eq_true rfl) puI_ok rfl (fun r55 m55 _ => ?_)
    show Go X (Em X puI) 58 [some (.inr (.inr (0, 0))), some (.inl x1), some (.inl x2), some (.inl x3), some (.inl x4), some (.inl x5), some (.inl s0), some (.inl r37), o8] [.inl r55] m55 _
    refine go_blk h.1 (is := [.istore 8, .iload 5, .iconst 1]) (pc' := 63) (ls' := [some (.inr (.inr (0, 0))), some (.inl x1), some (.inl x2), some (.inl x3), some (.inl x4), some (.inl x5), some (.inl s0), some (.inl r37), some (.inl r55)]) (st' := [.inl (1 : Int32), .inl x5]) (m' := m55) (by decide +kernel) rfl ?_
    refine go_icmpne h.1 (off := 6) 69 (by decide +kernel) (by decide) (fun c63 => ?_) (fun c63 => ?_)
    · refine go_blk h.1 (is := [.iload 8, .bipush (-9)]) (pc' := 73) (ls' := [some (.inr (.inr (0, 0))), some (.inl x1), some (.inl x2), some (.inl x3), some (.inl x4), some (.inl x5), some (.inl s0), some (.inl r37), some (.inl r55)]) (st' := [.inl (-9 : Int32), .inl r55]) (m' := m55) (by decide +kernel) rfl ?_
      refine go_icmpeq h.1 (off := 9) 82 (by decide +kernel) (by decide) (fun c73 => ?_) (fun c73 => ?_)
      · refine go_blk h.1 (is := [.iload 5]) (pc' := 84) (ls' := [some (.inr (.inr (0, 0))), some (.inl x1), some (.inl x2), some (.inl x3), some (.inl x4), some (.inl x5), some (.inl s0), some (.inl r37), some (.inl r55)]) (st' := [.inl x5]) (m' := m55) (by decide +kernel) rfl ?_
        refine go_ite (fun w84_0 => ?_) (fun w84_0 => ?_)
        · refine go_tsIn h.1 (dflt := 68) (lo := 0) (hi := 4) (offs := #[36, 68, 44, 52, 60]) (len := 36) (off := 36) (0 : Int32) 120 w84_0 (by decide +kernel) (by decide) rfl (by decide) ?_
          refine go_blk h.1 (is := [.aload_n 0, .getfield 28, .getfield 128]) (pc' := 127) (ls' := [some (.inr (.inr (0, 0))), some (.inl x1), some (.inl x2), some (.inl x3), some (.inl x4), some (.inl x5), some (.inl s0), some (.inl r37), some (.inl r55)]) (st' := [.inl (m55 7 0 13)]) (m' := m55) (by decide +kernel) rfl ?_
          exact go_iret h.1 h.2.2.2.2 (by decide +kernel)
        · refine go_ite (fun w84_1 => ?_) (fun w84_1 => ?_)
          · refine go_tsIn h.1 (dflt := 68) (lo := 0) (hi := 4) (offs := #[36, 68, 44, 52, 60]) (len := 36) (off := 68) (1 : Int32) 152 w84_1 (by decide +kernel) (by decide) rfl (by decide) ?_
            refine go_blk h.1 (is := [.aload_n 0, .getfield 21, .iload 5, .bipush 10, .isub]) (pc' := 161) (ls' := [some (.inr (.inr (0, 0))), some (.inl x1), some (.inl x2), some (.inl x3), some (.inl x4), some (.inl x5), some (.inl s0), some (.inl r37), some (.inl r55)]) (st' := [.inl (x5 - (10 : Int32)), .inr (.inr (4, 0))]) (m' := m55) (by decide +kernel) rfl ?_
            refine go_callV h.1 (index := 83) (n := 1) (t := 4) (i := 0) (ci := 5) (nf := 4) (cz := (RX5, TX5, 4)) (as := [.inl (x5 - (10 : Int32))]) (rest := []) (ctr_X5_has (xl X) (xA X) (xC X) (xI X) (xk X) (x5 - (10 : Int32)) m55) (by decide +kernel) rfl rfl wd_v_X6_83 rfl (h.room (by first | decide | omega) (by decide)) h.cl (Nat.le_of_ble_eq_true rfl) puI_ok rfl (fun r161 m161 _ => ?_)
            show Go X (Em X puI) 164 [some (.inr (.inr (0, 0))), some (.inl x1), some (.inl x2), some (.inl x3), some (.inl x4), some (.inl x5), some (.inl s0), some (.inl r37), some (.inl r55)] [.inl r161] m161 _
            refine go_ifeq h.1 (off := 19) 183 (by decide +kernel) (by decide) (fun c164 => ?_) (fun c164 => ?_)
            · refine go_blk h.1 (is := [.bipush (-9)]) (pc' := 185) (ls' := [some (.inr (.inr (0, 0))), some (.inl x1), some (.inl x2), some (.inl x3), some (.inl x4), some (.inl x5), some (.inl s0), some (.inl r37), some (.inl r55)]) (st' := [.inl (-9 : Int32)]) (m' := m161) (by decide +kernel) rfl ?_
              exact go_iret h.1 h.2.2.2.2 (by decide +kernel)
            · refine go_blk h.1 (is := [.aload_n 0, .getfield 28, .getfield 138, .iload 5, .bipush 10, .isub]) (pc' := 179) (ls' := [some (.inr (.inr (0, 0))), some (.inl x1), some (.inl x2), some (.inl x3), some (.inl x4), some (.inl x5), some (.inl s0), some (.inl r37), some (.inl r55)]) (st' := [.inl (x5 - (10 : Int32)), .inr (.inr (10, 0))]) (m' := m161) (by decide +kernel) rfl ?_
              refine go_iald h.1 (by decide +kernel) rfl rfl (fun b179 => ?_)
              show Go X (Em X puI) 180 [some (.inr (.inr (0, 0))), some (.inl x1), some (.inl x2), some (.inl x3), some (.inl x4), some (.inl x5), some (.inl s0), some (.inl r37), some (.inl r55)] [.inl (m161 10 0 (ix (x5 - (10 : Int32))))] m161 _
              refine go_goto h.1 (off := 5) 185 (by decide +kernel) (by decide) ?_
              exact go_iret h.1 h.2.2.2.2 (by decide +kernel)
          · refine go_ite (fun w84_2 => ?_) (fun w84_2 => ?_)
            · refine go_tsIn h.1 (dflt := 68) (lo := 0) (hi := 4) (offs := #[36, 68, 44, 52, 60]) (len := 36) (off := 44) (2 : Int32) 128 w84_2 (by decide +kernel) (by decide) rfl (by decide) ?_
              refine go_blk h.1 (is := [.aload_n 0, .getfield 28, .getfield 131]) (pc' := 135) (ls' := [some (.inr (.inr (0, 0))), some (.inl x1), some (.inl x2), some (.inl x3), some (.inl x4), some (.inl x5), some (.inl s0), some (.inl r37), some (.inl r55)]) (st' := [.inl (m55 7 0 10)]) (m' := m55) (by decide +kernel) rfl ?_
              exact go_iret h.1 h.2.2.2.2 (by decide +kernel)
            · refine go_ite (fun w84_3 => ?_) (fun w84_3 => ?_)
              · refine go_tsIn h.1 (dflt := 68) (lo := 0) (hi := 4) (offs := #[36, 68, 44, 52, 60]) (len := 36) (off := 52) (3 : Int32) 136 w84_3 (by decide +kernel) (by decide) rfl (by decide) ?_
                refine go_blk h.1 (is := [.aload_n 0, .getfield 28, .getfield 132]) (pc' := 143) (ls' := [some (.inr (.inr (0, 0))), some (.inl x1), some (.inl x2), some (.inl x3), some (.inl x4), some (.inl x5), some (.inl s0), some (.inl r37), some (.inl r55)]) (st' := [.inl (m55 7 0 11)]) (m' := m55) (by decide +kernel) rfl ?_
                exact go_iret h.1 h.2.2.2.2 (by decide +kernel)
              · refine go_ite (fun w84_4 => ?_) (fun w84_4 => ?_)
                · refine go_tsIn h.1 (dflt := 68) (lo := 0) (hi := 4) (offs := #[36, 68, 44, 52, 60]) (len := 36) (off := 60) (4 : Int32) 144 w84_4 (by decide +kernel) (by decide) rfl (by decide) ?_
                  refine go_blk h.1 (is := [.aload_n 0, .getfield 28, .getfield 135]) (pc' := 151) (ls' := [some (.inr (.inr (0, 0))), some (.inl x1), some (.inl x2), some (.inl x3), some (.inl x4), some (.inl x5), some (.inl s0), some (.inl r37), some (.inl r55)]) (st' := [.inl (m55 7 0 12)]) (m' := m55) (by decide +kernel) rfl ?_
                  exact go_iret h.1 h.2.2.2.2 (by decide +kernel)
                · refine go_tsOut h.1 (dflt := 68) (lo := 0) (hi := 4) (offs := #[36, 68, 44, 52, 60]) (len := 36) 152 (by decide +kernel) (sw_out (n := 5) (by decide) ((lt_s (lt_s (lt_s (lt_s (lt_s lt_0 w84_0) w84_1) w84_2) w84_3) w84_4) : ∀ j : Nat, j < 5 → ¬ x5 = Int32.ofInt (0 + (j : Int)))) (by decide) ?_
                  refine go_blk h.1 (is := [.aload_n 0, .getfield 21, .iload 5, .bipush 10, .isub]) (pc' := 161) (ls' := [some (.inr (.inr (0, 0))), some (.inl x1), some (.inl x2), some (.inl x3), some (.inl x4), some (.inl x5), some (.inl s0), some (.inl r37), some (.inl r55)]) (st' := [.inl (x5 - (10 : Int32)), .inr (.inr (4, 0))]) (m' := m55) (by decide +kernel) rfl ?_
                  refine go_callV h.1 (index := 83) (n := 1) (t := 4) (i := 0) (ci := 5) (nf := 4) (cz := (RX5, TX5, 4)) (as := [.inl (x5 - (10 : Int32))]) (rest := []) (ctr_X5_has (xl X) (xA X) (xC X) (xI X) (xk X) (x5 - (10 : Int32)) m55) (by decide +kernel) rfl rfl wd_v_X6_83 rfl (h.room (by first | decide | omega) (by decide)) h.cl (Nat.le_of_ble_eq_true rfl) puI_ok rfl (fun r161 m161 _ => ?_)
                  show Go X (Em X puI) 164 [some (.inr (.inr (0, 0))), some (.inl x1), some (.inl x2), some (.inl x3), some (.inl x4), some (.inl x5), some (.inl s0), some (.inl r37), some (.inl r55)] [.inl r161] m161 _
                  refine go_ifeq h.1 (off := 19) 183 (by decide +kernel) (by decide) (fun c164 => ?_) (fun c164 => ?_)
                  · refine go_blk h.1 (is := [.bipush (-9)]) (pc' := 185) (ls' := [some (.inr (.inr (0, 0))), some (.inl x1), some (.inl x2), some (.inl x3), some (.inl x4), some (.inl x5), some (.inl s0), some (.inl r37), some (.inl r55)]) (st' := [.inl (-9 : Int32)]) (m' := m161) (by decide +kernel) rfl ?_
                    exact go_iret h.1 h.2.2.2.2 (by decide +kernel)
                  · refine go_blk h.1 (is := [.aload_n 0, .getfield 28, .getfield 138, .iload 5, .bipush 10, .isub]) (pc' := 179) (ls' := [some (.inr (.inr (0, 0))), some (.inl x1), some (.inl x2), some (.inl x3), some (.inl x4), some (.inl x5), some (.inl s0), some (.inl r37), some (.inl r55)]) (st' := [.inl (x5 - (10 : Int32)), .inr (.inr (10, 0))]) (m' := m161) (by decide +kernel) rfl ?_
                    refine go_iald h.1 (by decide +kernel) rfl rfl (fun b179 => ?_)
                    show Go X (Em X puI) 180 [some (.inr (.inr (0, 0))), some (.inl x1), some (.inl x2), some (.inl x3), some (.inl x4), some (.inl x5), some (.inl s0), some (.inl r37), some (.inl r55)] [.inl (m161 10 0 (ix (x5 - (10 : Int32))))] m161 _
                    refine go_goto h.1 (off := 5) 185 (by decide +kernel) (by decide) ?_
                    exact go_iret h.1 h.2.2.2.2 (by decide +kernel)
      · refine go_blk h.1 (is := [.bipush (-100), .iload 8, .isub]) (pc' := 81) (ls' := [some (.inr (.inr (0, 0))), some (.inl x1), some (.inl x2), some (.inl x3), some (.inl x4), some (.inl x5), some (.inl s0), some (.inl r37), some (.inl r55)]) (st' := [.inl ((-100 : Int32) - r55)]) (m' := m55) (by decide +kernel) rfl ?_
        exact go_iret h.1 h.2.2.2.2 (by decide +kernel)
    · refine go_blk h.1 (is := [.iload 8]) (pc' := 68) (ls' := [some (.inr (.inr (0, 0))), some (.inl x1), some (.inl x2), some (.inl x3), some (.inl x4), some (.inl x5), some (.inl s0), some (.inl r37), some (.inl r55)]) (st' := [.inl r55]) (m' := m55) (by decide +kernel) rfl ?_
      exact go_iret h.1 h.2.2.2.2 (by decide +kernel)
  · refine go_blk h.1 (is := [.iload 7]) (pc' := 49) (ls' := [some (.inr (.inr (0, 0))), some (.inl x1), some (.inl x2), some (.inl x3), some (.inl x4), some (.inl x5), some (.inl s0), some (.inl r37), o8]) (st' := [.inl r37]) (m' := m37) (by decide +kernel) rfl ?_
    exact go_iret h.1 h.2.2.2.2 (by decide +kernel)

def f_X6_passes_j22 (x1 : Int32) (x2 : Int32) (x3 : Int32) (x4 : Int32) (x5 : Int32) (m : Mem) : Option (Int32 × Mem) :=
  f_X6_passes_j27 (1 : Int32) x1 x2 x3 x4 x5 m
theorem g_X6_passes_j22 {X : XT} (h : MX X prog_1_method_7_code P_X6 6 (some .int)) (x1 : Int32) (x2 : Int32) (x3 : Int32) (x4 : Int32) (x5 : Int32) (m : Mem) (o6 : Option AV) (o7 : Option AV) (o8 : Option AV) : Go X (Em X puI) 22 [some (.inr (.inr (0, 0))), some (.inl x1), some (.inl x2), some (.inl x3), some (.inl x4), some (.inl x5), o6, o7, o8] [] m (f_X6_passes_j22 x1 x2 x3 x4 x5 m) := by
  unfold f_X6_passes_j22
  refine go_blk h.1 (is := [.iconst 1]) (pc' := 23) (ls' := [some (.inr (.inr (0, 0))), some (.inl x1), some (.inl x2), some (.inl x3), some (.inl x4), some (.inl x5), o6, o7, o8]) (st' := [.inl (1 : Int32)]) (m' := m) (by decide +kernel) rfl ?_
  refine go_goto h.1 (off := 4) 27 (by decide +kernel) (by decide) ?_
  exact g_X6_passes_j27 h (1 : Int32) x1 x2 x3 x4 x5 m (o6) (o7) (o8)

def f_X6_passes (x1 : Int32) (x2 : Int32) (x3 : Int32) (x4 : Int32) (x5 : Int32) (m : Mem) : Option (Int32 × Mem) :=
  bnd (f_X6_isWithin x5 (0 : Int32) (4 : Int32) m) (fun r4 m4 =>
    if r4 = 0 then
      bnd (f_X6_isWithin x5 (10 : Int32) (14 : Int32) m4) (fun r16 m16 =>
        if r16 = 0 then
          f_X6_passes_j27 (0 : Int32) x1 x2 x3 x4 x5 m16
        else
          f_X6_passes_j22 x1 x2 x3 x4 x5 m16)
    else
      f_X6_passes_j22 x1 x2 x3 x4 x5 m4)
theorem g_X6_passes {X : XT} (h : MX X prog_1_method_7_code P_X6 6 (some .int)) (x1 : Int32) (x2 : Int32) (x3 : Int32) (x4 : Int32) (x5 : Int32) (m : Mem) : Go X (Em X puI) 0 [some (.inr (.inr (0, 0))), some (.inl x1), some (.inl x2), some (.inl x3), some (.inl x4), some (.inl x5), none, none, none] [] m (f_X6_passes x1 x2 x3 x4 x5 m) := by
  unfold f_X6_passes
  refine go_blk h.1 (is := [.iload 5, .iconst 0, .iconst 4]) (pc' := 4) (ls' := [some (.inr (.inr (0, 0))), some (.inl x1), some (.inl x2), some (.inl x3), some (.inl x4), some (.inl x5), none, none, none]) (st' := [.inl (4 : Int32), .inl (0 : Int32), .inl x5]) (m' := m) (by decide +kernel) rfl ?_
  refine go_callS h.1 (index := 111) (n := 3) (as := [.inl x5, .inl (0 : Int32), .inl (4 : Int32)]) (rest := []) (ctr_X6_isWithin (xl X) (xA X) (xC X) (xI X) (xk X) x5 (0 : Int32) (4 : Int32) m) (by decide +kernel) wd_s_X6_111 rfl (h.room (by first | decide | omega) (by decide)) h.cl (Nat.le_of_ble_eq_true rfl) puI_ok rfl (fun r4 m4 _ => ?_)
  show Go X (Em X puI) 7 [some (.inr (.inr (0, 0))), some (.inl x1), some (.inl x2), some (.inl x3), some (.inl x4), some (.inl x5), none, none, none] [.inl r4] m4 _
  refine go_ifne h.1 (off := 15) 22 (by decide +kernel) (by decide) (fun c7 => ?_) (fun c7 => ?_)
  · exact g_X6_passes_j22 h x1 x2 x3 x4 x5 m4 (none) (none) (none)
  · refine go_blk h.1 (is := [.iload 5, .bipush 10, .bipush 14]) (pc' := 16) (ls' := [some (.inr (.inr (0, 0))), some (.inl x1), some (.inl x2), some (.inl x3), some (.inl x4), some (.inl x5), none, none, none]) (st' := [.inl (14 : Int32), .inl (10 : Int32), .inl x5]) (m' := m4) (by decide +kernel) rfl ?_
    refine go_callS h.1 (index := 111) (n := 3) (as := [.inl x5, .inl (10 : Int32), .inl (14 : Int32)]) (rest := []) (ctr_X6_isWithin (xl X) (xA X) (xC X) (xI X) (xk X) x5 (10 : Int32) (14 : Int32) m4) (by decide +kernel) wd_s_X6_111 rfl (h.room (by first | decide | omega) (by decide)) h.cl (Nat.le_of_ble_eq_true rfl) puI_ok rfl (fun r16 m16 _ => ?_)
    show Go X (Em X puI) 19 [some (.inr (.inr (0, 0))), some (.inl x1), some (.inl x2), some (.inl x3), some (.inl x4), some (.inl x5), none, none, none] [.inl r16] m16 _
    refine go_ifeq h.1 (off := 7) 26 (by decide +kernel) (by decide) (fun c19 => ?_) (fun c19 => ?_)
    · refine go_blk h.1 (is := [.iconst 0]) (pc' := 27) (ls' := [some (.inr (.inr (0, 0))), some (.inl x1), some (.inl x2), some (.inl x3), some (.inl x4), some (.inl x5), none, none, none]) (st' := [.inl (0 : Int32)]) (m' := m16) (by decide +kernel) rfl ?_
      exact g_X6_passes_j27 h (0 : Int32) x1 x2 x3 x4 x5 m16 (none) (none) (none)
    · exact g_X6_passes_j22 h x1 x2 x3 x4 x5 m16 (none) (none) (none)
theorem ctr_X6_passes (l : Launch) (A : AR → Nat) (dC : Nat → ClassId) (dI : Nat → Nat → Nat) (cs : Nat → ClassId) (x1 : Int32) (x2 : Int32) (x3 : Int32) (x4 : Int32) (x5 : Int32) (m : Mem) : Ctr l A dC dI cs yX6_passes prog_1_method_7_code 9 (some .int) 6 puI [.inr (.inr (0, 0)), .inl x1, .inl x2, .inl x3, .inl x4, .inl x5] m (f_X6_passes x1 x2 x3 x4 x5 m) :=
  ctr_of (P := P_X6) (by decide +kernel) rfl pt_X6 rfl rfl (fun X hC _ _ _ _ _ hR h0 h1 hr => g_X6_passes ⟨hC, hR, h0, h1, hr⟩ x1 x2 x3 x4 x5 m)

def f_X6_unknownFish (m : Mem) : Option (Int32 × Mem) :=
  some ((-1 : Int32), (mset m 0 0 6 (0 : Int32)))
theorem g_X6_unknownFish {X : XT} (h : MX X prog_1_method_37_code P_X6 0 (some .int)) (m : Mem) : Go X (Em X puI) 0 [some (.inr (.inr (0, 0)))] [] m (f_X6_unknownFish m) := by
  unfold f_X6_unknownFish
  refine go_blk h.1 (is := [.aload_n 0, .iconst 0, .putfield 50, .iconst (-1)]) (pc' := 6) (ls' := [some (.inr (.inr (0, 0)))]) (st' := [.inl (-1 : Int32)]) (m' := (mset m 0 0 6 (0 : Int32))) (by decide +kernel) rfl ?_
  exact go_iret h.1 h.2.2.2.2 (by decide +kernel)
theorem ctr_X6_unknownFish (l : Launch) (A : AR → Nat) (dC : Nat → ClassId) (dI : Nat → Nat → Nat) (cs : Nat → ClassId) (m : Mem) : Ctr l A dC dI cs yX6_unknownFish prog_1_method_37_code 1 (some .int) 0 puI [.inr (.inr (0, 0))] m (f_X6_unknownFish m) :=
  ctr_of (P := P_X6) (by decide +kernel) rfl pt_X6 rfl rfl (fun X hC _ _ _ _ _ hR h0 h1 hr => g_X6_unknownFish ⟨hC, hR, h0, h1, hr⟩ m)

def f_X6_refusalWithFish (x1 : Int32) (x2 : Int32) (x3 : Int32) (x4 : Int32) (x5 : Int32) (m : Mem) : Option (Int32 × Mem) :=
  bnd (f_X5_has x1 m) (fun r5 m5 =>
    if r5 = 0 then
      bnd (f_X6_unknownFish m5) (fun r26 m26 =>
        some (r26, m26))
    else
      bnd (f_X6_refusalOf x2 x3 x4 x5 (1 : Int32) m5) (fun r19 m19 =>
        some (r19, m19)))
theorem g_X6_refusalWithFish {X : XT} (h : MX X prog_1_method_38_code P_X6 3 (some .int)) (x1 : Int32) (x2 : Int32) (x3 : Int32) (x4 : Int32) (x5 : Int32) (m : Mem) : Go X (Em X puI) 0 [some (.inr (.inr (0, 0))), some (.inl x1), some (.inl x2), some (.inl x3), some (.inl x4), some (.inl x5)] [] m (f_X6_refusalWithFish x1 x2 x3 x4 x5 m) := by
  unfold f_X6_refusalWithFish
  refine go_blk h.1 (is := [.aload_n 0, .getfield 21, .iload_n 1]) (pc' := 5) (ls' := [some (.inr (.inr (0, 0))), some (.inl x1), some (.inl x2), some (.inl x3), some (.inl x4), some (.inl x5)]) (st' := [.inl x1, .inr (.inr (4, 0))]) (m' := m) (by decide +kernel) rfl ?_
  refine go_callV h.1 (index := 83) (n := 1) (t := 4) (i := 0) (ci := 5) (nf := 4) (cz := (RX5, TX5, 4)) (as := [.inl x1]) (rest := []) (ctr_X5_has (xl X) (xA X) (xC X) (xI X) (xk X) x1 m) (by decide +kernel) rfl rfl wd_v_X6_83 rfl (h.room (by first | decide | omega) (by decide)) h.cl (Nat.le_of_ble_eq_true rfl) puI_ok rfl (fun r5 m5 _ => ?_)
  show Go X (Em X puI) 8 [some (.inr (.inr (0, 0))), some (.inl x1), some (.inl x2), some (.inl x3), some (.inl x4), some (.inl x5)] [.inl r5] m5 _
  refine go_ifeq h.1 (off := 17) 25 (by decide +kernel) (by decide) (fun c8 => ?_) (fun c8 => ?_)
  · refine go_blk h.1 (is := [.aload_n 0]) (pc' := 26) (ls' := [some (.inr (.inr (0, 0))), some (.inl x1), some (.inl x2), some (.inl x3), some (.inl x4), some (.inl x5)]) (st' := [.inr (.inr (0, 0))]) (m' := m5) (by decide +kernel) rfl ?_
    refine go_callV h.1 (index := 145) (n := 0) (t := 0) (i := 0) (ci := 6) (nf := 7) (cz := (RX6, TX6, 7)) (as := []) (rest := []) (ctr_X6_unknownFish (xl X) (xA X) (xC X) (xI X) (xk X) m5) (by decide +kernel) rfl rfl wd_v_X6_145 rfl (h.room (by first | decide | omega) (by decide)) h.cl (Nat.le_of_ble_eq_true rfl) puI_ok rfl (fun r26 m26 _ => ?_)
    show Go X (Em X puI) 29 [some (.inr (.inr (0, 0))), some (.inl x1), some (.inl x2), some (.inl x3), some (.inl x4), some (.inl x5)] [.inl r26] m26 _
    exact go_iret h.1 h.2.2.2.2 (by decide +kernel)
  · refine go_blk h.1 (is := [.aload_n 0, .iload_n 2, .iload_n 3, .iload 4, .iload 5, .iconst 1]) (pc' := 19) (ls' := [some (.inr (.inr (0, 0))), some (.inl x1), some (.inl x2), some (.inl x3), some (.inl x4), some (.inl x5)]) (st' := [.inl (1 : Int32), .inl x5, .inl x4, .inl x3, .inl x2, .inr (.inr (0, 0))]) (m' := m5) (by decide +kernel) rfl ?_
    refine go_callV h.1 (index := 121) (n := 5) (t := 0) (i := 0) (ci := 6) (nf := 7) (cz := (RX6, TX6, 7)) (as := [.inl x2, .inl x3, .inl x4, .inl x5, .inl (1 : Int32)]) (rest := []) (ctr_X6_refusalOf (xl X) (xA X) (xC X) (xI X) (xk X) x2 x3 x4 x5 (1 : Int32) m5) (by decide +kernel) rfl rfl wd_v_X6_121 rfl (h.room (by first | decide | omega) (by decide)) h.cl (Nat.le_of_ble_eq_true rfl) puI_ok rfl (fun r19 m19 _ => ?_)
    show Go X (Em X puI) 22 [some (.inr (.inr (0, 0))), some (.inl x1), some (.inl x2), some (.inl x3), some (.inl x4), some (.inl x5)] [.inl r19] m19 _
    refine go_goto h.1 (off := 7) 29 (by decide +kernel) (by decide) ?_
    exact go_iret h.1 h.2.2.2.2 (by decide +kernel)
theorem ctr_X6_refusalWithFish (l : Launch) (A : AR → Nat) (dC : Nat → ClassId) (dI : Nat → Nat → Nat) (cs : Nat → ClassId) (x1 : Int32) (x2 : Int32) (x3 : Int32) (x4 : Int32) (x5 : Int32) (m : Mem) : Ctr l A dC dI cs yX6_refusalWithFish prog_1_method_38_code 6 (some .int) 3 puI [.inr (.inr (0, 0)), .inl x1, .inl x2, .inl x3, .inl x4, .inl x5] m (f_X6_refusalWithFish x1 x2 x3 x4 x5 m) :=
  ctr_of (P := P_X6) (by decide +kernel) rfl pt_X6 rfl rfl (fun X hC _ _ _ _ _ hR h0 h1 hr => g_X6_refusalWithFish ⟨hC, hR, h0, h1, hr⟩ x1 x2 x3 x4 x5 m)

def f_X6_owes_j30 (s0 : Int32) (x1 : Int32) (x2 : Int32) (x3 : Int32) (x5 : Int32) (x6 : Int32) (m : Mem) : Option (Int32 × Mem) :=
  if s0 = 0 then
    bnd (f_X6_walkAsTold x3 x5 x6 m) (fun r46 m46 =>
      if r46 = (-9 : Int32) then
        if inB x1 5 = true then
          if inB x2 5 = true then
            some ((m46 14 (5 * 0 + (ix x1)) (ix x2)), m46)
          else none
        else none
      else
        some (((-100 : Int32) - r46), m46))
  else
    some (s0, m)
theorem g_X6_owes_j30 {X : XT} (h : MX X prog_1_method_8_code P_X6 6 (some .int)) (s0 : Int32) (x1 : Int32) (x2 : Int32) (x3 : Int32) (x5 : Int32) (x6 : Int32) (m : Mem) (o4 : Option AV) (o7 : Option AV) (o8 : Option AV) : Go X (Em X puI) 30 [some (.inr (.inr (0, 0))), some (.inl x1), some (.inl x2), some (.inl x3), o4, some (.inl x5), some (.inl x6), o7, o8] [.inl s0] m (f_X6_owes_j30 s0 x1 x2 x3 x5 x6 m) := by
  unfold f_X6_owes_j30
  refine go_blk h.1 (is := [.istore 7, .iload 7]) (pc' := 34) (ls' := [some (.inr (.inr (0, 0))), some (.inl x1), some (.inl x2), some (.inl x3), o4, some (.inl x5), some (.inl x6), some (.inl s0), o8]) (st' := [.inl s0]) (m' := m) (by decide +kernel) rfl ?_
  refine go_ifeq h.1 (off := 6) 40 (by decide +kernel) (by decide) (fun c34 => ?_) (fun c34 => ?_)
  · refine go_blk h.1 (is := [.aload_n 0, .iload_n 3, .iload 5, .iload 6]) (pc' := 46) (ls' := [some (.inr (.inr (0, 0))), some (.inl x1), some (.inl x2), some (.inl x3), o4, some (.inl x5), some (.inl x6), some (.inl s0), o8]) (st' := [.inl x6, .inl x5, .inl x3, .inr (.inr (0, 0))]) (m' := m) (by decide +kernel) rfl ?_
    refine go_callV h.1 (index := 125) (n := 3) (t := 0) (i := 0) (ci := 6) (nf := 7) (cz := (RX6, TX6, 7)) (as := [.inl x3, .inl x5, .inl x6]) (rest := []) (ctr_X6_walkAsTold (xl X) (xA X) (xC X) (xI X) (xk X) x3 x5 x6 m) (by decide +kernel) rfl rfl wd_v_X6_125 rfl (h.room (by first | decide | omega) (by decide)) h.cl (Nat.le_of_ble_eq_true rfl) puI_ok rfl (fun r46 m46 _ => ?_)
    show Go X (Em X puI) 49 [some (.inr (.inr (0, 0))), some (.inl x1), some (.inl x2), some (.inl x3), o4, some (.inl x5), some (.inl x6), some (.inl s0), o8] [.inl r46] m46 _
    refine go_blk h.1 (is := [.istore 8, .iload 8, .bipush (-9)]) (pc' := 55) (ls' := [some (.inr (.inr (0, 0))), some (.inl x1), some (.inl x2), some (.inl x3), o4, some (.inl x5), some (.inl x6), some (.inl s0), some (.inl r46)]) (st' := [.inl (-9 : Int32), .inl r46]) (m' := m46) (by decide +kernel) rfl ?_
    refine go_icmpeq h.1 (off := 11) 66 (by decide +kernel) (by decide) (fun c55 => ?_) (fun c55 => ?_)
    · refine go_blk h.1 (is := [.aload_n 0, .getfield 28, .getfield 149, .iload_n 1]) (pc' := 74) (ls' := [some (.inr (.inr (0, 0))), some (.inl x1), some (.inl x2), some (.inl x3), o4, some (.inl x5), some (.inl x6), some (.inl s0), some (.inl r46)]) (st' := [.inl x1, .inr (.inr (13, 0))]) (m' := m46) (by decide +kernel) rfl ?_
      refine go_aald h.1 (kd := 2) (z := (14, (5 * 0 + (ix x1)))) (by decide +kernel) rfl rfl (by decide) rfl (fun b74 => ?_)
      refine go_blk h.1 (is := [.iload_n 2]) (pc' := 76) (ls' := [some (.inr (.inr (0, 0))), some (.inl x1), some (.inl x2), some (.inl x3), o4, some (.inl x5), some (.inl x6), some (.inl s0), some (.inl r46)]) (st' := [.inl x2, .inr (.inr (14, (5 * 0 + (ix x1))))]) (m' := m46) (by decide +kernel) rfl ?_
      refine go_iald h.1 (by decide +kernel) rfl rfl (fun b76 => ?_)
      show Go X (Em X puI) 77 [some (.inr (.inr (0, 0))), some (.inl x1), some (.inl x2), some (.inl x3), o4, some (.inl x5), some (.inl x6), some (.inl s0), some (.inl r46)] [.inl (m46 14 (5 * 0 + (ix x1)) (ix x2))] m46 _
      exact go_iret h.1 h.2.2.2.2 (by decide +kernel)
    · refine go_blk h.1 (is := [.bipush (-100), .iload 8, .isub]) (pc' := 63) (ls' := [some (.inr (.inr (0, 0))), some (.inl x1), some (.inl x2), some (.inl x3), o4, some (.inl x5), some (.inl x6), some (.inl s0), some (.inl r46)]) (st' := [.inl ((-100 : Int32) - r46)]) (m' := m46) (by decide +kernel) rfl ?_
      refine go_goto h.1 (off := 14) 77 (by decide +kernel) (by decide) ?_
      exact go_iret h.1 h.2.2.2.2 (by decide +kernel)
  · refine go_blk h.1 (is := [.iload 7]) (pc' := 39) (ls' := [some (.inr (.inr (0, 0))), some (.inl x1), some (.inl x2), some (.inl x3), o4, some (.inl x5), some (.inl x6), some (.inl s0), o8]) (st' := [.inl s0]) (m' := m) (by decide +kernel) rfl ?_
    exact go_iret h.1 h.2.2.2.2 (by decide +kernel)

def f_X6_owes (x1 : Int32) (x2 : Int32) (x3 : Int32) (x4 : Int32) (x5 : Int32) (x6 : Int32) (m : Mem) : Option (Int32 × Mem) :=
  bnd (f_X5_has x2 m) (fun r5 m5 =>
    if r5 = 0 then
      bnd (f_X6_unknownFish m5) (fun r27 m27 =>
        f_X6_owes_j30 r27 x1 x2 x3 x5 x6 m27)
    else
      bnd (f_X6_refusalWithFish x1 x3 x4 x5 x6 m5) (fun r20 m20 =>
        f_X6_owes_j30 r20 x1 x2 x3 x5 x6 m20))
theorem g_X6_owes {X : XT} (h : MX X prog_1_method_8_code P_X6 6 (some .int)) (x1 : Int32) (x2 : Int32) (x3 : Int32) (x4 : Int32) (x5 : Int32) (x6 : Int32) (m : Mem) : Go X (Em X puI) 0 [some (.inr (.inr (0, 0))), some (.inl x1), some (.inl x2), some (.inl x3), some (.inl x4), some (.inl x5), some (.inl x6), none, none] [] m (f_X6_owes x1 x2 x3 x4 x5 x6 m) := by
  unfold f_X6_owes
  refine go_blk h.1 (is := [.aload_n 0, .getfield 21, .iload_n 2]) (pc' := 5) (ls' := [some (.inr (.inr (0, 0))), some (.inl x1), some (.inl x2), some (.inl x3), some (.inl x4), some (.inl x5), some (.inl x6), none, none]) (st' := [.inl x2, .inr (.inr (4, 0))]) (m' := m) (by decide +kernel) rfl ?_
  refine go_callV h.1 (index := 83) (n := 1) (t := 4) (i := 0) (ci := 5) (nf := 4) (cz := (RX5, TX5, 4)) (as := [.inl x2]) (rest := []) (ctr_X5_has (xl X) (xA X) (xC X) (xI X) (xk X) x2 m) (by decide +kernel) rfl rfl wd_v_X6_83 rfl (h.room (by first | decide | omega) (by decide)) h.cl (Nat.le_of_ble_eq_true rfl) puI_ok rfl (fun r5 m5 _ => ?_)
  show Go X (Em X puI) 8 [some (.inr (.inr (0, 0))), some (.inl x1), some (.inl x2), some (.inl x3), some (.inl x4), some (.inl x5), some (.inl x6), none, none] [.inl r5] m5 _
  refine go_ifeq h.1 (off := 18) 26 (by decide +kernel) (by decide) (fun c8 => ?_) (fun c8 => ?_)
  · refine go_blk h.1 (is := [.aload_n 0]) (pc' := 27) (ls' := [some (.inr (.inr (0, 0))), some (.inl x1), some (.inl x2), some (.inl x3), some (.inl x4), some (.inl x5), some (.inl x6), none, none]) (st' := [.inr (.inr (0, 0))]) (m' := m5) (by decide +kernel) rfl ?_
    refine go_callV h.1 (index := 145) (n := 0) (t := 0) (i := 0) (ci := 6) (nf := 7) (cz := (RX6, TX6, 7)) (as := []) (rest := []) (ctr_X6_unknownFish (xl X) (xA X) (xC X) (xI X) (xk X) m5) (by decide +kernel) rfl rfl wd_v_X6_145 rfl (h.room (by first | decide | omega) (by decide)) h.cl (Nat.le_of_ble_eq_true rfl) puI_ok rfl (fun r27 m27 _ => ?_)
    show Go X (Em X puI) 30 [some (.inr (.inr (0, 0))), some (.inl x1), some (.inl x2), some (.inl x3), some (.inl x4), some (.inl x5), some (.inl x6), none, none] [.inl r27] m27 _
    exact g_X6_owes_j30 h r27 x1 x2 x3 x5 x6 m27 (some (.inl x4)) (none) (none)
  · refine go_blk h.1 (is := [.aload_n 0, .iload_n 1, .iload_n 3, .iload 4, .iload 5, .iload 6]) (pc' := 20) (ls' := [some (.inr (.inr (0, 0))), some (.inl x1), some (.inl x2), some (.inl x3), some (.inl x4), some (.inl x5), some (.inl x6), none, none]) (st' := [.inl x6, .inl x5, .inl x4, .inl x3, .inl x1, .inr (.inr (0, 0))]) (m' := m5) (by decide +kernel) rfl ?_
    refine go_callV h.1 (index := 141) (n := 5) (t := 0) (i := 0) (ci := 6) (nf := 7) (cz := (RX6, TX6, 7)) (as := [.inl x1, .inl x3, .inl x4, .inl x5, .inl x6]) (rest := []) (ctr_X6_refusalWithFish (xl X) (xA X) (xC X) (xI X) (xk X) x1 x3 x4 x5 x6 m5) (by decide +kernel) rfl rfl wd_v_X6_141 rfl (h.room (by first | decide | omega) (by decide)) h.cl (Nat.le_of_ble_eq_true rfl) puI_ok rfl (fun r20 m20 _ => ?_)
    show Go X (Em X puI) 23 [some (.inr (.inr (0, 0))), some (.inl x1), some (.inl x2), some (.inl x3), some (.inl x4), some (.inl x5), some (.inl x6), none, none] [.inl r20] m20 _
    refine go_goto h.1 (off := 7) 30 (by decide +kernel) (by decide) ?_
    exact g_X6_owes_j30 h r20 x1 x2 x3 x5 x6 m20 (some (.inl x4)) (none) (none)
theorem ctr_X6_owes (l : Launch) (A : AR → Nat) (dC : Nat → ClassId) (dI : Nat → Nat → Nat) (cs : Nat → ClassId) (x1 : Int32) (x2 : Int32) (x3 : Int32) (x4 : Int32) (x5 : Int32) (x6 : Int32) (m : Mem) : Ctr l A dC dI cs yX6_owes prog_1_method_8_code 9 (some .int) 6 puI [.inr (.inr (0, 0)), .inl x1, .inl x2, .inl x3, .inl x4, .inl x5, .inl x6] m (f_X6_owes x1 x2 x3 x4 x5 x6 m) :=
  ctr_of (P := P_X6) (by decide +kernel) rfl pt_X6 rfl rfl (fun X hC _ _ _ _ _ hR h0 h1 hr => g_X6_owes ⟨hC, hR, h0, h1, hr⟩ x1 x2 x3 x4 x5 x6 m)

def f_X6_toll (x1 : Int32) (x2 : Int32) (x3 : Int32) (x4 : Int32) (x5 : Int32) (m : Mem) : Option (Int32 × Mem) :=
  bnd (f_X6_refusalWithFish x1 x2 x3 x4 x5 m) (fun r8 m8 =>
    if r8 = 0 then
      bnd (f_X6_walkAsTold x2 x4 x5 m8) (fun r27 m27 =>
        if r27 = (-9 : Int32) then
          bnd (f_X0_tollOf 0 x1 m27) (fun r52 m52 =>
            some (r52, m52))
        else
          some (((-100 : Int32) - r27), m27))
    else
      some (r8, m8))
theorem g_X6_toll {X : XT} (h : MX X prog_1_method_9_code P_X6 6 (some .int)) (x1 : Int32) (x2 : Int32) (x3 : Int32) (x4 : Int32) (x5 : Int32) (m : Mem) : Go X (Em X puI) 0 [some (.inr (.inr (0, 0))), some (.inl x1), some (.inl x2), some (.inl x3), some (.inl x4), some (.inl x5), none, none] [] m (f_X6_toll x1 x2 x3 x4 x5 m) := by
  unfold f_X6_toll
  refine go_blk h.1 (is := [.aload_n 0, .iload_n 1, .iload_n 2, .iload_n 3, .iload 4, .iload 5]) (pc' := 8) (ls' := [some (.inr (.inr (0, 0))), some (.inl x1), some (.inl x2), some (.inl x3), some (.inl x4), some (.inl x5), none, none]) (st' := [.inl x5, .inl x4, .inl x3, .inl x2, .inl x1, .inr (.inr (0, 0))]) (m' := m) (by decide +kernel) rfl ?_
  refine go_callV h.1 (index := 141) (n := 5) (t := 0) (i := 0) (ci := 6) (nf := 7) (cz := (RX6, TX6, 7)) (as := [.inl x1, .inl x2, .inl x3, .inl x4, .inl x5]) (rest := []) (ctr_X6_refusalWithFish (xl X) (xA X) (xC X) (xI X) (xk X) x1 x2 x3 x4 x5 m) (by decide +kernel) rfl rfl wd_v_X6_141 rfl (h.room (by first | decide | omega) (by decide)) h.cl (Nat.le_of_ble_eq_true rfl) puI_ok rfl (fun r8 m8 _ => ?_)
  show Go X (Em X puI) 11 [some (.inr (.inr (0, 0))), some (.inl x1), some (.inl x2), some (.inl x3), some (.inl x4), some (.inl x5), none, none] [.inl r8] m8 _
  refine go_blk h.1 (is := [.istore 6, .iload 6]) (pc' := 15) (ls' := [some (.inr (.inr (0, 0))), some (.inl x1), some (.inl x2), some (.inl x3), some (.inl x4), some (.inl x5), some (.inl r8), none]) (st' := [.inl r8]) (m' := m8) (by decide +kernel) rfl ?_
  refine go_ifeq h.1 (off := 6) 21 (by decide +kernel) (by decide) (fun c15 => ?_) (fun c15 => ?_)
  · refine go_blk h.1 (is := [.aload_n 0, .iload_n 2, .iload 4, .iload 5]) (pc' := 27) (ls' := [some (.inr (.inr (0, 0))), some (.inl x1), some (.inl x2), some (.inl x3), some (.inl x4), some (.inl x5), some (.inl r8), none]) (st' := [.inl x5, .inl x4, .inl x2, .inr (.inr (0, 0))]) (m' := m8) (by decide +kernel) rfl ?_
    refine go_callV h.1 (index := 125) (n := 3) (t := 0) (i := 0) (ci := 6) (nf := 7) (cz := (RX6, TX6, 7)) (as := [.inl x2, .inl x4, .inl x5]) (rest := []) (ctr_X6_walkAsTold (xl X) (xA X) (xC X) (xI X) (xk X) x2 x4 x5 m8) (by decide +kernel) rfl rfl wd_v_X6_125 rfl (h.room (by first | decide | omega) (by decide)) h.cl (Nat.le_of_ble_eq_true rfl) puI_ok rfl (fun r27 m27 _ => ?_)
    show Go X (Em X puI) 30 [some (.inr (.inr (0, 0))), some (.inl x1), some (.inl x2), some (.inl x3), some (.inl x4), some (.inl x5), some (.inl r8), none] [.inl r27] m27 _
    refine go_blk h.1 (is := [.istore 7, .iload 7, .bipush (-9)]) (pc' := 36) (ls' := [some (.inr (.inr (0, 0))), some (.inl x1), some (.inl x2), some (.inl x3), some (.inl x4), some (.inl x5), some (.inl r8), some (.inl r27)]) (st' := [.inl (-9 : Int32), .inl r27]) (m' := m27) (by decide +kernel) rfl ?_
    refine go_icmpeq h.1 (off := 11) 47 (by decide +kernel) (by decide) (fun c36 => ?_) (fun c36 => ?_)
    · refine go_blk h.1 (is := [.aload_n 0, .getfield 28, .iload_n 1]) (pc' := 52) (ls' := [some (.inr (.inr (0, 0))), some (.inl x1), some (.inl x2), some (.inl x3), some (.inl x4), some (.inl x5), some (.inl r8), some (.inl r27)]) (st' := [.inl x1, .inr (.inr (7, 0))]) (m' := m27) (by decide +kernel) rfl ?_
      refine go_callV h.1 (index := 153) (n := 1) (t := 7) (i := 0) (ci := 0) (nf := 14) (cz := (RX0, TX0, 14)) (as := [.inl x1]) (rest := []) (ctr_X0_tollOf (xl X) (xA X) (xC X) (xI X) (xk X) 0 x1 m27) (by decide +kernel) rfl rfl wd_v_X6_153 rfl (h.room (by first | decide | omega) (by decide)) h.cl (Nat.le_of_ble_eq_true rfl) puI_ok rfl (fun r52 m52 _ => ?_)
      show Go X (Em X puI) 55 [some (.inr (.inr (0, 0))), some (.inl x1), some (.inl x2), some (.inl x3), some (.inl x4), some (.inl x5), some (.inl r8), some (.inl r27)] [.inl r52] m52 _
      exact go_iret h.1 h.2.2.2.2 (by decide +kernel)
    · refine go_blk h.1 (is := [.bipush (-100), .iload 7, .isub]) (pc' := 44) (ls' := [some (.inr (.inr (0, 0))), some (.inl x1), some (.inl x2), some (.inl x3), some (.inl x4), some (.inl x5), some (.inl r8), some (.inl r27)]) (st' := [.inl ((-100 : Int32) - r27)]) (m' := m27) (by decide +kernel) rfl ?_
      refine go_goto h.1 (off := 11) 55 (by decide +kernel) (by decide) ?_
      exact go_iret h.1 h.2.2.2.2 (by decide +kernel)
  · refine go_blk h.1 (is := [.iload 6]) (pc' := 20) (ls' := [some (.inr (.inr (0, 0))), some (.inl x1), some (.inl x2), some (.inl x3), some (.inl x4), some (.inl x5), some (.inl r8), none]) (st' := [.inl r8]) (m' := m8) (by decide +kernel) rfl ?_
    exact go_iret h.1 h.2.2.2.2 (by decide +kernel)
theorem ctr_X6_toll (l : Launch) (A : AR → Nat) (dC : Nat → ClassId) (dI : Nat → Nat → Nat) (cs : Nat → ClassId) (x1 : Int32) (x2 : Int32) (x3 : Int32) (x4 : Int32) (x5 : Int32) (m : Mem) : Ctr l A dC dI cs yX6_toll prog_1_method_9_code 8 (some .int) 6 puI [.inr (.inr (0, 0)), .inl x1, .inl x2, .inl x3, .inl x4, .inl x5] m (f_X6_toll x1 x2 x3 x4 x5 m) :=
  ctr_of (P := P_X6) (by decide +kernel) rfl pt_X6 rfl rfl (fun X hC _ _ _ _ _ hR h0 h1 hr => g_X6_toll ⟨hC, hR, h0, h1, hr⟩ x1 x2 x3 x4 x5 m)

def f_X6_mayBe (x0 : Int32) (x1 : Int32) (m : Mem) : Option (Int32 × Mem) :=
  if ((x0 >>> (x1 &&& 31)) &&& (1 : Int32)) = (1 : Int32) then
    some ((1 : Int32), m)
  else
    some ((0 : Int32), m)
theorem g_X6_mayBe {X : XT} (h : MX X prog_1_method_33_code P_X6 0 (some .boolean)) (x0 : Int32) (x1 : Int32) (m : Mem) : Go X (Em X puI) 0 [some (.inl x0), some (.inl x1)] [] m (f_X6_mayBe x0 x1 m) := by
  unfold f_X6_mayBe
  refine go_blk h.1 (is := [.iload_n 0, .iload_n 1, .ishr, .iconst 1, .iand, .iconst 1]) (pc' := 6) (ls' := [some (.inl x0), some (.inl x1)]) (st' := [.inl (1 : Int32), .inl ((x0 >>> (x1 &&& 31)) &&& (1 : Int32))]) (m' := m) (by decide +kernel) rfl ?_
  refine go_icmpne h.1 (off := 7) 13 (by decide +kernel) (by decide) (fun c6 => ?_) (fun c6 => ?_)
  · refine go_blk h.1 (is := [.iconst 0]) (pc' := 14) (ls' := [some (.inl x0), some (.inl x1)]) (st' := [.inl (0 : Int32)]) (m' := m) (by decide +kernel) rfl ?_
    exact go_zret h.1 h.2.2.2.2 (Or.inl rfl) (by decide +kernel)
  · refine go_blk h.1 (is := [.iconst 1]) (pc' := 10) (ls' := [some (.inl x0), some (.inl x1)]) (st' := [.inl (1 : Int32)]) (m' := m) (by decide +kernel) rfl ?_
    refine go_goto h.1 (off := 4) 14 (by decide +kernel) (by decide) ?_
    exact go_zret h.1 h.2.2.2.2 (Or.inr rfl) (by decide +kernel)
theorem ctr_X6_mayBe (l : Launch) (A : AR → Nat) (dC : Nat → ClassId) (dI : Nat → Nat → Nat) (cs : Nat → ClassId) (x0 : Int32) (x1 : Int32) (m : Mem) : Ctr l A dC dI cs yX6_mayBe prog_1_method_33_code 2 (some .boolean) 0 puI [.inl x0, .inl x1] m (f_X6_mayBe x0 x1 m) :=
  ctr_of (P := P_X6) (by decide +kernel) rfl pt_X6 rfl rfl (fun X hC _ _ _ _ _ hR h0 h1 hr => g_X6_mayBe ⟨hC, hR, h0, h1, hr⟩ x0 x1 m)

def f_X0_cheapest_j63 (w : Nat) (s0 : Int32) (x1 : Int32) (x2 : Int32) (x3 : Int32) (m : Mem) : Option (Int32 × Mem) :=
  if s0 = 0 then
    bnd (f_X6_mayBe x2 (3 : Int32) m) (fun r72 m72 =>
      if r72 = 0 then
        some ((1000000 : Int32), m72)
      else
        bnd (f_X0_lenderFor w x1 x3 m72) (fun r81 m81 =>
          if r81 = (-2 : Int32) then
            some ((1000000 : Int32), m81)
          else
            some (x3, m81)))
  else
    some (x3, m)
theorem g_X0_cheapest_j63 {X : XT} (h : MX X prog_2_method_15_code P_X0 2 (some .int)) (w : Nat) (s0 : Int32) (x1 : Int32) (x2 : Int32) (x3 : Int32) (m : Mem) (o4 : Option AV) : Go X (Em X puI) 63 [some (.inr (.inr (7, w))), some (.inl x1), some (.inl x2), some (.inl x3), o4] [.inl s0] m (f_X0_cheapest_j63 w s0 x1 x2 x3 m) := by
  unfold f_X0_cheapest_j63
  refine go_blk h.1 (is := [.istore 4, .iload 4]) (pc' := 67) (ls' := [some (.inr (.inr (7, w))), some (.inl x1), some (.inl x2), some (.inl x3), some (.inl s0)]) (st' := [.inl s0]) (m' := m) (by decide +kernel) rfl ?_
  refine go_ifne h.1 (off := 22) 89 (by decide +kernel) (by decide) (fun c67 => ?_) (fun c67 => ?_)
  · refine go_blk h.1 (is := [.iload_n 3]) (pc' := 90) (ls' := [some (.inr (.inr (7, w))), some (.inl x1), some (.inl x2), some (.inl x3), some (.inl s0)]) (st' := [.inl x3]) (m' := m) (by decide +kernel) rfl ?_
    refine go_goto h.1 (off := 5) 95 (by decide +kernel) (by decide) ?_
    exact go_iret h.1 h.2.2.2.2 (by decide +kernel)
  · refine go_blk h.1 (is := [.iload_n 2, .iconst 3]) (pc' := 72) (ls' := [some (.inr (.inr (7, w))), some (.inl x1), some (.inl x2), some (.inl x3), some (.inl s0)]) (st' := [.inl (3 : Int32), .inl x2]) (m' := m) (by decide +kernel) rfl ?_
    refine go_callN h.1 (index := 127) (n := 2) (as := [.inl x2, .inl (3 : Int32)]) (rest := []) (ctr_X6_mayBe (xl X) (xA X) (xC X) (xI X) (xk X) x2 (3 : Int32) m) (by decide +kernel) wd_n_X0_127 rfl (h.room (by first | decide | omega) (by decide)) h.cl (Nat.le_of_ble_eq_true rfl) puI_ok rfl (fun r72 m72 _ => ?_)
    show Go X (Em X puI) 75 [some (.inr (.inr (7, w))), some (.inl x1), some (.inl x2), some (.inl x3), some (.inl s0)] [.inl r72] m72 _
    refine go_ifeq h.1 (off := 18) 93 (by decide +kernel) (by decide) (fun c75 => ?_) (fun c75 => ?_)
    · refine go_blk h.1 (is := [.ldc 131]) (pc' := 95) (ls' := [some (.inr (.inr (7, w))), some (.inl x1), some (.inl x2), some (.inl x3), some (.inl s0)]) (st' := [.inl (1000000 : Int32)]) (m' := m72) (by decide +kernel) rfl ?_
      exact go_iret h.1 h.2.2.2.2 (by decide +kernel)
    · refine go_blk h.1 (is := [.aload_n 0, .iload_n 1, .iload_n 3]) (pc' := 81) (ls' := [some (.inr (.inr (7, w))), some (.inl x1), some (.inl x2), some (.inl x3), some (.inl s0)]) (st' := [.inl x3, .inl x1, .inr (.inr (7, w))]) (m' := m72) (by decide +kernel) rfl ?_
      refine go_callV h.1 (index := 115) (n := 2) (t := 7) (i := w) (ci := 0) (nf := 14) (cz := (RX0, TX0, 14)) (as := [.inl x1, .inl x3]) (rest := []) (ctr_X0_lenderFor (xl X) (xA X) (xC X) (xI X) (xk X) w x1 x3 m72) (by decide +kernel) rfl rfl wd_v_X0_115 rfl (h.room (by first | decide | omega) (by decide)) h.cl (Nat.le_of_ble_eq_true rfl) puI_ok rfl (fun r81 m81 _ => ?_)
      show Go X (Em X puI) 84 [some (.inr (.inr (7, w))), some (.inl x1), some (.inl x2), some (.inl x3), some (.inl s0)] [.inl r81] m81 _
      refine go_blk h.1 (is := [.bipush (-2)]) (pc' := 86) (ls' := [some (.inr (.inr (7, w))), some (.inl x1), some (.inl x2), some (.inl x3), some (.inl s0)]) (st' := [.inl (-2 : Int32), .inl r81]) (m' := m81) (by decide +kernel) rfl ?_
      refine go_icmpeq h.1 (off := 7) 93 (by decide +kernel) (by decide) (fun c86 => ?_) (fun c86 => ?_)
      · refine go_blk h.1 (is := [.ldc 131]) (pc' := 95) (ls' := [some (.inr (.inr (7, w))), some (.inl x1), some (.inl x2), some (.inl x3), some (.inl s0)]) (st' := [.inl (1000000 : Int32)]) (m' := m81) (by decide +kernel) rfl ?_
        exact go_iret h.1 h.2.2.2.2 (by decide +kernel)
      · refine go_blk h.1 (is := [.iload_n 3]) (pc' := 90) (ls' := [some (.inr (.inr (7, w))), some (.inl x1), some (.inl x2), some (.inl x3), some (.inl s0)]) (st' := [.inl x3]) (m' := m81) (by decide +kernel) rfl ?_
        refine go_goto h.1 (off := 5) 95 (by decide +kernel) (by decide) ?_
        exact go_iret h.1 h.2.2.2.2 (by decide +kernel)

def f_X0_cheapest_j62 (w : Nat) (x1 : Int32) (x2 : Int32) (x3 : Int32) (m : Mem) : Option (Int32 × Mem) :=
  f_X0_cheapest_j63 w (0 : Int32) x1 x2 x3 m
theorem g_X0_cheapest_j62 {X : XT} (h : MX X prog_2_method_15_code P_X0 2 (some .int)) (w : Nat) (x1 : Int32) (x2 : Int32) (x3 : Int32) (m : Mem) (o4 : Option AV) : Go X (Em X puI) 62 [some (.inr (.inr (7, w))), some (.inl x1), some (.inl x2), some (.inl x3), o4] [] m (f_X0_cheapest_j62 w x1 x2 x3 m) := by
  unfold f_X0_cheapest_j62
  refine go_blk h.1 (is := [.iconst 0]) (pc' := 63) (ls' := [some (.inr (.inr (7, w))), some (.inl x1), some (.inl x2), some (.inl x3), o4]) (st' := [.inl (0 : Int32)]) (m' := m) (by decide +kernel) rfl ?_
  exact g_X0_cheapest_j63 h w (0 : Int32) x1 x2 x3 m (o4)

def f_X0_cheapest_j34 (w : Nat) (x1 : Int32) (x2 : Int32) (m : Mem) : Option (Int32 × Mem) :=
  bnd (f_X0_tollOf w x1 m) (fun r36 m36 =>
    bnd (f_X6_mayBe x2 (0 : Int32) m36) (fun r42 m42 =>
      if r42 = 0 then
        f_X0_cheapest_j62 w x1 x2 r36 m42
      else
        if inB x1 5 = true then
          if (m42 10 w (ix x1)) < r36 then
            f_X0_cheapest_j62 w x1 x2 r36 m42
          else
            f_X0_cheapest_j63 w (1 : Int32) x1 x2 r36 m42
        else none))
theorem g_X0_cheapest_j34 {X : XT} (h : MX X prog_2_method_15_code P_X0 2 (some .int)) (w : Nat) (x1 : Int32) (x2 : Int32) (m : Mem) (o3 : Option AV) (o4 : Option AV) : Go X (Em X puI) 34 [some (.inr (.inr (7, w))), some (.inl x1), some (.inl x2), o3, o4] [] m (f_X0_cheapest_j34 w x1 x2 m) := by
  unfold f_X0_cheapest_j34
  refine go_blk h.1 (is := [.aload_n 0, .iload_n 1]) (pc' := 36) (ls' := [some (.inr (.inr (7, w))), some (.inl x1), some (.inl x2), o3, o4]) (st' := [.inl x1, .inr (.inr (7, w))]) (m' := m) (by decide +kernel) rfl ?_
  refine go_callV h.1 (index := 97) (n := 1) (t := 7) (i := w) (ci := 0) (nf := 14) (cz := (RX0, TX0, 14)) (as := [.inl x1]) (rest := []) (ctr_X0_tollOf (xl X) (xA X) (xC X) (xI X) (xk X) w x1 m) (by decide +kernel) rfl rfl wd_v_X0_97 rfl (h.room (by first | decide | omega) (by decide)) h.cl (Nat.le_of_ble_eq_true rfl) puI_ok rfl (fun r36 m36 _ => ?_)
  show Go X (Em X puI) 39 [some (.inr (.inr (7, w))), some (.inl x1), some (.inl x2), o3, o4] [.inl r36] m36 _
  refine go_blk h.1 (is := [.istore_n 3, .iload_n 2, .iconst 0]) (pc' := 42) (ls' := [some (.inr (.inr (7, w))), some (.inl x1), some (.inl x2), some (.inl r36), o4]) (st' := [.inl (0 : Int32), .inl x2]) (m' := m36) (by decide +kernel) rfl ?_
  refine go_callN h.1 (index := 127) (n := 2) (as := [.inl x2, .inl (0 : Int32)]) (rest := []) (ctr_X6_mayBe (xl X) (xA X) (xC X) (xI X) (xk X) x2 (0 : Int32) m36) (by decide +kernel) wd_n_X0_127 rfl (h.room (by first | decide | omega) (by decide)) h.cl (Nat.le_of_ble_eq_true rfl) puI_ok rfl (fun r42 m42 _ => ?_)
  show Go X (Em X puI) 45 [some (.inr (.inr (7, w))), some (.inl x1), some (.inl x2), some (.inl r36), o4] [.inl r42] m42 _
  refine go_ifeq h.1 (off := 17) 62 (by decide +kernel) (by decide) (fun c45 => ?_) (fun c45 => ?_)
  · exact g_X0_cheapest_j62 h w x1 x2 r36 m42 (o4)
  · refine go_blk h.1 (is := [.aload_n 0, .getfield 18, .iload_n 1]) (pc' := 53) (ls' := [some (.inr (.inr (7, w))), some (.inl x1), some (.inl x2), some (.inl r36), o4]) (st' := [.inl x1, .inr (.inr (10, w))]) (m' := m42) (by decide +kernel) rfl ?_
    refine go_iald h.1 (by decide +kernel) rfl rfl (fun b53 => ?_)
    show Go X (Em X puI) 54 [some (.inr (.inr (7, w))), some (.inl x1), some (.inl x2), some (.inl r36), o4] [.inl (m42 10 w (ix x1))] m42 _
    refine go_blk h.1 (is := [.iload_n 3]) (pc' := 55) (ls' := [some (.inr (.inr (7, w))), some (.inl x1), some (.inl x2), some (.inl r36), o4]) (st' := [.inl r36, .inl (m42 10 w (ix x1))]) (m' := m42) (by decide +kernel) rfl ?_
    refine go_icmplt h.1 (off := 7) 62 (by decide +kernel) (by decide) (fun c55 => ?_) (fun c55 => ?_)
    · exact g_X0_cheapest_j62 h w x1 x2 r36 m42 (o4)
    · refine go_blk h.1 (is := [.iconst 1]) (pc' := 59) (ls' := [some (.inr (.inr (7, w))), some (.inl x1), some (.inl x2), some (.inl r36), o4]) (st' := [.inl (1 : Int32)]) (m' := m42) (by decide +kernel) rfl ?_
      refine go_goto h.1 (off := 4) 63 (by decide +kernel) (by decide) ?_
      exact g_X0_cheapest_j63 h w (1 : Int32) x1 x2 r36 m42 (o4)

def f_X0_cheapest_j16 (w : Nat) (x1 : Int32) (x2 : Int32) (m : Mem) : Option (Int32 × Mem) :=
  bnd (f_X6_mayBe x2 (2 : Int32) m) (fun r18 m18 =>
    if r18 = 0 then
      f_X0_cheapest_j34 w x1 x2 m18
    else
      bnd (f_X0_hasSecret w x1 m18) (fun r26 m26 =>
        if r26 = 0 then
          f_X0_cheapest_j34 w x1 x2 m26
        else
          some ((0 : Int32), m26)))
theorem g_X0_cheapest_j16 {X : XT} (h : MX X prog_2_method_15_code P_X0 2 (some .int)) (w : Nat) (x1 : Int32) (x2 : Int32) (m : Mem) (o3 : Option AV) (o4 : Option AV) : Go X (Em X puI) 16 [some (.inr (.inr (7, w))), some (.inl x1), some (.inl x2), o3, o4] [] m (f_X0_cheapest_j16 w x1 x2 m) := by
  unfold f_X0_cheapest_j16
  refine go_blk h.1 (is := [.iload_n 2, .iconst 2]) (pc' := 18) (ls' := [some (.inr (.inr (7, w))), some (.inl x1), some (.inl x2), o3, o4]) (st' := [.inl (2 : Int32), .inl x2]) (m' := m) (by decide +kernel) rfl ?_
  refine go_callN h.1 (index := 127) (n := 2) (as := [.inl x2, .inl (2 : Int32)]) (rest := []) (ctr_X6_mayBe (xl X) (xA X) (xC X) (xI X) (xk X) x2 (2 : Int32) m) (by decide +kernel) wd_n_X0_127 rfl (h.room (by first | decide | omega) (by decide)) h.cl (Nat.le_of_ble_eq_true rfl) puI_ok rfl (fun r18 m18 _ => ?_)
  show Go X (Em X puI) 21 [some (.inr (.inr (7, w))), some (.inl x1), some (.inl x2), o3, o4] [.inl r18] m18 _
  refine go_ifeq h.1 (off := 13) 34 (by decide +kernel) (by decide) (fun c21 => ?_) (fun c21 => ?_)
  · exact g_X0_cheapest_j34 h w x1 x2 m18 (o3) (o4)
  · refine go_blk h.1 (is := [.aload_n 0, .iload_n 1]) (pc' := 26) (ls' := [some (.inr (.inr (7, w))), some (.inl x1), some (.inl x2), o3, o4]) (st' := [.inl x1, .inr (.inr (7, w))]) (m' := m18) (by decide +kernel) rfl ?_
    refine go_callV h.1 (index := 112) (n := 1) (t := 7) (i := w) (ci := 0) (nf := 14) (cz := (RX0, TX0, 14)) (as := [.inl x1]) (rest := []) (ctr_X0_hasSecret (xl X) (xA X) (xC X) (xI X) (xk X) w x1 m18) (by decide +kernel) rfl rfl wd_v_X0_112 rfl (h.room (by first | decide | omega) (by decide)) h.cl (Nat.le_of_ble_eq_true rfl) puI_ok rfl (fun r26 m26 _ => ?_)
    show Go X (Em X puI) 29 [some (.inr (.inr (7, w))), some (.inl x1), some (.inl x2), o3, o4] [.inl r26] m26 _
    refine go_ifeq h.1 (off := 5) 34 (by decide +kernel) (by decide) (fun c29 => ?_) (fun c29 => ?_)
    · exact g_X0_cheapest_j34 h w x1 x2 m26 (o3) (o4)
    · refine go_blk h.1 (is := [.iconst 0]) (pc' := 33) (ls' := [some (.inr (.inr (7, w))), some (.inl x1), some (.inl x2), o3, o4]) (st' := [.inl (0 : Int32)]) (m' := m26) (by decide +kernel) rfl ?_
      exact go_iret h.1 h.2.2.2.2 (by decide +kernel)

def f_X0_cheapest (w : Nat) (x1 : Int32) (x2 : Int32) (m : Mem) : Option (Int32 × Mem) :=
  bnd (f_X6_mayBe x2 (1 : Int32) m) (fun r2 m2 =>
    if r2 = 0 then
      f_X0_cheapest_j16 w x1 x2 m2
    else
      bnd (f_X0_hasNewSong w x1 m2) (fun r10 m10 =>
        if r10 = 0 then
          f_X0_cheapest_j16 w x1 x2 m10
        else
          some ((0 : Int32), m10)))
theorem g_X0_cheapest {X : XT} (h : MX X prog_2_method_15_code P_X0 2 (some .int)) (w : Nat) (x1 : Int32) (x2 : Int32) (m : Mem) : Go X (Em X puI) 0 [some (.inr (.inr (7, w))), some (.inl x1), some (.inl x2), none, none] [] m (f_X0_cheapest w x1 x2 m) := by
  unfold f_X0_cheapest
  refine go_blk h.1 (is := [.iload_n 2, .iconst 1]) (pc' := 2) (ls' := [some (.inr (.inr (7, w))), some (.inl x1), some (.inl x2), none, none]) (st' := [.inl (1 : Int32), .inl x2]) (m' := m) (by decide +kernel) rfl ?_
  refine go_callN h.1 (index := 127) (n := 2) (as := [.inl x2, .inl (1 : Int32)]) (rest := []) (ctr_X6_mayBe (xl X) (xA X) (xC X) (xI X) (xk X) x2 (1 : Int32) m) (by decide +kernel) wd_n_X0_127 rfl (h.room (by first | decide | omega) (by decide)) h.cl (Nat.le_of_ble_eq_true rfl) puI_ok rfl (fun r2 m2 _ => ?_)
  show Go X (Em X puI) 5 [some (.inr (.inr (7, w))), some (.inl x1), some (.inl x2), none, none] [.inl r2] m2 _
  refine go_ifeq h.1 (off := 11) 16 (by decide +kernel) (by decide) (fun c5 => ?_) (fun c5 => ?_)
  · exact g_X0_cheapest_j16 h w x1 x2 m2 (none) (none)
  · refine go_blk h.1 (is := [.aload_n 0, .iload_n 1]) (pc' := 10) (ls' := [some (.inr (.inr (7, w))), some (.inl x1), some (.inl x2), none, none]) (st' := [.inl x1, .inr (.inr (7, w))]) (m' := m2) (by decide +kernel) rfl ?_
    refine go_callV h.1 (index := 108) (n := 1) (t := 7) (i := w) (ci := 0) (nf := 14) (cz := (RX0, TX0, 14)) (as := [.inl x1]) (rest := []) (ctr_X0_hasNewSong (xl X) (xA X) (xC X) (xI X) (xk X) w x1 m2) (by decide +kernel) rfl rfl wd_v_X0_108 rfl (h.room (by first | decide | omega) (by decide)) h.cl (Nat.le_of_ble_eq_true rfl) puI_ok rfl (fun r10 m10 _ => ?_)
    show Go X (Em X puI) 13 [some (.inr (.inr (7, w))), some (.inl x1), some (.inl x2), none, none] [.inl r10] m10 _
    refine go_ifne h.1 (off := 19) 32 (by decide +kernel) (by decide) (fun c13 => ?_) (fun c13 => ?_)
    · refine go_blk h.1 (is := [.iconst 0]) (pc' := 33) (ls' := [some (.inr (.inr (7, w))), some (.inl x1), some (.inl x2), none, none]) (st' := [.inl (0 : Int32)]) (m' := m10) (by decide +kernel) rfl ?_
      exact go_iret h.1 h.2.2.2.2 (by decide +kernel)
    · exact g_X0_cheapest_j16 h w x1 x2 m10 (none) (none)
theorem ctr_X0_cheapest (l : Launch) (A : AR → Nat) (dC : Nat → ClassId) (dI : Nat → Nat → Nat) (cs : Nat → ClassId) (w : Nat) (x1 : Int32) (x2 : Int32) (m : Mem) : Ctr l A dC dI cs yX0_cheapest prog_2_method_15_code 5 (some .int) 2 puI [.inr (.inr (7, w)), .inl x1, .inl x2] m (f_X0_cheapest w x1 x2 m) :=
  ctr_of (P := P_X0) (by decide +kernel) rfl pt_X0 rfl rfl (fun X hC _ _ _ _ _ hR h0 h1 hr => g_X0_cheapest ⟨hC, hR, h0, h1, hr⟩ w x1 x2 m)

def f_X0_stillDue_j29 (w : Nat) (next : Int32 × Int32 × Mem → Option (Int32 × Mem)) (exit : Int32 × Mem → Option (Int32 × Mem)) (x1 : Int32) (x2 : Int32) (x3 : Int32) (m : Mem) : Option (Int32 × Mem) :=
  next (x2, (x3 + (1 : Int32)), m)
theorem g_X0_stillDue_j29 {X : XT} (h : MX X prog_2_method_14_code P_X0 3 (some .int)) (w : Nat) (next : Int32 × Int32 × Mem → Option (Int32 × Mem)) (exit : Int32 × Mem → Option (Int32 × Mem)) (x1 : Int32) (x2 : Int32) (x3 : Int32) (m : Mem) (hn : ∀ (y2 : Int32) (y3 : Int32) (n : Mem), Go X (Em X puI) 4 [some (.inr (.inr (7, w))), some (.inl x1), some (.inl y2), some (.inl y3)] [] n (next (y2, y3, n))) (hx : ∀ (y2 : Int32) (n : Mem) (o0 : Option AV) (o1 : Option AV) (o3 : Option AV), Go X (Em X puI) 35 [o0, o1, some (.inl y2), o3] [] n (exit (y2, n))) : Go X (Em X puI) 29 [some (.inr (.inr (7, w))), some (.inl x1), some (.inl x2), some (.inl x3)] [] m (f_X0_stillDue_j29 w next exit x1 x2 x3 m) := by
  unfold f_X0_stillDue_j29
  refine go_blk h.1 (is := [.iinc 3 1]) (pc' := 32) (ls' := [some (.inr (.inr (7, w))), some (.inl x1), some (.inl x2), some (.inl (x3 + (1 : Int32)))]) (st' := []) (m' := m) (by decide +kernel) rfl ?_
  refine go_goto h.1 (off := -28) 4 (by decide +kernel) (by decide) ?_
  exact hn x2 (x3 + (1 : Int32)) m

def f_X0_stillDue_b4 (w : Nat) (x1 : Int32) (next : Int32 × Int32 × Mem → Option (Int32 × Mem)) (exit : Int32 × Mem → Option (Int32 × Mem)) (s : Int32 × Int32 × Mem) : Option (Int32 × Mem) :=
  if (s.2.2 7 w 8) ≤ s.2.1 then
    exit (s.1, s.2.2)
  else
    bnd (f_X0_isBelow w s.2.1 s.2.2) (fun r14 m14 =>
      if r14 = 0 then
        f_X0_stillDue_j29 w next exit x1 s.1 s.2.1 m14
      else
        bnd (f_X0_cheapest w s.2.1 x1 m14) (fun r24 m24 =>
          f_X0_stillDue_j29 w next exit x1 (s.1 + r24) s.2.1 m24))
theorem g_X0_stillDue_b4 {X : XT} (h : MX X prog_2_method_14_code P_X0 3 (some .int)) (w : Nat) (x1 : Int32) (next : Int32 × Int32 × Mem → Option (Int32 × Mem)) (exit : Int32 × Mem → Option (Int32 × Mem)) (hn : ∀ (y2 : Int32) (y3 : Int32) (n : Mem), Go X (Em X puI) 4 [some (.inr (.inr (7, w))), some (.inl x1), some (.inl y2), some (.inl y3)] [] n (next (y2, y3, n))) (hx : ∀ (y2 : Int32) (n : Mem) (o0 : Option AV) (o1 : Option AV) (o3 : Option AV), Go X (Em X puI) 35 [o0, o1, some (.inl y2), o3] [] n (exit (y2, n))) (s : Int32 × Int32 × Mem) : Go X (Em X puI) 4 [some (.inr (.inr (7, w))), some (.inl x1), some (.inl s.1), some (.inl s.2.1)] [] s.2.2 (f_X0_stillDue_b4 w x1 next exit s) := by
  unfold f_X0_stillDue_b4
  refine go_blk h.1 (is := [.iload_n 3, .aload_n 0, .getfield 44]) (pc' := 9) (ls' := [some (.inr (.inr (7, w))), some (.inl x1), some (.inl s.1), some (.inl s.2.1)]) (st' := [.inl (s.2.2 7 w 8), .inl s.2.1]) (m' := s.2.2) (by decide +kernel) rfl ?_
  refine go_icmpge h.1 (off := 26) 35 (by decide +kernel) (by decide) (fun c9 => ?_) (fun c9 => ?_)
  · exact hx s.1 s.2.2 (some (.inr (.inr (7, w)))) (some (.inl x1)) (some (.inl s.2.1))
  · refine go_blk h.1 (is := [.aload_n 0, .iload_n 3]) (pc' := 14) (ls' := [some (.inr (.inr (7, w))), some (.inl x1), some (.inl s.1), some (.inl s.2.1)]) (st' := [.inl s.2.1, .inr (.inr (7, w))]) (m' := s.2.2) (by decide +kernel) rfl ?_
    refine go_callV h.1 (index := 121) (n := 1) (t := 7) (i := w) (ci := 0) (nf := 14) (cz := (RX0, TX0, 14)) (as := [.inl s.2.1]) (rest := []) (ctr_X0_isBelow (xl X) (xA X) (xC X) (xI X) (xk X) w s.2.1 s.2.2) (by decide +kernel) rfl rfl wd_v_X0_121 rfl (h.room (by first | decide | omega) (by decide)) h.cl (Nat.le_of_ble_eq_true rfl) puI_ok rfl (fun r14 m14 _ => ?_)
    show Go X (Em X puI) 17 [some (.inr (.inr (7, w))), some (.inl x1), some (.inl s.1), some (.inl s.2.1)] [.inl r14] m14 _
    refine go_ifeq h.1 (off := 12) 29 (by decide +kernel) (by decide) (fun c17 => ?_) (fun c17 => ?_)
    · exact g_X0_stillDue_j29 h w next exit x1 s.1 s.2.1 m14 hn hx
    · refine go_blk h.1 (is := [.iload_n 2, .aload_n 0, .iload_n 3, .iload_n 1]) (pc' := 24) (ls' := [some (.inr (.inr (7, w))), some (.inl x1), some (.inl s.1), some (.inl s.2.1)]) (st' := [.inl x1, .inl s.2.1, .inr (.inr (7, w)), .inl s.1]) (m' := m14) (by decide +kernel) rfl ?_
      refine go_callV h.1 (index := 124) (n := 2) (t := 7) (i := w) (ci := 0) (nf := 14) (cz := (RX0, TX0, 14)) (as := [.inl s.2.1, .inl x1]) (rest := [.inl s.1]) (ctr_X0_cheapest (xl X) (xA X) (xC X) (xI X) (xk X) w s.2.1 x1 m14) (by decide +kernel) rfl rfl wd_v_X0_124 rfl (h.room (by first | decide | omega) (by decide)) h.cl (Nat.le_of_ble_eq_true rfl) puI_ok rfl (fun r24 m24 _ => ?_)
      show Go X (Em X puI) 27 [some (.inr (.inr (7, w))), some (.inl x1), some (.inl s.1), some (.inl s.2.1)] [.inl r24, .inl s.1] m24 _
      refine go_blk h.1 (is := [.iadd, .istore_n 2]) (pc' := 29) (ls' := [some (.inr (.inr (7, w))), some (.inl x1), some (.inl (s.1 + r24)), some (.inl s.2.1)]) (st' := []) (m' := m24) (by decide +kernel) rfl ?_
      exact g_X0_stillDue_j29 h w next exit x1 (s.1 + r24) s.2.1 m24 hn hx

def f_X0_stillDue (w : Nat) (x1 : Int32) (m : Mem) : Option (Int32 × Mem) :=
  lpk (f_X0_stillDue_b4 w x1) fuelN ((0 : Int32), (0 : Int32), m) (fun t4 =>
    some (t4.1, t4.2))
theorem g_X0_stillDue {X : XT} (h : MX X prog_2_method_14_code P_X0 3 (some .int)) (w : Nat) (x1 : Int32) (m : Mem) : Go X (Em X puI) 0 [some (.inr (.inr (7, w))), some (.inl x1), none, none] [] m (f_X0_stillDue w x1 m) := by
  unfold f_X0_stillDue
  refine go_blk h.1 (is := [.iconst 0, .istore_n 2, .iconst 0, .istore_n 3]) (pc' := 4) (ls' := [some (.inr (.inr (7, w))), some (.inl x1), some (.inl (0 : Int32)), some (.inl (0 : Int32))]) (st' := []) (m' := m) (by decide +kernel) rfl ?_
  refine go_lp2 (hd := fun (y2 : Int32) (y3 : Int32) (n : Mem) o => Go X (Em X puI) 4 [some (.inr (.inr (7, w))), some (.inl x1), some (.inl y2), some (.inl y3)] [] n o) (fun _ _ _ => go_none) (fun y2 y3 n nx_ hn_ => g_X0_stillDue_b4 h w x1 nx_ _ hn_ (fun z2_4 z_4 o0_4 o1_4 o3_4 => ?_) (y2, y3, n)) fuelN (0 : Int32) (0 : Int32) m
  refine go_blk h.1 (is := [.iload_n 2]) (pc' := 36) (ls' := [o0_4, o1_4, some (.inl z2_4), o3_4]) (st' := [.inl z2_4]) (m' := z_4) (by decide +kernel) rfl ?_
  exact go_iret h.1 h.2.2.2.2 (by decide +kernel)
theorem ctr_X0_stillDue (l : Launch) (A : AR → Nat) (dC : Nat → ClassId) (dI : Nat → Nat → Nat) (cs : Nat → ClassId) (w : Nat) (x1 : Int32) (m : Mem) : Ctr l A dC dI cs yX0_stillDue prog_2_method_14_code 4 (some .int) 3 puI [.inr (.inr (7, w)), .inl x1] m (f_X0_stillDue w x1 m) :=
  ctr_of (P := P_X0) (by decide +kernel) rfl pt_X0 rfl rfl (fun X hC _ _ _ _ _ hR h0 h1 hr => g_X0_stillDue ⟨hC, hR, h0, h1, hr⟩ w x1 m)

def f_X0_unpass (w : Nat) (x1 : Int32) (x2 : Int32) (x3 : Int32) (m : Mem) : Option (Unit × Mem) :=
  if x3 = (-1 : Int32) then
    bnd (f_X0_turnWord w x1 x2 (mset m 7 w 12 ((m 7 w 12) ^^^ ((1 : Int32) <<< (x1 &&& 31))))) (fun _ m35 =>
      some ((), m35))
  else
    bnd (f_X0_tollOf w x1 (mset m 7 w 12 ((m 7 w 12) ^^^ ((1 : Int32) <<< (x1 &&& 31))))) (fun r22 m22 =>
      bnd (f_X0_pay w x1 x3 (-r22) m22) (fun _ m26 =>
        some ((), m26)))
theorem g_X0_unpass {X : XT} (h : MX X prog_2_method_5_code P_X0 2 none) (w : Nat) (x1 : Int32) (x2 : Int32) (x3 : Int32) (m : Mem) : Go X (Em X puV) 0 [some (.inr (.inr (7, w))), some (.inl x1), some (.inl x2), some (.inl x3)] [] m (f_X0_unpass w x1 x2 x3 m) := by
  unfold f_X0_unpass
  refine go_blk h.1 (is := [.aload_n 0, .dup, .getfield 56, .iconst 1, .iload_n 1, .ishl, .ixor, .putfield 56, .iload_n 3, .iconst (-1)]) (pc' := 14) (ls' := [some (.inr (.inr (7, w))), some (.inl x1), some (.inl x2), some (.inl x3)]) (st' := [.inl (-1 : Int32), .inl x3]) (m' := (mset m 7 w 12 ((m 7 w 12) ^^^ ((1 : Int32) <<< (x1 &&& 31))))) (by decide +kernel) rfl ?_
  refine go_icmpeq h.1 (off := 18) 32 (by decide +kernel) (by decide) (fun c14 => ?_) (fun c14 => ?_)
  · refine go_blk h.1 (is := [.aload_n 0, .iload_n 1, .iload_n 2]) (pc' := 35) (ls' := [some (.inr (.inr (7, w))), some (.inl x1), some (.inl x2), some (.inl x3)]) (st' := [.inl x2, .inl x1, .inr (.inr (7, w))]) (m' := (mset m 7 w 12 ((m 7 w 12) ^^^ ((1 : Int32) <<< (x1 &&& 31))))) (by decide +kernel) rfl ?_
    refine go_callV h.1 (index := 104) (n := 2) (t := 7) (i := w) (ci := 0) (nf := 14) (cz := (RX0, TX0, 14)) (as := [.inl x1, .inl x2]) (rest := []) (ctr_X0_turnWord (xl X) (xA X) (xC X) (xI X) (xk X) w x1 x2 (mset m 7 w 12 ((m 7 w 12) ^^^ ((1 : Int32) <<< (x1 &&& 31))))) (by decide +kernel) rfl rfl wd_v_X0_104 rfl (h.room (by first | decide | omega) (by decide)) h.cl (Nat.le_of_ble_eq_true rfl) puV_ok rfl (fun r35 m35 _ => ?_)
    show Go X (Em X puV) 38 [some (.inr (.inr (7, w))), some (.inl x1), some (.inl x2), some (.inl x3)] [] m35 _
    exact go_vret h.1 h.2.2.2.2 (by decide +kernel)
  · refine go_blk h.1 (is := [.aload_n 0, .iload_n 1, .iload_n 3, .aload_n 0, .iload_n 1]) (pc' := 22) (ls' := [some (.inr (.inr (7, w))), some (.inl x1), some (.inl x2), some (.inl x3)]) (st' := [.inl x1, .inr (.inr (7, w)), .inl x3, .inl x1, .inr (.inr (7, w))]) (m' := (mset m 7 w 12 ((m 7 w 12) ^^^ ((1 : Int32) <<< (x1 &&& 31))))) (by decide +kernel) rfl ?_
    refine go_callV h.1 (index := 97) (n := 1) (t := 7) (i := w) (ci := 0) (nf := 14) (cz := (RX0, TX0, 14)) (as := [.inl x1]) (rest := [.inl x3, .inl x1, .inr (.inr (7, w))]) (ctr_X0_tollOf (xl X) (xA X) (xC X) (xI X) (xk X) w x1 (mset m 7 w 12 ((m 7 w 12) ^^^ ((1 : Int32) <<< (x1 &&& 31))))) (by decide +kernel) rfl rfl wd_v_X0_97 rfl (h.room (by first | decide | omega) (by decide)) h.cl (Nat.le_of_ble_eq_true rfl) puI_ok rfl (fun r22 m22 _ => ?_)
    show Go X (Em X puV) 25 [some (.inr (.inr (7, w))), some (.inl x1), some (.inl x2), some (.inl x3)] [.inl r22, .inl x3, .inl x1, .inr (.inr (7, w))] m22 _
    refine go_blk h.1 (is := [.ineg]) (pc' := 26) (ls' := [some (.inr (.inr (7, w))), some (.inl x1), some (.inl x2), some (.inl x3)]) (st' := [.inl (-r22), .inl x3, .inl x1, .inr (.inr (7, w))]) (m' := m22) (by decide +kernel) rfl ?_
    refine go_callV h.1 (index := 100) (n := 3) (t := 7) (i := w) (ci := 0) (nf := 14) (cz := (RX0, TX0, 14)) (as := [.inl x1, .inl x3, .inl (-r22)]) (rest := []) (ctr_X0_pay (xl X) (xA X) (xC X) (xI X) (xk X) w x1 x3 (-r22) m22) (by decide +kernel) rfl rfl wd_v_X0_100 rfl (h.room (by first | decide | omega) (by decide)) h.cl (Nat.le_of_ble_eq_true rfl) puV_ok rfl (fun r26 m26 _ => ?_)
    show Go X (Em X puV) 29 [some (.inr (.inr (7, w))), some (.inl x1), some (.inl x2), some (.inl x3)] [] m26 _
    refine go_goto h.1 (off := 9) 38 (by decide +kernel) (by decide) ?_
    exact go_vret h.1 h.2.2.2.2 (by decide +kernel)
theorem ctr_X0_unpass (l : Launch) (A : AR → Nat) (dC : Nat → ClassId) (dI : Nat → Nat → Nat) (cs : Nat → ClassId) (w : Nat) (x1 : Int32) (x2 : Int32) (x3 : Int32) (m : Mem) : Ctr l A dC dI cs yX0_unpass prog_2_method_5_code 4 none 2 puV [.inr (.inr (7, w)), .inl x1, .inl x2, .inl x3] m (f_X0_unpass w x1 x2 x3 m) :=
  ctr_of (P := P_X0) (by decide +kernel) rfl pt_X0 rfl rfl (fun X hC _ _ _ _ _ hR h0 h1 hr => g_X0_unpass ⟨hC, hR, h0, h1, hr⟩ w x1 x2 x3 m)

def f_X3_goOn_j39 (rec : Int32 → Mem → Option (Unit × Mem)) (m : Mem) : Option (Unit × Mem) :=
  if cpOk (0 : Int32) (0 : Int32) (5 : Int32) 5 5 = true then
    some ((), (mcopy (mset m 17 0 4 (m 7 1 13)) 18 0 19 0 (ix (0 : Int32)) (ix (0 : Int32)) (ix (5 : Int32))))
  else none
theorem g_X3_goOn_j39 {X : XT} {d : Nat} (hd0 : 4 ≤ d) (h : MX X prog_5_method_4_code P_X3 (d + 1) none) (rec : Int32 → Mem → Option (Unit × Mem)) (hrec : ∀ (l : Launch) (A : AR → Nat) (dC : Nat → ClassId) (dI : Nat → Nat → Nat) (cs : Nat → ClassId) (x1 : Int32) (m : Mem), Ctr l A dC dI cs yX3_goOn prog_5_method_4_code 6 none d puV [.inr (.inr (17, 0)), .inl x1] m (rec x1 m)) (m : Mem) (o1 : Option AV) (o3 : Option AV) (o4 : Option AV) (o5 : Option AV) : Go X (Em X puV) 39 [some (.inr (.inr (17, 0))), o1, some (.inr (.inr (7, 1))), o3, o4, o5] [] m (f_X3_goOn_j39 rec m) := by
  unfold f_X3_goOn_j39
  refine go_blk h.1 (is := [.aload_n 0, .aload_n 2, .getfield 41, .putfield 30, .aload_n 0, .getfield 18, .iconst 0, .aload_n 0, .getfield 22, .iconst 0, .iconst 5]) (pc' := 58) (ls' := [some (.inr (.inr (17, 0))), o1, some (.inr (.inr (7, 1))), o3, o4, o5]) (st' := [.inl (5 : Int32), .inl (0 : Int32), .inr (.inr (19, 0)), .inl (0 : Int32), .inr (.inr (18, 0))]) (m' := (mset m 17 0 4 (m 7 1 13))) (by decide +kernel) rfl ?_
  refine go_acopy h (index := 51) (by first | decide | omega) (by decide +kernel) wd_ml_X3_51 wd_na_copy wd_st_copy wd_in_System (Nat.le_of_ble_eq_true rfl) rfl rfl rfl rfl (fun b58 => ?_)
  exact go_vret h.1 h.2.2.2.2 (by decide +kernel)

def f_X3_goOn_j151 (rec : Int32 → Mem → Option (Unit × Mem)) (next : Int32 × Mem → Option (Unit × Mem)) (exit : Mem → Option (Unit × Mem)) (x1 : Int32) (x3 : Int32) (x4 : Int32) (m : Mem) : Option (Unit × Mem) :=
  next ((x4 + (1 : Int32)), m)
theorem g_X3_goOn_j151 {X : XT} {d : Nat} (hd0 : 4 ≤ d) (h : MX X prog_5_method_4_code P_X3 (d + 1) none) (rec : Int32 → Mem → Option (Unit × Mem)) (hrec : ∀ (l : Launch) (A : AR → Nat) (dC : Nat → ClassId) (dI : Nat → Nat → Nat) (cs : Nat → ClassId) (x1 : Int32) (m : Mem), Ctr l A dC dI cs yX3_goOn prog_5_method_4_code 6 none d puV [.inr (.inr (17, 0)), .inl x1] m (rec x1 m)) (next : Int32 × Mem → Option (Unit × Mem)) (exit : Mem → Option (Unit × Mem)) (x1 : Int32) (x3 : Int32) (x4 : Int32) (m : Mem) (o5 : Option AV) (hn : ∀ (y4 : Int32) (n : Mem) (o5 : Option AV), Go X (Em X puV) 75 [some (.inr (.inr (17, 0))), some (.inl x1), some (.inr (.inr (7, 1))), some (.inl x3), some (.inl y4), o5] [] n (next (y4, n))) (hx : ∀ (n : Mem) (o4 : Option AV) (o5 : Option AV), Go X (Em X puV) 157 [some (.inr (.inr (17, 0))), some (.inl x1), some (.inr (.inr (7, 1))), some (.inl x3), o4, o5] [] n (exit (n))) : Go X (Em X puV) 151 [some (.inr (.inr (17, 0))), some (.inl x1), some (.inr (.inr (7, 1))), some (.inl x3), some (.inl x4), o5] [] m (f_X3_goOn_j151 rec next exit x1 x3 x4 m) := by
  unfold f_X3_goOn_j151
  refine go_blk h.1 (is := [.iinc 4 1]) (pc' := 154) (ls' := [some (.inr (.inr (17, 0))), some (.inl x1), some (.inr (.inr (7, 1))), some (.inl x3), some (.inl (x4 + (1 : Int32))), o5]) (st' := []) (m' := m) (by decide +kernel) rfl ?_
  refine go_goto h.1 (off := -79) 75 (by decide +kernel) (by decide) ?_
  exact hn (x4 + (1 : Int32)) m (o5)

def f_X3_goOn_j113 (rec : Int32 → Mem → Option (Unit × Mem)) (next : Int32 × Mem → Option (Unit × Mem)) (exit : Mem → Option (Unit × Mem)) (s0 : Int32) (x1 : Int32) (x3 : Int32) (x4 : Int32) (m : Mem) : Option (Unit × Mem) :=
  if s0 = (-2 : Int32) then
    f_X3_goOn_j151 rec next exit x1 x3 x4 m
  else
    if inB x1 5 = true then
      bnd (rec (x1 + (1 : Int32)) (mset m 18 0 (ix x1) (((10 : Int32) * x3) + x4))) (fun _ m139 =>
        bnd (f_X0_unpass 1 x3 x4 s0 m139) (fun _ m148 =>
          f_X3_goOn_j151 rec next exit x1 x3 x4 m148))
    else none
theorem g_X3_goOn_j113 {X : XT} {d : Nat} (hd0 : 4 ≤ d) (h : MX X prog_5_method_4_code P_X3 (d + 1) none) (rec : Int32 → Mem → Option (Unit × Mem)) (hrec : ∀ (l : Launch) (A : AR → Nat) (dC : Nat → ClassId) (dI : Nat → Nat → Nat) (cs : Nat → ClassId) (x1 : Int32) (m : Mem), Ctr l A dC dI cs yX3_goOn prog_5_method_4_code 6 none d puV [.inr (.inr (17, 0)), .inl x1] m (rec x1 m)) (next : Int32 × Mem → Option (Unit × Mem)) (exit : Mem → Option (Unit × Mem)) (s0 : Int32) (x1 : Int32) (x3 : Int32) (x4 : Int32) (m : Mem) (o5 : Option AV) (hn : ∀ (y4 : Int32) (n : Mem) (o5 : Option AV), Go X (Em X puV) 75 [some (.inr (.inr (17, 0))), some (.inl x1), some (.inr (.inr (7, 1))), some (.inl x3), some (.inl y4), o5] [] n (next (y4, n))) (hx : ∀ (n : Mem) (o4 : Option AV) (o5 : Option AV), Go X (Em X puV) 157 [some (.inr (.inr (17, 0))), some (.inl x1), some (.inr (.inr (7, 1))), some (.inl x3), o4, o5] [] n (exit (n))) : Go X (Em X puV) 113 [some (.inr (.inr (17, 0))), some (.inl x1), some (.inr (.inr (7, 1))), some (.inl x3), some (.inl x4), o5] [.inl s0] m (f_X3_goOn_j113 rec next exit s0 x1 x3 x4 m) := by
  unfold f_X3_goOn_j113
  refine go_blk h.1 (is := [.istore 5, .iload 5, .bipush (-2)]) (pc' := 119) (ls' := [some (.inr (.inr (17, 0))), some (.inl x1), some (.inr (.inr (7, 1))), some (.inl x3), some (.inl x4), some (.inl s0)]) (st' := [.inl (-2 : Int32), .inl s0]) (m' := m) (by decide +kernel) rfl ?_
  refine go_icmpeq h.1 (off := 32) 151 (by decide +kernel) (by decide) (fun c119 => ?_) (fun c119 => ?_)
  · exact g_X3_goOn_j151 hd0 h rec hrec next exit x1 x3 x4 m (some (.inl s0)) hn hx
  · refine go_blk h.1 (is := [.aload_n 0, .getfield 18, .iload_n 1, .bipush 10, .iload_n 3, .imul, .iload 4, .iadd]) (pc' := 134) (ls' := [some (.inr (.inr (17, 0))), some (.inl x1), some (.inr (.inr (7, 1))), some (.inl x3), some (.inl x4), some (.inl s0)]) (st' := [.inl (((10 : Int32) * x3) + x4), .inl x1, .inr (.inr (18, 0))]) (m' := m) (by decide +kernel) rfl ?_
    refine go_iast h.1 (by decide +kernel) rfl rfl (fun b134 => ?_)
    refine go_blk h.1 (is := [.aload_n 0, .iload_n 1, .iconst 1, .iadd]) (pc' := 139) (ls' := [some (.inr (.inr (17, 0))), some (.inl x1), some (.inr (.inr (7, 1))), some (.inl x3), some (.inl x4), some (.inl s0)]) (st' := [.inl (x1 + (1 : Int32)), .inr (.inr (17, 0))]) (m' := (mset m 18 0 (ix x1) (((10 : Int32) * x3) + x4))) (by decide +kernel) rfl ?_
    refine go_callS h.1 (index := 37) (n := 2) (as := [.inr (.inr (17, 0)), .inl (x1 + (1 : Int32))]) (rest := []) (hrec (xl X) (xA X) (xC X) (xI X) (xk X) (x1 + (1 : Int32)) (mset m 18 0 (ix x1) (((10 : Int32) * x3) + x4))) (by decide +kernel) wd_s_X3_37 rfl (h.room (by first | decide | omega) (by decide)) h.cl (Nat.le_of_ble_eq_true rfl) puV_ok rfl (fun r139 m139 _ => ?_)
    show Go X (Em X puV) 142 [some (.inr (.inr (17, 0))), some (.inl x1), some (.inr (.inr (7, 1))), some (.inl x3), some (.inl x4), some (.inl s0)] [] m139 _
    refine go_blk h.1 (is := [.aload_n 2, .iload_n 3, .iload 4, .iload 5]) (pc' := 148) (ls' := [some (.inr (.inr (17, 0))), some (.inl x1), some (.inr (.inr (7, 1))), some (.inl x3), some (.inl x4), some (.inl s0)]) (st' := [.inl s0, .inl x4, .inl x3, .inr (.inr (7, 1))]) (m' := m139) (by decide +kernel) rfl ?_
    refine go_callV h.1 (index := 69) (n := 3) (t := 7) (i := 1) (ci := 0) (nf := 14) (cz := (RX0, TX0, 14)) (as := [.inl x3, .inl x4, .inl s0]) (rest := []) (ctr_X0_unpass (xl X) (xA X) (xC X) (xI X) (xk X) 1 x3 x4 s0 m139) (by decide +kernel) rfl rfl wd_v_X3_69 rfl (h.room (by first | decide | omega) (by decide)) h.cl (Nat.le_of_ble_eq_true rfl) puV_ok rfl (fun r148 m148 _ => ?_)
    show Go X (Em X puV) 151 [some (.inr (.inr (17, 0))), some (.inl x1), some (.inr (.inr (7, 1))), some (.inl x3), some (.inl x4), some (.inl s0)] [] m148 _
    exact g_X3_goOn_j151 hd0 h rec hrec next exit x1 x3 x4 m148 (some (.inl s0)) hn hx

def f_X3_goOn_b75 (rec : Int32 → Mem → Option (Unit × Mem)) (x1 : Int32) (x3 : Int32) (next : Int32 × Mem → Option (Unit × Mem)) (exit : Mem → Option (Unit × Mem)) (s : Int32 × Mem) : Option (Unit × Mem) :=
  if (3 : Int32) < s.1 then
    exit (s.2)
  else
    bnd (f_X0_isBelow 1 x3 s.2) (fun r83 m83 =>
      if r83 = 0 then
        exit (m83)
      else
        bnd (f_X6_mayBe (m83 17 0 3) s.1 m83) (fun r95 m95 =>
          if r95 = 0 then
            f_X3_goOn_j113 rec next exit (-2 : Int32) x1 x3 s.1 m95
          else
            bnd (f_X0_pass 1 x3 s.1 m95) (fun r105 m105 =>
              f_X3_goOn_j113 rec next exit r105 x1 x3 s.1 m105)))
theorem g_X3_goOn_b75 {X : XT} {d : Nat} (hd0 : 4 ≤ d) (h : MX X prog_5_method_4_code P_X3 (d + 1) none) (rec : Int32 → Mem → Option (Unit × Mem)) (hrec : ∀ (l : Launch) (A : AR → Nat) (dC : Nat → ClassId) (dI : Nat → Nat → Nat) (cs : Nat → ClassId) (x1 : Int32) (m : Mem), Ctr l A dC dI cs yX3_goOn prog_5_method_4_code 6 none d puV [.inr (.inr (17, 0)), .inl x1] m (rec x1 m)) (x1 : Int32) (x3 : Int32) (next : Int32 × Mem → Option (Unit × Mem)) (exit : Mem → Option (Unit × Mem)) (hn : ∀ (y4 : Int32) (n : Mem) (o5 : Option AV), Go X (Em X puV) 75 [some (.inr (.inr (17, 0))), some (.inl x1), some (.inr (.inr (7, 1))), some (.inl x3), some (.inl y4), o5] [] n (next (y4, n))) (hx : ∀ (n : Mem) (o4 : Option AV) (o5 : Option AV), Go X (Em X puV) 157 [some (.inr (.inr (17, 0))), some (.inl x1), some (.inr (.inr (7, 1))), some (.inl x3), o4, o5] [] n (exit (n))) (s : Int32 × Mem) (o5 : Option AV) : Go X (Em X puV) 75 [some (.inr (.inr (17, 0))), some (.inl x1), some (.inr (.inr (7, 1))), some (.inl x3), some (.inl s.1), o5] [] s.2 (f_X3_goOn_b75 rec x1 x3 next exit s) := by
  unfold f_X3_goOn_b75
  refine go_blk h.1 (is := [.iload 4, .iconst 3]) (pc' := 78) (ls' := [some (.inr (.inr (17, 0))), some (.inl x1), some (.inr (.inr (7, 1))), some (.inl x3), some (.inl s.1), o5]) (st' := [.inl (3 : Int32), .inl s.1]) (m' := s.2) (by decide +kernel) rfl ?_
  refine go_icmpgt h.1 (off := 79) 157 (by decide +kernel) (by decide) (fun c78 => ?_) (fun c78 => ?_)
  · exact hx s.2 (some (.inl s.1)) (o5)
  · refine go_blk h.1 (is := [.aload_n 2, .iload_n 3]) (pc' := 83) (ls' := [some (.inr (.inr (17, 0))), some (.inl x1), some (.inr (.inr (7, 1))), some (.inl x3), some (.inl s.1), o5]) (st' := [.inl x3, .inr (.inr (7, 1))]) (m' := s.2) (by decide +kernel) rfl ?_
    refine go_callV h.1 (index := 57) (n := 1) (t := 7) (i := 1) (ci := 0) (nf := 14) (cz := (RX0, TX0, 14)) (as := [.inl x3]) (rest := []) (ctr_X0_isBelow (xl X) (xA X) (xC X) (xI X) (xk X) 1 x3 s.2) (by decide +kernel) rfl rfl wd_v_X3_57 rfl (h.room (by first | decide | omega) (by decide)) h.cl (Nat.le_of_ble_eq_true rfl) puI_ok rfl (fun r83 m83 _ => ?_)
    show Go X (Em X puV) 86 [some (.inr (.inr (17, 0))), some (.inl x1), some (.inr (.inr (7, 1))), some (.inl x3), some (.inl s.1), o5] [.inl r83] m83 _
    refine go_ifeq h.1 (off := 71) 157 (by decide +kernel) (by decide) (fun c86 => ?_) (fun c86 => ?_)
    · exact hx m83 (some (.inl s.1)) (o5)
    · refine go_blk h.1 (is := [.aload_n 0, .getfield 25, .iload 4]) (pc' := 95) (ls' := [some (.inr (.inr (17, 0))), some (.inl x1), some (.inr (.inr (7, 1))), some (.inl x3), some (.inl s.1), o5]) (st' := [.inl s.1, .inl (m83 17 0 3)]) (m' := m83) (by decide +kernel) rfl ?_
      refine go_callN h.1 (index := 61) (n := 2) (as := [.inl (m83 17 0 3), .inl s.1]) (rest := []) (ctr_X6_mayBe (xl X) (xA X) (xC X) (xI X) (xk X) (m83 17 0 3) s.1 m83) (by decide +kernel) wd_n_X3_61 rfl (h.room (by first | decide | omega) (by decide)) h.cl (Nat.le_of_ble_eq_true rfl) puI_ok rfl (fun r95 m95 _ => ?_)
      show Go X (Em X puV) 98 [some (.inr (.inr (17, 0))), some (.inl x1), some (.inr (.inr (7, 1))), some (.inl x3), some (.inl s.1), o5] [.inl r95] m95 _
      refine go_ifeq h.1 (off := 13) 111 (by decide +kernel) (by decide) (fun c98 => ?_) (fun c98 => ?_)
      · refine go_blk h.1 (is := [.bipush (-2)]) (pc' := 113) (ls' := [some (.inr (.inr (17, 0))), some (.inl x1), some (.inr (.inr (7, 1))), some (.inl x3), some (.inl s.1), o5]) (st' := [.inl (-2 : Int32)]) (m' := m95) (by decide +kernel) rfl ?_
        exact g_X3_goOn_j113 hd0 h rec hrec next exit (-2 : Int32) x1 x3 s.1 m95 (o5) hn hx
      · refine go_blk h.1 (is := [.aload_n 2, .iload_n 3, .iload 4]) (pc' := 105) (ls' := [some (.inr (.inr (17, 0))), some (.inl x1), some (.inr (.inr (7, 1))), some (.inl x3), some (.inl s.1), o5]) (st' := [.inl s.1, .inl x3, .inr (.inr (7, 1))]) (m' := m95) (by decide +kernel) rfl ?_
        refine go_callV h.1 (index := 65) (n := 2) (t := 7) (i := 1) (ci := 0) (nf := 14) (cz := (RX0, TX0, 14)) (as := [.inl x3, .inl s.1]) (rest := []) (ctr_X0_pass (xl X) (xA X) (xC X) (xI X) (xk X) 1 x3 s.1 m95) (by decide +kernel) rfl rfl wd_v_X3_65 rfl (h.room (by first | decide | omega) (by decide)) h.cl (Nat.le_of_ble_eq_true rfl) puI_ok rfl (fun r105 m105 _ => ?_)
        show Go X (Em X puV) 108 [some (.inr (.inr (17, 0))), some (.inl x1), some (.inr (.inr (7, 1))), some (.inl x3), some (.inl s.1), o5] [.inl r105] m105 _
        refine go_goto h.1 (off := 5) 113 (by decide +kernel) (by decide) ?_
        exact g_X3_goOn_j113 hd0 h rec hrec next exit r105 x1 x3 s.1 m105 (o5) hn hx

def f_X3_goOn_b64 (rec : Int32 → Mem → Option (Unit × Mem)) (x1 : Int32) (next : Int32 × Mem → Option (Unit × Mem)) (exit : Mem → Option (Unit × Mem)) (s : Int32 × Mem) : Option (Unit × Mem) :=
  if (s.2 7 1 8) ≤ s.1 then
    exit (s.2)
  else
    lpk (f_X3_goOn_b75 rec x1 s.1) fuelN ((0 : Int32), s.2) (fun t75 =>
      next ((s.1 + (1 : Int32)), t75))
theorem g_X3_goOn_b64 {X : XT} {d : Nat} (hd0 : 4 ≤ d) (h : MX X prog_5_method_4_code P_X3 (d + 1) none) (rec : Int32 → Mem → Option (Unit × Mem)) (hrec : ∀ (l : Launch) (A : AR → Nat) (dC : Nat → ClassId) (dI : Nat → Nat → Nat) (cs : Nat → ClassId) (x1 : Int32) (m : Mem), Ctr l A dC dI cs yX3_goOn prog_5_method_4_code 6 none d puV [.inr (.inr (17, 0)), .inl x1] m (rec x1 m)) (x1 : Int32) (next : Int32 × Mem → Option (Unit × Mem)) (exit : Mem → Option (Unit × Mem)) (hn : ∀ (y3 : Int32) (n : Mem) (o4 : Option AV) (o5 : Option AV), Go X (Em X puV) 64 [some (.inr (.inr (17, 0))), some (.inl x1), some (.inr (.inr (7, 1))), some (.inl y3), o4, o5] [] n (next (y3, n))) (hx : ∀ (n : Mem) (o0 : Option AV) (o1 : Option AV) (o2 : Option AV) (o3 : Option AV) (o4 : Option AV) (o5 : Option AV), Go X (Em X puV) 163 [o0, o1, o2, o3, o4, o5] [] n (exit (n))) (s : Int32 × Mem) (o4 : Option AV) (o5 : Option AV) : Go X (Em X puV) 64 [some (.inr (.inr (17, 0))), some (.inl x1), some (.inr (.inr (7, 1))), some (.inl s.1), o4, o5] [] s.2 (f_X3_goOn_b64 rec x1 next exit s) := by
  unfold f_X3_goOn_b64
  refine go_blk h.1 (is := [.iload_n 3, .aload_n 2, .getfield 48]) (pc' := 69) (ls' := [some (.inr (.inr (17, 0))), some (.inl x1), some (.inr (.inr (7, 1))), some (.inl s.1), o4, o5]) (st' := [.inl (s.2 7 1 8), .inl s.1]) (m' := s.2) (by decide +kernel) rfl ?_
  refine go_icmpge h.1 (off := 94) 163 (by decide +kernel) (by decide) (fun c69 => ?_) (fun c69 => ?_)
  · exact hx s.2 (some (.inr (.inr (17, 0)))) (some (.inl x1)) (some (.inr (.inr (7, 1)))) (some (.inl s.1)) (o4) (o5)
  · refine go_blk h.1 (is := [.iconst 0, .istore 4]) (pc' := 75) (ls' := [some (.inr (.inr (17, 0))), some (.inl x1), some (.inr (.inr (7, 1))), some (.inl s.1), some (.inl (0 : Int32)), o5]) (st' := []) (m' := s.2) (by decide +kernel) rfl ?_
    refine go_lp1 (hd := fun (y4 : Int32) (n : Mem) o => ∀ (o5 : Option AV), Go X (Em X puV) 75 [some (.inr (.inr (17, 0))), some (.inl x1), some (.inr (.inr (7, 1))), some (.inl s.1), some (.inl y4), o5] [] n o) (fun _ _ _ => go_none) (fun y4 n nx_ hn_ => g_X3_goOn_b75 hd0 h rec hrec x1 s.1 nx_ _ hn_ (fun z_75 o4_75 o5_75 => ?_) (y4, n)) fuelN (0 : Int32) s.2 (o5)
    refine go_blk h.1 (is := [.iinc 3 1]) (pc' := 160) (ls' := [some (.inr (.inr (17, 0))), some (.inl x1), some (.inr (.inr (7, 1))), some (.inl (s.1 + (1 : Int32))), o4_75, o5_75]) (st' := []) (m' := z_75) (by decide +kernel) rfl ?_
    refine go_goto h.1 (off := -96) 64 (by decide +kernel) (by decide) ?_
    exact hn (s.1 + (1 : Int32)) z_75 (o4_75) (o5_75)

def f_X3_goOn (rec : Int32 → Mem → Option (Unit × Mem)) (x1 : Int32) (m : Mem) : Option (Unit × Mem) :=
  bnd (f_X0_stillDue 1 (m 17 0 3) m) (fun r14 m14 =>
    if ((m 7 1 13) + r14) < (m14 17 0 4) then
      if (m14 7 1 8) ≤ x1 then
        f_X3_goOn_j39 rec m14
      else
        if x1 < (5 : Int32) then
          lpk (f_X3_goOn_b64 rec x1) fuelN ((0 : Int32), m14) (fun t64 =>
            some ((), t64))
        else
          f_X3_goOn_j39 rec m14
    else
      some ((), m14))
theorem g_X3_goOn {X : XT} {d : Nat} (hd0 : 4 ≤ d) (h : MX X prog_5_method_4_code P_X3 (d + 1) none) (rec : Int32 → Mem → Option (Unit × Mem)) (hrec : ∀ (l : Launch) (A : AR → Nat) (dC : Nat → ClassId) (dI : Nat → Nat → Nat) (cs : Nat → ClassId) (x1 : Int32) (m : Mem), Ctr l A dC dI cs yX3_goOn prog_5_method_4_code 6 none d puV [.inr (.inr (17, 0)), .inl x1] m (rec x1 m)) (x1 : Int32) (m : Mem) : Go X (Em X puV) 0 [some (.inr (.inr (17, 0))), some (.inl x1), none, none, none, none] [] m (f_X3_goOn rec x1 m) := by
  unfold f_X3_goOn
  refine go_blk h.1 (is := [.aload_n 0, .getfield 12, .astore_n 2, .aload_n 2, .getfield 41, .aload_n 2, .aload_n 0, .getfield 25]) (pc' := 14) (ls' := [some (.inr (.inr (17, 0))), some (.inl x1), some (.inr (.inr (7, 1))), none, none, none]) (st' := [.inl (m 17 0 3), .inr (.inr (7, 1)), .inl (m 7 1 13)]) (m' := m) (by decide +kernel) rfl ?_
  refine go_callV h.1 (index := 44) (n := 1) (t := 7) (i := 1) (ci := 0) (nf := 14) (cz := (RX0, TX0, 14)) (as := [.inl (m 17 0 3)]) (rest := [.inl (m 7 1 13)]) (ctr_X0_stillDue (xl X) (xA X) (xC X) (xI X) (xk X) 1 (m 17 0 3) m) (by decide +kernel) rfl rfl wd_v_X3_44 rfl (h.room (by first | decide | omega) (by decide)) h.cl (Nat.le_of_ble_eq_true rfl) puI_ok rfl (fun r14 m14 _ => ?_)
  show Go X (Em X puV) 17 [some (.inr (.inr (17, 0))), some (.inl x1), some (.inr (.inr (7, 1))), none, none, none] [.inl r14, .inl (m 7 1 13)] m14 _
  refine go_blk h.1 (is := [.iadd, .aload_n 0, .getfield 30]) (pc' := 22) (ls' := [some (.inr (.inr (17, 0))), some (.inl x1), some (.inr (.inr (7, 1))), none, none, none]) (st' := [.inl (m14 17 0 4), .inl ((m 7 1 13) + r14)]) (m' := m14) (by decide +kernel) rfl ?_
  refine go_icmplt h.1 (off := 4) 26 (by decide +kernel) (by decide) (fun c22 => ?_) (fun c22 => ?_)
  · refine go_blk h.1 (is := [.iload_n 1, .aload_n 2, .getfield 48]) (pc' := 31) (ls' := [some (.inr (.inr (17, 0))), some (.inl x1), some (.inr (.inr (7, 1))), none, none, none]) (st' := [.inl (m14 7 1 8), .inl x1]) (m' := m14) (by decide +kernel) rfl ?_
    refine go_icmpge h.1 (off := 8) 39 (by decide +kernel) (by decide) (fun c31 => ?_) (fun c31 => ?_)
    · exact g_X3_goOn_j39 hd0 h rec hrec m14 (some (.inl x1)) (none) (none) (none)
    · refine go_blk h.1 (is := [.iload_n 1, .iconst 5]) (pc' := 36) (ls' := [some (.inr (.inr (17, 0))), some (.inl x1), some (.inr (.inr (7, 1))), none, none, none]) (st' := [.inl (5 : Int32), .inl x1]) (m' := m14) (by decide +kernel) rfl ?_
      refine go_icmplt h.1 (off := 26) 62 (by decide +kernel) (by decide) (fun c36 => ?_) (fun c36 => ?_)
      · refine go_blk h.1 (is := [.iconst 0, .istore_n 3]) (pc' := 64) (ls' := [some (.inr (.inr (17, 0))), some (.inl x1), some (.inr (.inr (7, 1))), some (.inl (0 : Int32)), none, none]) (st' := []) (m' := m14) (by decide +kernel) rfl ?_
        refine go_lp1 (hd := fun (y3 : Int32) (n : Mem) o => ∀ (o4 : Option AV) (o5 : Option AV), Go X (Em X puV) 64 [some (.inr (.inr (17, 0))), some (.inl x1), some (.inr (.inr (7, 1))), some (.inl y3), o4, o5] [] n o) (fun _ _ _ _ => go_none) (fun y3 n nx_ hn_ => g_X3_goOn_b64 hd0 h rec hrec x1 nx_ _ hn_ (fun z_64 o0_64 o1_64 o2_64 o3_64 o4_64 o5_64 => ?_) (y3, n)) fuelN (0 : Int32) m14 (none) (none)
        exact go_vret h.1 h.2.2.2.2 (by decide +kernel)
      · exact g_X3_goOn_j39 hd0 h rec hrec m14 (some (.inl x1)) (none) (none) (none)
  · exact go_vret h.1 h.2.2.2.2 (by decide +kernel)
def f_X3_goOnN : Nat → Int32 → Mem → Option (Unit × Mem)
  | 0 => fun _ _ => none
  | n + 1 => f_X3_goOn (f_X3_goOnN n)
theorem ctr_X3_goOnn : ∀ (n : Nat) (l : Launch) (A : AR → Nat) (dC : Nat → ClassId) (dI : Nat → Nat → Nat) (cs : Nat → ClassId) (x1 : Int32) (m : Mem), Ctr l A dC dI cs yX3_goOn prog_5_method_4_code 6 none (4 + n) puV [.inr (.inr (17, 0)), .inl x1] m (f_X3_goOnN n x1 m)
  | 0, _, _, _, _, _, _, _ => fun _ _ _ h => by cases h
  | n + 1, l, A, dC, dI, cs, x1, m => ctr_of (P := P_X3) (by decide +kernel) rfl pt_X3 rfl rfl (fun X hC _ _ _ _ _ hR h0 h1 hr => g_X3_goOn (d := 4 + n) (by omega) ⟨hC, hR, h0, h1, hr⟩ (f_X3_goOnN n) (ctr_X3_goOnn n) x1 m)
theorem ctr_X3_goOnN (l : Launch) (A : AR → Nat) (dC : Nat → ClassId) (dI : Nat → Nat → Nat) (cs : Nat → ClassId) (n : Nat) (x1 : Int32) (m : Mem) : Ctr l A dC dI cs yX3_goOn prog_5_method_4_code 6 none (4 + n) puV [.inr (.inr (17, 0)), .inl x1] m (f_X3_goOnN n x1 m) := ctr_X3_goOnn n l A dC dI cs x1 m

