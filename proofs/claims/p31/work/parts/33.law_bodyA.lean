/-! ===== printed by wip/p31/tr.py out of the listing ===== -/
def f_L_lawA (L : Nat) (xsc : Nat → Int32) (m : Mem) : Option ((Int32 × Int32) × Mem) :=
  bnd (f_L_put L xsc (0 : Int32) (5 : Int32) m) (fun r18 m18 =>
    if inB (1 : Int32) 28 = true then
      if r18 < (8 : Int32) then
        none
      else
        bnd (f_X6_ford (0 : Int32) (0 : Int32) (0 : Int32) r18 m18) (fun r38 m38 =>
          if r38 = (m18 70 0 (ix (1 : Int32))) then
            bnd (f_X6_many (1 : Int32) m38) (fun r48 m48 =>
              if inB (0 : Int32) 28 = true then
                if r48 = (m48 70 0 (ix (0 : Int32))) then
                  some ((r18, (m18 70 0 (ix (1 : Int32)))), m48)
                else
                  none
              else none)
          else
            none)
    else none)
theorem g_L_lawA {X : XT} (h : MW X) (m : Mem) : Go X (EA X) 13 [some (.inr (.inr (60, 0))), some (.inr (.inr (0, 0))), some (.inr (.inr (70, 0))), none, none, none, none, none, none, none, none, none, none, none, none, none, none] [] m (f_L_lawA (xL X) (xx X) m) := by
  unfold f_L_lawA
  refine go_blk h.1 (is := [.aload_n 1, .aload_n 0, .iconst 0, .iconst 5, .aload_n 2]) (pc' := 18) (ls' := [some (.inr (.inr (60, 0))), some (.inr (.inr (0, 0))), some (.inr (.inr (70, 0))), none, none, none, none, none, none, none, none, none, none, none, none, none, none]) (st' := [.inr (.inr (70, 0)), .inl (5 : Int32), .inl (0 : Int32), .inr (.inr (60, 0)), .inr (.inr (0, 0))]) (m' := m) (by decide +kernel) rfl ?_
  refine go_callS h.1 (index := 54) (n := 5) (as := [.inr (.inr (0, 0)), .inr (.inr (60, 0)), .inl (0 : Int32), .inl (5 : Int32), .inr (.inr (70, 0))]) (rest := []) (ctr_L_put (xZ X) (0 : Int32) (5 : Int32) m) (by decide +kernel) wd_s_L_54 rfl (h.room (by first | decide | omega) (by decide)) h.cl (Nat.le_of_ble_eq_true rfl) puI_ok rfl (fun r18 m18 _ => ?_)
  show Go X (EA X) 21 [some (.inr (.inr (60, 0))), some (.inr (.inr (0, 0))), some (.inr (.inr (70, 0))), none, none, none, none, none, none, none, none, none, none, none, none, none, none] [.inl r18] m18 _
  refine go_blk h.1 (is := [.istore_n 3, .aload_n 2, .iconst 1]) (pc' := 24) (ls' := [some (.inr (.inr (60, 0))), some (.inr (.inr (0, 0))), some (.inr (.inr (70, 0))), some (.inl r18), none, none, none, none, none, none, none, none, none, none, none, none, none]) (st' := [.inl (1 : Int32), .inr (.inr (70, 0))]) (m' := m18) (by decide +kernel) rfl ?_
  refine go_iald h.1 (by decide +kernel) rfl rfl (fun b24 => ?_)
  show Go X (EA X) 25 [some (.inr (.inr (60, 0))), some (.inr (.inr (0, 0))), some (.inr (.inr (70, 0))), some (.inl r18), none, none, none, none, none, none, none, none, none, none, none, none, none] [.inl (m18 70 0 (ix (1 : Int32)))] m18 _
  refine go_blk h.1 (is := [.istore 4, .iload_n 3, .bipush 8]) (pc' := 30) (ls' := [some (.inr (.inr (60, 0))), some (.inr (.inr (0, 0))), some (.inr (.inr (70, 0))), some (.inl r18), some (.inl (m18 70 0 (ix (1 : Int32)))), none, none, none, none, none, none, none, none, none, none, none, none]) (st' := [.inl (8 : Int32), .inl r18]) (m' := m18) (by decide +kernel) rfl ?_
  refine go_icmplt h.1 (off := 27) 57 (by decide +kernel) (by decide) (fun c30 => ?_) (fun c30 => ?_)
  · refine go_blk h.1 (is := [.iconst 0]) (pc' := 58) (ls' := [some (.inr (.inr (60, 0))), some (.inr (.inr (0, 0))), some (.inr (.inr (70, 0))), some (.inl r18), some (.inl (m18 70 0 (ix (1 : Int32)))), none, none, none, none, none, none, none, none, none, none, none, none]) (st' := [.inl (0 : Int32)]) (m' := m18) (by decide +kernel) rfl ?_
    exact go_none
  · refine go_blk h.1 (is := [.aload_n 1, .iconst 0, .iconst 0, .iconst 0, .iload_n 3]) (pc' := 38) (ls' := [some (.inr (.inr (60, 0))), some (.inr (.inr (0, 0))), some (.inr (.inr (70, 0))), some (.inl r18), some (.inl (m18 70 0 (ix (1 : Int32)))), none, none, none, none, none, none, none, none, none, none, none, none]) (st' := [.inl r18, .inl (0 : Int32), .inl (0 : Int32), .inl (0 : Int32), .inr (.inr (0, 0))]) (m' := m18) (by decide +kernel) rfl ?_
    refine go_callV h.1 (index := 57) (n := 4) (t := 0) (i := 0) (ci := 6) (nf := 7) (cz := (RX6, TX6, 7)) (as := [.inl (0 : Int32), .inl (0 : Int32), .inl (0 : Int32), .inl r18]) (rest := []) (ctr_X6_ford (xZ X) (0 : Int32) (0 : Int32) (0 : Int32) r18 m18) (by decide +kernel) rfl rfl wd_v_L_57 rfl (h.room (by first | decide | omega) (by decide)) h.cl (Nat.le_of_ble_eq_true rfl) puI_ok rfl (fun r38 m38 _ => ?_)
    show Go X (EA X) 41 [some (.inr (.inr (60, 0))), some (.inr (.inr (0, 0))), some (.inr (.inr (70, 0))), some (.inl r18), some (.inl (m18 70 0 (ix (1 : Int32)))), none, none, none, none, none, none, none, none, none, none, none, none] [.inl r38] m38 _
    refine go_blk h.1 (is := [.iload 4]) (pc' := 43) (ls' := [some (.inr (.inr (60, 0))), some (.inr (.inr (0, 0))), some (.inr (.inr (70, 0))), some (.inl r18), some (.inl (m18 70 0 (ix (1 : Int32)))), none, none, none, none, none, none, none, none, none, none, none, none]) (st' := [.inl (m18 70 0 (ix (1 : Int32))), .inl r38]) (m' := m38) (by decide +kernel) rfl ?_
    refine go_icmpne h.1 (off := 14) 57 (by decide +kernel) (by decide) (fun c43 => ?_) (fun c43 => ?_)
    · refine go_blk h.1 (is := [.iconst 0]) (pc' := 58) (ls' := [some (.inr (.inr (60, 0))), some (.inr (.inr (0, 0))), some (.inr (.inr (70, 0))), some (.inl r18), some (.inl (m18 70 0 (ix (1 : Int32)))), none, none, none, none, none, none, none, none, none, none, none, none]) (st' := [.inl (0 : Int32)]) (m' := m38) (by decide +kernel) rfl ?_
      exact go_none
    · refine go_blk h.1 (is := [.aload_n 1, .iconst 1]) (pc' := 48) (ls' := [some (.inr (.inr (60, 0))), some (.inr (.inr (0, 0))), some (.inr (.inr (70, 0))), some (.inl r18), some (.inl (m18 70 0 (ix (1 : Int32)))), none, none, none, none, none, none, none, none, none, none, none, none]) (st' := [.inl (1 : Int32), .inr (.inr (0, 0))]) (m' := m38) (by decide +kernel) rfl ?_
      refine go_callV h.1 (index := 61) (n := 1) (t := 0) (i := 0) (ci := 6) (nf := 7) (cz := (RX6, TX6, 7)) (as := [.inl (1 : Int32)]) (rest := []) (ctr_X6_many (xZ X) (1 : Int32) m38) (by decide +kernel) rfl rfl wd_v_L_61 rfl (h.room (by first | decide | omega) (by decide)) h.cl (Nat.le_of_ble_eq_true rfl) puI_ok rfl (fun r48 m48 _ => ?_)
      show Go X (EA X) 51 [some (.inr (.inr (60, 0))), some (.inr (.inr (0, 0))), some (.inr (.inr (70, 0))), some (.inl r18), some (.inl (m18 70 0 (ix (1 : Int32)))), none, none, none, none, none, none, none, none, none, none, none, none] [.inl r48] m48 _
      refine go_blk h.1 (is := [.aload_n 2, .iconst 0]) (pc' := 53) (ls' := [some (.inr (.inr (60, 0))), some (.inr (.inr (0, 0))), some (.inr (.inr (70, 0))), some (.inl r18), some (.inl (m18 70 0 (ix (1 : Int32)))), none, none, none, none, none, none, none, none, none, none, none, none]) (st' := [.inl (0 : Int32), .inr (.inr (70, 0)), .inl r48]) (m' := m48) (by decide +kernel) rfl ?_
      refine go_iald h.1 (by decide +kernel) rfl rfl (fun b53 => ?_)
      show Go X (EA X) 54 [some (.inr (.inr (60, 0))), some (.inr (.inr (0, 0))), some (.inr (.inr (70, 0))), some (.inl r18), some (.inl (m18 70 0 (ix (1 : Int32)))), none, none, none, none, none, none, none, none, none, none, none, none] [.inl (m48 70 0 (ix (0 : Int32))), .inl r48] m48 _
      refine go_icmpeq h.1 (off := 5) 59 (by decide +kernel) (by decide) (fun c54 => ?_) (fun c54 => ?_)
      · exact go_stop
      · refine go_blk h.1 (is := [.iconst 0]) (pc' := 58) (ls' := [some (.inr (.inr (60, 0))), some (.inr (.inr (0, 0))), some (.inr (.inr (70, 0))), some (.inl r18), some (.inl (m18 70 0 (ix (1 : Int32)))), none, none, none, none, none, none, none, none, none, none, none, none]) (st' := [.inl (0 : Int32)]) (m' := m48) (by decide +kernel) rfl ?_
        exact go_none
