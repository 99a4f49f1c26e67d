/-! ===== the start ===== -/
theorem CI_m0 : CI m0 (fun _ => none) (fun _ _ => 0) := ⟨fun k _ => rfl, rfl, rfl, rfl, fun f hf => absurd hf (Nat.not_lt_zero f)⟩
theorem injA_of {ph : Bool} {A : AR → Nat} {cs : Nat → ClassId} {m : Mem} {S : Nat → Prop} (h : va_D S (wsM ph A cs m)) : injA ph A := fun r hr q hq e => by
  obtain ⟨i, i1, i2⟩ := wsM_at (ph := ph) (A := A) (cs := cs) (m := m) hr
  obtain ⟨j, j1, j2⟩ := wsM_at (ph := ph) (A := A) (cs := cs) (m := m) hq
  have := h.1 i j _ _ i2 j2 e
  subst this
  exact Option.some.inj (i1.symm.trans j1)
theorem fr_of {ph : Bool} {A : AR → Nat} {cs : Nat → ClassId} {m : Mem} {S : Nat → Prop} (h : va_D S (wsM ph A cs m)) {q : Nat} (hq : frA ph A q) : S q := by
  obtain ⟨r, hr, rfl⟩ := hq
  obtain ⟨i, -, i2⟩ := wsM_at (ph := ph) (A := A) (cs := cs) (m := m) hr
  exact h.2 i _ i2
theorem inst_all : ∀ (ci : Nat) (z : vw_C), vwCl[ci]? = some z → Cond.instantiable z.1 z.2.2 ∈ wsC := fun ci z h => by
  have hl : ci < 7 := (List.getElem?_eq_some_iff.mp h).1
  rcases (show ci = 0 ∨ ci = 1 ∨ ci = 2 ∨ ci = 3 ∨ ci = 4 ∨ ci = 5 ∨ ci = 6 by omega) with rfl | rfl | rfl | rfl | rfl | rfl | rfl
  · cases h; exact wsC_at 113 (by decide +kernel) rfl
  · cases h; exact wsC_at 60 (by decide +kernel) rfl
  · cases h; exact wsC_at 195 (by decide +kernel) rfl
  · cases h; exact wsC_at 170 (by decide +kernel) rfl
  · cases h; exact wsC_at 32 (by decide +kernel) rfl
  · cases h; exact wsC_at 53 (by decide +kernel) rfl
  · cases h; exact wsC_at 23 (by decide +kernel) rfl
theorem KU_start {s : State} {args : Array Value} (hts : ∀ w ∈ lw_tbl, w.before args s = true) : ∃ (dC : Nat → ClassId) (dI : Nat → Nat → Nat) (cs : Nat → ClassId), KU dC dI cs s := by
  have hw : ∀ w ∈ wsC, w.before args s = true := fun w h => hts w (List.mem_filter.mp h).1
  have hk : ∀ ci : Nat, ∃ z : ClassId × (Nat → Nat), ∀ q : vw_C, vwCl[ci]? = some q → u_Kn s q.1 q.2.1 q.2.2 z.1 z.2 := fun ci => by
    cases hc : vwCl[ci]? with
    | none => exact ⟨(default, fun _ => 0), fun q h => by cases h⟩
    | some z =>
      obtain ⟨cC, iS, h⟩ := u_known hw (u_all ci z hc) (hw _ (inst_all ci z hc))
      exact ⟨(cC, iS), fun q h2 => by cases h2; exact h⟩
  obtain ⟨f, hf⟩ := Classical.axiomOfChoice hk
  have w0 : (Cond.arrayClass .int).before args s = true := hts _ (List.mem_of_getElem? (i := 51) (by decide +kernel))
  have w1 : (Cond.arrayOver (.object RX4)).before args s = true := hts _ (List.mem_of_getElem? (i := 31) (by decide +kernel))
  have w2 : (Cond.arrayOver (.object RX1)).before args s = true := hts _ (List.mem_of_getElem? (i := 59) (by decide +kernel))
  have w3 : (Cond.arrayOver (.array .int)).before args s = true := hts _ (List.mem_of_getElem? (i := 119) (by decide +kernel))
  obtain ⟨c0, k0, p0, x1, x2, x3⟩ := Cond.arrayClass_spec w0
  obtain ⟨p1, c1, k1, y1, y2, y3, y4, y5⟩ := Cond.arrayOver_spec w1
  obtain ⟨p2, c2, k2, z1, z2, z3, z4, z5⟩ := Cond.arrayOver_spec w2
  obtain ⟨p3, c3, k3, t1, t2, t3, t4, t5⟩ := arrayOverA_spec w3
  refine ⟨fun c => (f c).1, fun c => (f c).2, fun k => [c0, c1, c2, c3].getD k 0, ⟨fun c q h => hf c q h, fun k q h => ?_⟩, ⟨va_AO.of w1, va_AO.of w2, w3⟩, fun w h => va_Nw.of (nest_on h).1 (hts w (List.mem_filter.mp h).1)⟩
  have hl : k < 4 := (List.getElem?_eq_some_iff.mp h).1
  rcases (show k = 0 ∨ k = 1 ∨ k = 2 ∨ k = 3 by omega) with rfl | rfl | rfl | rfl
  · cases h
    exact ⟨fun n z => ⟨(fun k h => by cases h), k0, x2, p0, x3⟩, x1⟩
  · cases h
    exact ⟨fun n z => ⟨(fun k h => by cases h), k1, y3, p1, y4⟩, k1, p1, y3, y4, y1, y5⟩
  · cases h
    exact ⟨fun n z => ⟨(fun k h => by cases h), k2, z3, p2, z4⟩, k2, p2, z3, z4, z1, z5⟩
  · cases h
    exact ⟨fun n z => ⟨(fun k h => by cases h), k3, t3, p3, t4⟩, t5⟩
/-! ===== the law's three later rows ===== -/
def A2 (A : AR → Nat) (qp qr qw : Nat) : AR → Nat := fun r => if r.1 = 71 then qp else if r.1 = 72 then qr else if r.1 = 73 then qw else A r
def M2 (m : Mem) : Mem := fun t => if t = 71 ∨ t = 72 ∨ t = 73 then fun _ _ => 0 else m t
theorem lo_all : (vr1.all fun r => decide (r.1 ≠ 71 ∧ r.1 ≠ 72 ∧ r.1 ≠ 73)) = true := by decide +kernel
theorem lo_of {r : AR} (h : r ∈ vr1) : r.1 ≠ 71 ∧ r.1 ≠ 72 ∧ r.1 ≠ 73 := of_decide_eq_true (List.all_eq_true.mp lo_all r h)
theorem A2_lo {A : AR → Nat} {qp qr qw : Nat} {r : AR} (h : r ∈ vr1) : A2 A qp qr qw r = A r := by
  obtain ⟨h1, h2, h3⟩ := lo_of h
  unfold A2
  rw [if_neg h1, if_neg h2, if_neg h3]
theorem M2_lo {m : Mem} {t : Nat} (h : t ≠ 71 ∧ t ≠ 72 ∧ t ≠ 73) : M2 m t = m t := by
  unfold M2
  rw [if_neg (by omega)]
theorem cell_lo {A : AR → Nat} {cs : Nat → ClassId} {m : Mem} {qp qr qw : Nat} {r : AR} (h : r ∈ vr1) : cellOf (A2 A qp qr qw) cs (M2 m) r = cellOf A cs m r := by
  have hr : r ∈ vrefs false := h
  have hm := M2_lo (m := m) (lo_of h)
  have hz : ∀ k, k < lenOf r.1 → ∀ z, sh_ref r.1 r.2 k = some z → A2 A qp qr qw z = A z := fun k hk z e => A2_lo (sh_closed hr hk e)
  unfold cellOf
  cases hc : sh_cls r.1 with
  | some q =>
    dsimp only
    congr 2
    refine List.map_congr_left (fun k hk => ?_)
    have hk' : k < lenOf r.1 := by
      unfold lenOf
      rw [hc]
      exact List.mem_range.mp hk
    cases e : sh_ref r.1 r.2 k with
    | some z => dsimp only; rw [hz k hk' z e]
    | none => dsimp only; rw [hm]
  | none =>
    dsimp only
    cases ha : sh_arr r.1 with
    | none => rfl
    | some q =>
      dsimp only
      rw [hm]
      by_cases c : q.1 = 0
      · rw [if_pos c, if_pos c]
      · rw [if_neg c, if_neg c]
        refine have hf : (fun j => if j < q.2 then (sh_ref r.1 r.2 j).map (A2 A qp qr qw) else none) = fun j => if j < q.2 then (sh_ref r.1 r.2 j).map A else none := ?_; by rw [hf]
        funext j
        by_cases hj : j < q.2
        · rw [if_pos hj, if_pos hj]
          have hk' : j < lenOf r.1 := by
            unfold lenOf
            rw [hc]
            dsimp only
            rw [ha]
            exact hj
          cases e : sh_ref r.1 r.2 j with
          | some z => simp only [Option.map_some]; rw [hz j hk' z e]
          | none => rfl
        · rw [if_neg hj, if_neg hj]
theorem world_lo {A : AR → Nat} {cs : Nat → ClassId} {m : Mem} {qp qr qw : Nat} : wsM true (A2 A qp qr qw) cs (M2 m) = wsM false A cs m ++ [(qp, .inl (cs 0, 40, .inl (fun _ => 0)))] ++ [(qr, .inl (cs 0, 9, .inl (fun _ => 0)))] ++ [(qw, .inl (cs 0, 25, .inl (fun _ => 0)))] := by
  have h1 : wsM true (A2 A qp qr qw) cs (M2 m) = vr1.map (fun r => (A2 A qp qr qw r, cellOf (A2 A qp qr qw) cs (M2 m) r)) ++ [(qp, .inl (cs 0, 40, .inl (fun _ => 0))), (qr, .inl (cs 0, 9, .inl (fun _ => 0))), (qw, .inl (cs 0, 25, .inl (fun _ => 0)))] := by
    unfold wsM vrefs
    dsimp only
    rw [List.map_append]
    rfl
  have h2 : vr1.map (fun r => (A2 A qp qr qw r, cellOf (A2 A qp qr qw) cs (M2 m) r)) = wsM false A cs m := by
    unfold wsM vrefs
    dsimp only
    refine List.map_congr_left (fun r hr => ?_)
    rw [A2_lo hr, cell_lo hr]
  rw [h1, h2]
  simp
theorem kg_astoreW {X : XT} {cc : ByteArray} {own : String} {A : Nat → Prop} {Q : State → Prop} {pc : Nat} {ls ls' : List (Nat × Value)} {st : List Value} {ws : va_W} {n k : Nat} (h : KC X cc own) {j x : Nat} (hd : decode cc pc = .ok (.astore j, 2)) (hn : j < xn X) (hl : (j, Value.ref x) :: ls.filter (fun q => !(q.1 == j) && !(q.1 + 1 == j && q.2.category == 2)) = ls') (kk : KG X A Q (pc + 2) ls' st ws n k) : KG X A Q pc ls (.ref x :: st) ws n k :=
  fun H locs lsa hP hD hS hL => lv_astore h.1 h.2.1 hd hL hn hl (fun l2 hL2 => kk H locs l2 hP hD hS hL2)
set_option maxHeartbeats 4000000 in
set_option maxRecDepth 100000 in
theorem law_two {p : Program} {e : Env} {s : State} {m : MethodId} {below : List Frame} {meth : Method} {c : Code} {l : Launch} {b L : Nat} {xsc : Nat → Int32} {A : AR → Nat} {dC : Nat → ClassId} {dI : Nat → Nat → Nat} {cs : Nat → ClassId} {x3 x4 : Int32} {m1 : Mem} (C0 : lw_At p s m meth c b L xsc) (hKU : KU dC dI cs s) (hb60 : A (60, 0) = b) (hinj : injA false A) (hfr : ∀ q, frA false A q → s.heap.size ≤ q)
    (hrun : ∃ mf, f_L_lawB L xsc x3 x4 (M2 m1) = some (1, mf)) :
    GG (p, e, room_1, s, m, #[Value.ref b], below, meth, c, (l, A, dC, dI, cs, false, L, xsc), 60, 700, 17) (lw_Z below #[Value.ref b] s) 59 [some (.inr (.inr (60, 0))), some (.inr (.inr (0, 0))), some (.inr (.inr (70, 0))), some (.inl x3), some (.inl x4), none, none, none, none, none, none, none, none, none, none, none, none] [] m1 := by
  obtain ⟨hx, hb, hr, hml, hown, hts, hX, hbl, hlocks, hgv⟩ := C0
  have hw : ∀ w ∈ wsC, w.before #[Value.ref b] s = true := fun w h => hts w (List.mem_filter.mp h).1
  intro hS0 hL0 H locs lsa hP0 hSt0 hl0
  have hLv : lv_has lsa 17 [(0, .ref (A (60, 0))), (1, .ref (A (0, 0))), (2, .ref (A (70, 0))), (3, .int x3), (4, .int x4)] := lhas_has hl0
  have hD0 : va_D (fun q => s.heap.size ≤ q) (wsM false A cs m1) := (wsM_D hinj m1).weaken (fun k q hk hq => hfr _ hq)
  have hSt1 : va_S (fun q => s.heap.size ≤ q) s.heap H locs := ⟨hSt0.1, fun q h1 h2 => hSt0.2.1 q h1 (fun z => h2 (hfr q z)), fun l0 hl => hfr _ (hSt0.2.2 l0 hl)⟩
  have key : KG (p, e, room_1, s, m, #[Value.ref b], below, meth, c, (l, A, dC, dI, cs, false, L, xsc), 60, 700, 17) (fun q => s.heap.size ≤ q) (lw_Z below #[Value.ref b] s) 59 [(0, .ref (A (60, 0))), (1, .ref (A (0, 0))), (2, .ref (A (70, 0))), (3, .int x3), (4, .int x4)] [] (wsM false A cs m1) 60 700 := by
    generalize hXe : ((p, e, room_1, s, m, #[Value.ref b], below, meth, c, (l, A, dC, dI, cs, false, L, xsc), 60, 700, 17) : XT) = X
    have h : KC X code RL := by
      subst hXe
      exact ⟨hx, hb, hml, hown, hw, hKU, hlocks⟩
    have hR : xR X = room_1 := by subst hXe; rfl
    have hA : ∀ q, (xs X).heap.size ≤ q → (fun q => s.heap.size ≤ q) q := fun q hq => by subst hXe; exact hq
    have hn : xn X = 17 := by subst hXe; rfl
    refine kg_bipush h (z := 40) (40 : Int32) (by decide +kernel) (by decide) ?_
    refine kg_newa h hA 40 (by decide) (by decide) (by decide) (by decide +kernel) (wsC_at 51 (by decide +kernel) rfl) (by rw [hR]; exact ⟨Nat.le_of_ble_eq_true rfl, Nat.le_of_ble_eq_true rfl⟩) (fun qp => ?_)
    refine kg_astoreW h (j := 5) (ls' := [(5, .ref qp), (0, .ref (A (60, 0))), (1, .ref (A (0, 0))), (2, .ref (A (70, 0))), (3, .int x3), (4, .int x4)]) (by decide +kernel) (by rw [hn]; decide) rfl ?_
    refine kg_bipush h (z := 9) (9 : Int32) (by decide +kernel) (by decide) ?_
    refine kg_newa h hA 9 (by decide) (by decide) (by decide) (by decide +kernel) (wsC_at 51 (by decide +kernel) rfl) (by rw [hR]; exact ⟨Nat.le_of_ble_eq_true rfl, Nat.le_of_ble_eq_true rfl⟩) (fun qr => ?_)
    refine kg_astoreW h (j := 6) (ls' := [(6, .ref qr), (5, .ref qp), (0, .ref (A (60, 0))), (1, .ref (A (0, 0))), (2, .ref (A (70, 0))), (3, .int x3), (4, .int x4)]) (by decide +kernel) (by rw [hn]; decide) rfl ?_
    refine kg_bipush h (z := 25) (25 : Int32) (by decide +kernel) (by decide) ?_
    refine kg_newa h hA 25 (by decide) (by decide) (by decide) (by decide +kernel) (wsC_at 51 (by decide +kernel) rfl) (by rw [hR]; exact ⟨Nat.le_of_ble_eq_true rfl, Nat.le_of_ble_eq_true rfl⟩) (fun qw => ?_)
    refine kg_astoreW h (j := 7) (ls' := [(7, .ref qw), (6, .ref qr), (5, .ref qp), (0, .ref (A (60, 0))), (1, .ref (A (0, 0))), (2, .ref (A (70, 0))), (3, .int x3), (4, .int x4)]) (by decide +kernel) (by rw [hn]; decide) rfl ?_
    refine kg_widen (n' := 70) (k' := 800) (Nat.le_of_ble_eq_true rfl) (Nat.le_of_ble_eq_true rfl) ?_
    subst hXe
    intro H locs lsa hP hD hS hLv
    have hP2 : va_P (dC, dI) vwCl (wsM true (A2 A qp qr qw) cs (M2 m1)) H := by rw [world_lo]; exact hP
    have hD2 : va_D (fun q => s.heap.size ≤ q) (wsM true (A2 A qp qr qw) cs (M2 m1)) := by rw [world_lo]; exact hD
    refine va_forget (fun q hq => hS.2.2 q hq) ?_
    obtain ⟨mf, hmf⟩ := hrun
    have hb2 : A2 A qp qr qw (60, 0) = b := hb60
    have hMW : MW (p, e, room_1, s, m, #[Value.ref b], below, meth, c, (l, A2 A qp qr qw, dC, dI, cs, true, L, xsc), 70, 800, 17) := by
      refine ⟨⟨hx, hb, hml, hown, hw, hKU.2.2, hKU.1, ⟨injA_of hD2, ?_⟩, hlocks, pt_L⟩, ⟨rfl, Nat.le_of_ble_eq_true rfl, Nat.le_of_ble_eq_true rfl⟩, fun q hq => fr_of hD2 hq, hr, b, rfl⟩
      show va_X (A2 A qp qr qw (60, 0)) L xsc s s.heap ∧ A2 A qp qr qw (60, 0) < s.heap.size ∧ ¬ frA true (A2 A qp qr qw) (A2 A qp qr qw (60, 0))
      rw [hb2]
      exact ⟨hX, hbl, fun z => Nat.not_le.mpr hbl (fr_of hD2 z)⟩
    have hgo := g_L_lawB hMW x3 x4 (M2 m1) 1 mf hmf (fun v hv => by cases hv) (fun v hv => by
      simp only [List.mem_cons, List.not_mem_nil, or_false, Option.some.injEq, reduceCtorEq] at hv
      rcases hv with rfl | rfl | rfl | rfl | rfl | rfl | rfl | rfl
      · exact Or.inr rfl
      · exact Or.inl (show (0, 0) ∈ vrefs true from by decide)
      · exact Or.inl (show (70, 0) ∈ vrefs true from by decide)
      · trivial
      · trivial
      · exact Or.inl (show (71, 0) ∈ vrefs true from by decide)
      · exact Or.inl (show (72, 0) ∈ vrefs true from by decide)
      · exact Or.inl (show (73, 0) ∈ vrefs true from by decide)) H [] lsa hP2 ⟨hS.1, fun q h1 _ => hS.2.1 q h1 (Nat.not_le.mpr h1), fun l hl => by cases hl⟩ ⟨hLv.1, rfl, hLv.2.1, fun k v hk => by
        have hl4 : k < 17 := (List.getElem?_eq_some_iff.mp hk).1
        rcases (show k = 0 ∨ k = 1 ∨ k = 2 ∨ k = 3 ∨ k = 4 ∨ k = 5 ∨ k = 6 ∨ k = 7 ∨ k = 8 ∨ k = 9 ∨ k = 10 ∨ k = 11 ∨ k = 12 ∨ k = 13 ∨ k = 14 ∨ k = 15 ∨ k = 16 by omega) with rfl | rfl | rfl | rfl | rfl | rfl | rfl | rfl | rfl | rfl | rfl | rfl | rfl | rfl | rfl | rfl | rfl
        · cases hk; exact lv_at hLv 3 rfl
        · cases hk; exact lv_at hLv 4 rfl
        · cases hk; exact lv_at hLv 5 rfl
        · cases hk; exact lv_at hLv 6 rfl
        · cases hk; exact lv_at hLv 7 rfl
        · cases hk; exact lv_at hLv 2 rfl
        · cases hk; exact lv_at hLv 1 rfl
        · cases hk; exact lv_at hLv 0 rfl
        all_goals cases hk⟩
    intro T hT Xs
    obtain ⟨t, a1, b1⟩ := hgo T hT Xs
    exact ⟨t, a1, b1 rfl⟩
  exact key H locs lsa hP0 hD0 hSt1 hLv
theorem law_runs {L : Nat} {xsc : Nat → Int32} (hL : L ≤ 260) : ∃ r m', f_L_lawA L xsc m0 = some (r, m') ∧ ∃ mf, f_L_lawB L xsc r.1 r.2 (M2 m') = some (1, mf) := by
  obtain ⟨c, m', e1, e2, e3⟩ := lawA_l (L := L) (xsc := xsc) hL CI_m0
  obtain ⟨hW, hn1⟩ := lawF_WF L xsc
  have hJ : JI (M2 m') (upS_ (fun _ => none) 0 (some (0, 60, c))) (lawF L xsc) := ⟨CI_cong (fun t ht => M2_lo (by omega)) e2, GI_cong (M2_lo (by decide)) e3, hW⟩
  exact ⟨_, m', e1, lawB_l _ hL hJ hn1 (upS_ne (by decide))⟩
set_option maxHeartbeats 4000000 in
set_option maxRecDepth 100000 in
theorem whole_start {p : Program} {e : Env} {s : State} {m : MethodId} {below : List Frame} {meth : Method} {c : Code} (l : Launch) (hflags : l.flags = flags0) {b L : Nat} {xsc : Nat → Int32} (hL : L ≤ 260) (C0 : lw_At p s m meth c b L xsc) : W p l e room_1 s m #[Value.ref b] below meth c s.heap [] 0 0 (lw_Z below #[Value.ref b] s) (entryFrame m ([Value.ref b] : List Value).toArray 17) := by
  have C1 := C0
  obtain ⟨hx, hb, hr, hml, hown, hts, hX, hbl, hlocks, hgv⟩ := C0
  obtain ⟨dC, dI, cs, hKU⟩ := KU_start hts
  have hw : ∀ w ∈ wsC, w.before #[Value.ref b] s = true := fun w h => hts w (List.mem_filter.mp h).1
  have hl := lv_entry ([.ref b]) (n := 17) (Nat.le_of_ble_eq_true rfl)
  rw [lg_entry_eq]
  have key : KG (p, e, room_1, s, m, #[Value.ref b], below, meth, c, (l, (fun _ => 0), dC, dI, cs, false, 0, fun _ => 0), 0, 0, 17) (fun q => s.heap.size ≤ q) (lw_Z below #[Value.ref b] s) 0 [(0, .ref b)] [] [] 0 0 := by
    generalize hXe : ((p, e, room_1, s, m, #[Value.ref b], below, meth, c, (l, (fun _ => 0), dC, dI, cs, false, 0, fun _ => 0), 0, 0, 17) : XT) = X
    have h : KC X code RL := by
      subst hXe
      exact ⟨hx, hb, hml, hown, hw, hKU, hlocks⟩
    have hR : xR X = room_1 := by subst hXe; rfl
    have hA : ∀ q, (xs X).heap.size ≤ q → (fun q => s.heap.size ≤ q) q := fun q hq => by subst hXe; exact hq
    have hn : xn X = 17 := by subst hXe; rfl
    refine kg_new h hA (index := 20) (ci := 6) (C := RX6) (T := TX6) (N := 7) (fs := dvX6) rfl (by decide +kernel) (wsC_at 22 (by decide +kernel) rfl) (wsC_at 23 (by decide +kernel) rfl) (wsC_at 13 (by decide +kernel) rfl) dfX6 (by rw [hR]; exact ⟨Nat.le_of_ble_eq_true rfl, Nat.le_of_ble_eq_true rfl⟩) (fun q6 => ?_)
    refine kg_dup h (by decide +kernel) rfl ?_
    refine kg_ctor h hA (index := 53) (ctiX6 _ _ _ _) (by decide +kernel) (wsC_at 24 (by decide +kernel) rfl) (wsC_at 25 (by decide +kernel) rfl) (wsC_at 13 (by decide +kernel) rfl) (wsC_at 26 (by decide +kernel) rfl) rfl (by decide +kernel) (by rw [hR]; exact ⟨Nat.le_of_ble_eq_true rfl, Nat.le_of_ble_eq_true rfl⟩) (by rw [hR]; exact ⟨Nat.le_of_ble_eq_true rfl, Nat.le_of_ble_eq_true rfl⟩) (Nat.le_of_ble_eq_true rfl) (fun a6 => ?_)
    refine kg_astore h (j := 1) (ls' := [(1, .ref q6), (0, .ref b)]) (by decide +kernel) (by rw [hn]; decide) rfl ?_
    refine kg_bipush h (z := 28) (28 : Int32) (by decide +kernel) (by decide) ?_
    refine kg_newa h hA 28 (by decide) (by decide) (by decide) (by decide +kernel) (wsC_at 51 (by decide +kernel) rfl) (by rw [hR]; exact ⟨Nat.le_of_ble_eq_true rfl, Nat.le_of_ble_eq_true rfl⟩) (fun qg => ?_)
    refine kg_astore h (j := 2) (ls' := [(2, .ref qg), (1, .ref q6), (0, .ref b)]) (by decide +kernel) (by rw [hn]; decide) rfl ?_
    refine kg_widen (n' := 60) (k' := 700) (Nat.le_of_ble_eq_true rfl) (Nat.le_of_ble_eq_true rfl) ?_
    subst hXe
    intro H locs lsa hP hD hS hLv
    have hws : ([] : va_W) ++ LX6 cs q6 a6 ++ [(qg, .inl (cs 0, 28, .inl (fun _ => 0)))] = wsM false (Aof b q6 a6 qg 0 0 0) cs m0 := world_eq (b := b) cs
    have hP2 : va_P (dC, dI) vwCl (wsM false (Aof b q6 a6 qg 0 0 0) cs m0) H := hws ▸ hP
    have hD2 : va_D (fun q => s.heap.size ≤ q) (wsM false (Aof b q6 a6 qg 0 0 0) cs m0) := hws ▸ hD
    refine va_forget (fun q hq => hS.2.2 q hq) ?_
    obtain ⟨r, m', hm', hrun⟩ := law_runs (L := L) (xsc := xsc) hL
    have hMW : MW (p, e, room_1, s, m, #[Value.ref b], below, meth, c, (l, Aof b q6 a6 qg 0 0 0, dC, dI, cs, false, L, xsc), 60, 700, 17) := by
      refine ⟨⟨hx, hb, hml, hown, hw, hKU.2.2, hKU.1, ⟨injA_of hD2, ⟨hX, hbl, fun z => Nat.not_le.mpr hbl (fr_of hD2 z)⟩⟩, hlocks, pt_L⟩, ⟨rfl, Nat.le_of_ble_eq_true rfl, Nat.le_of_ble_eq_true rfl⟩, fun q hq => fr_of hD2 hq, hr, b, rfl⟩
    have hgo := g_L_lawA hMW m0 r m' hm' (fun v hv => by cases hv) (fun v hv => by
      simp only [List.mem_cons, List.not_mem_nil, or_false, Option.some.injEq, reduceCtorEq] at hv
      rcases hv with rfl | rfl | rfl
      · exact Or.inr rfl
      · exact Or.inl (show (0, 0) ∈ vrefs false from by decide)
      · exact Or.inl (show (70, 0) ∈ vrefs false from by decide)) H [] lsa hP2 ⟨hS.1, fun q h1 _ => hS.2.1 q h1 (Nat.not_le.mpr h1), fun l hl => by cases hl⟩ ⟨hLv.1, rfl, hLv.2.1, fun k v hk => by
        have hl4 : k < 17 := (List.getElem?_eq_some_iff.mp hk).1
        rcases (show k = 0 ∨ k = 1 ∨ k = 2 ∨ k = 3 ∨ k = 4 ∨ k = 5 ∨ k = 6 ∨ k = 7 ∨ k = 8 ∨ k = 9 ∨ k = 10 ∨ k = 11 ∨ k = 12 ∨ k = 13 ∨ k = 14 ∨ k = 15 ∨ k = 16 by omega) with rfl | rfl | rfl | rfl | rfl | rfl | rfl | rfl | rfl | rfl | rfl | rfl | rfl | rfl | rfl | rfl | rfl
        · cases hk; exact lv_at hLv 2 rfl
        · cases hk; exact lv_at hLv 1 rfl
        · cases hk; exact lv_at hLv 0 rfl
        all_goals cases hk⟩
    intro T hT Xs
    obtain ⟨t, a1, b1⟩ := hgo T hT Xs
    exact ⟨t, a1, b1 (law_two C1 hKU rfl (injA_of hD2) (fun q hq => fr_of hD2 hq) hrun)⟩
  exact key s.heap [] _ (fun k q h => (by cases h)) ⟨fun i j x y h => (by cases h), fun k q h => (by cases h)⟩ va_S.rf hl
