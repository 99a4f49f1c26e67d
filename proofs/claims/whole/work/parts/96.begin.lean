/-! ===== the start ===== -/
theorem Inv_m0 : Inv m0 := by
  refine ⟨0, 0, fun _ => none, fun _ _ => 0, 0, fun _ => 0, fun _ => 0, ?_, ?_, ?_⟩
  · exact ⟨fun _ _ => trivial, ⟨by decide, by decide, by decide, fun f hf => absurd hf (Nat.not_lt_zero f)⟩, by decide, fun q hq => absurd hq (Nat.not_lt_zero q)⟩
  · exact ⟨rfl, rfl, fun k _ => rfl, ⟨rfl, rfl, rfl, fun f hf => absurd hf (Nat.not_lt_zero f)⟩, ⟨rfl, fun q hq => absurd hq (Nat.not_lt_zero q)⟩, Or.inl rfl⟩
  · refine ⟨rfl, rfl, fun k hk => ?_, ⟨rfl, rfl, rfl, rfl, fun f hf => absurd hf (Nat.not_lt_zero f)⟩, rfl, fun q hq => absurd hq (Nat.not_lt_zero q)⟩
    rcases (show k = 0 ∨ k = 1 ∨ k = 2 ∨ k = 3 by omega) with rfl | rfl | rfl | rfl <;> rfl
theorem injA_of {A : AR → Nat} {cs : Nat → ClassId} {m : Mem} {S : Nat → Prop} (h : va_D S (wsM A cs m)) : injA A := fun r hr q hq e => by
  obtain ⟨i, i1, i2⟩ := wsM_at (A := A) (cs := cs) (m := m) hr
  obtain ⟨j, j1, j2⟩ := wsM_at (A := A) (cs := cs) (m := m) hq
  have := h.1 i j _ _ i2 j2 e
  subst this
  exact Option.some.inj (i1.symm.trans j1)
theorem fr_of {A : AR → Nat} {cs : Nat → ClassId} {m : Mem} {S : Nat → Prop} (h : va_D S (wsM A cs m)) {q : Nat} (hq : frA A q) : S q := by
  obtain ⟨r, hr, rfl⟩ := hq
  obtain ⟨i, -, i2⟩ := wsM_at (A := A) (cs := cs) (m := m) hr
  exact h.2 i _ i2
theorem inst_all : ∀ (ci : Nat) (z : vw_C), vwCl[ci]? = some z → Cond.instantiable z.1 z.2.2 ∈ wsC := fun ci z h => by
  have hl : ci < 8 := (List.getElem?_eq_some_iff.mp h).1
  rcases (show ci = 0 ∨ ci = 1 ∨ ci = 2 ∨ ci = 3 ∨ ci = 4 ∨ ci = 5 ∨ ci = 6 ∨ ci = 7 by omega) with rfl | rfl | rfl | rfl | rfl | rfl | rfl | rfl
  · cases h; exact wsC_at 155 (by decide +kernel) rfl
  · cases h; exact wsC_at 102 (by decide +kernel) rfl
  · cases h; exact wsC_at 244 (by decide +kernel) rfl
  · cases h; exact wsC_at 217 (by decide +kernel) rfl
  · cases h; exact wsC_at 72 (by decide +kernel) rfl
  · cases h; exact wsC_at 95 (by decide +kernel) rfl
  · cases h; exact wsC_at 63 (by decide +kernel) rfl
  · cases h; exact wsC_at 613 (by decide +kernel) rfl
theorem KU_start {s : State} {args : Array Value} (hts : ∀ w ∈ lw_tbl, w.before args s = true) : ∃ (dC : Nat → ClassId) (dI : Nat → Nat → Nat) (cs : Nat → ClassId), KU dC dI cs s := by
  have hw : ∀ w ∈ wsC, w.before args s = true := fun w h => hts w (List.mem_filter.mp h).1
  have hk : ∀ ci : Nat, ∃ z : ClassId × (Nat → Nat), ∀ q : vw_C, vwCl[ci]? = some q → u_Kn s q.1 q.2.1 q.2.2 z.1 z.2 := fun ci => by
    cases hc : vwCl[ci]? with
    | none => exact ⟨(default, fun _ => 0), fun q h => by cases h⟩
    | some z =>
      obtain ⟨cC, iS, h⟩ := u_known hw (u_all ci z hc) (hw _ (inst_all ci z hc))
      exact ⟨(cC, iS), fun q h2 => by cases h2; exact h⟩
  obtain ⟨f, hf⟩ := Classical.axiomOfChoice hk
  have w0 : (Cond.arrayClass .int).before args s = true := hts _ (List.mem_of_getElem? (i := 93) (by decide +kernel))
  have w1 : (Cond.arrayOver (.object RX4)).before args s = true := hts _ (List.mem_of_getElem? (i := 71) (by decide +kernel))
  have w2 : (Cond.arrayOver (.object RX1)).before args s = true := hts _ (List.mem_of_getElem? (i := 101) (by decide +kernel))
  have w3 : (Cond.arrayOver (.array .int)).before args s = true := hts _ (List.mem_of_getElem? (i := 161) (by decide +kernel))
  obtain ⟨c0, k0, p0, x1, x2, x3⟩ := Cond.arrayClass_spec w0
  obtain ⟨p1, c1, k1, y1, y2, y3, y4, y5⟩ := Cond.arrayOver_spec w1
  obtain ⟨p2, c2, k2, z1, z2, z3, z4, z5⟩ := Cond.arrayOver_spec w2
  obtain ⟨p3, c3, k3, t1, t2, t3, t4, t5⟩ := arrayOverA_spec w3
  refine ⟨fun c => (f c).1, fun c => (f c).2, fun k => [c0, c1, c2, c3].getD k 0, ⟨fun c q h => hf c q h, fun k q h => ?_⟩, ⟨va_AO.of w1, va_AO.of w2, w3⟩, fun w h => va_Nw.of (nest_on h).1 (hts w (List.mem_filter.mp h).1)⟩
  have hl : k < 4 := (List.getElem?_eq_some_iff.mp h).1
  rcases (show k = 0 ∨ k = 1 ∨ k = 2 ∨ k = 3 by omega) with rfl | rfl | rfl | rfl
  · cases h
    exact ⟨fun n z => ⟨(fun k h => by cases h), k0, x2, p0, x3⟩, x1⟩
  · cases h
    exact ⟨fun n z => ⟨(fun k h => by cases h), k1, y3, p1, y4⟩, k1, p1, y3, y4, y1, y5⟩
  · cases h
    exact ⟨fun n z => ⟨(fun k h => by cases h), k2, z3, p2, z4⟩, k2, p2, z3, z4, z1, z5⟩
  · cases h
    exact ⟨fun n z => ⟨(fun k h => by cases h), k3, t3, p3, t4⟩, t5⟩
set_option maxHeartbeats 4000000 in
set_option maxRecDepth 100000 in
theorem whole_start {p : Program} {e : Env} {s : State} {m : MethodId} {below : List Frame} {meth : Method} {c : Code} (l : Launch) (hflags : l.flags = flags0) {b L : Nat} {xsc : Nat → Int32} (hL : L ≤ 3584) (C0 : lw_At p s m meth c b L xsc) : W p l e room_1 s m #[Value.ref b] below meth c s.heap [] 0 0 (lw_Z below #[Value.ref b] s) (entryFrame m ([Value.ref b] : List Value).toArray 4) := by
  obtain ⟨hx, hb, hr, hml, hown, hts, hX, hbl, hlocks, hgv⟩ := C0
  obtain ⟨dC, dI, cs, hKU⟩ := KU_start hts
  have hw : ∀ w ∈ wsC, w.before #[Value.ref b] s = true := fun w h => hts w (List.mem_filter.mp h).1
  have hl := lv_entry ([.ref b]) (n := 4) (Nat.le_of_ble_eq_true rfl)
  rw [lg_entry_eq]
  have key : KG (p, l, e, room_1, s, m, #[Value.ref b], below, meth, c, (fun _ => 0), dC, dI, cs, 0, 0, 4) (fun q => s.heap.size ≤ q) (lw_Z below #[Value.ref b] s) 0 [(0, .ref b)] [] [] 0 0 := by
    generalize hXe : ((p, l, e, room_1, s, m, #[Value.ref b], below, meth, c, (fun _ => 0), dC, dI, cs, 0, 0, 4) : XT) = X
    have h : KC X code RL := by
      subst hXe
      exact ⟨hx, hb, hml, hown, hw, hKU, hlocks⟩
    have hR : xR X = room_1 := by subst hXe; rfl
    have hA : ∀ q, (xs X).heap.size ≤ q → (fun q => s.heap.size ≤ q) q := fun q hq => by subst hXe; exact hq
    have hn : xn X = 4 := by subst hXe; rfl
    refine kg_new h hA (index := 7) (ci := 6) (C := RX6) (T := TX6) (N := 7) (fs := dvX6) rfl (by decide +kernel) (wsC_at 62 (by decide +kernel) rfl) (wsC_at 63 (by decide +kernel) rfl) (wsC_at 51 (by decide +kernel) rfl) dfX6 (by rw [hR]; exact ⟨Nat.le_of_ble_eq_true rfl, Nat.le_of_ble_eq_true rfl⟩) (fun q6 => ?_)
    refine kg_dup h (by decide +kernel) rfl ?_
    refine kg_ctor h hA (index := 9) (ctiX6 _ _ _ _) (by decide +kernel) (wsC_at 64 (by decide +kernel) rfl) (wsC_at 65 (by decide +kernel) rfl) (wsC_at 51 (by decide +kernel) rfl) (wsC_at 66 (by decide +kernel) rfl) rfl (by decide +kernel) (by rw [hR]; exact ⟨Nat.le_of_ble_eq_true rfl, Nat.le_of_ble_eq_true rfl⟩) (by rw [hR]; exact ⟨Nat.le_of_ble_eq_true rfl, Nat.le_of_ble_eq_true rfl⟩) (Nat.le_of_ble_eq_true rfl) (fun a6 => ?_)
    refine kg_astore h (j := 1) (ls' := [(1, .ref q6), (0, .ref b)]) (by decide +kernel) (by rw [hn]; decide) rfl ?_
    refine kg_new h hA (index := 10) (ci := 7) (C := RX7) (T := TX7) (N := 35) (fs := dvX7) rfl (by decide +kernel) (wsC_at 612 (by decide +kernel) rfl) (wsC_at 613 (by decide +kernel) rfl) (wsC_at 58 (by decide +kernel) rfl) dfX7 (by rw [hR]; exact ⟨Nat.le_of_ble_eq_true rfl, Nat.le_of_ble_eq_true rfl⟩) (fun q7 => ?_)
    refine kg_dup h (by decide +kernel) rfl ?_
    refine kg_ctor h hA (index := 12) (ctiX7 _ _ _ _) (by decide +kernel) (wsC_at 614 (by decide +kernel) rfl) (wsC_at 615 (by decide +kernel) rfl) (wsC_at 58 (by decide +kernel) rfl) (wsC_at 616 (by decide +kernel) rfl) rfl (by decide +kernel) (by rw [hR]; exact ⟨Nat.le_of_ble_eq_true rfl, Nat.le_of_ble_eq_true rfl⟩) (by rw [hR]; exact ⟨Nat.le_of_ble_eq_true rfl, Nat.le_of_ble_eq_true rfl⟩) (Nat.le_of_ble_eq_true rfl) (fun a7 => ?_)
    refine kg_astore h (j := 2) (ls' := [(2, .ref q7), (1, .ref q6), (0, .ref b)]) (by decide +kernel) (by rw [hn]; decide) rfl ?_
    refine kg_widen (n' := 70) (k' := 1062) (Nat.le_of_ble_eq_true rfl) (Nat.le_of_ble_eq_true rfl) ?_
    subst hXe
    intro H locs lsa hP hD hS hLv
    have hws : ([] : va_W) ++ LX6 cs q6 a6 ++ LX7 cs q7 a7 = wsM (Aof b q6 a6 q7 a7) cs m0 := world_eq (b := b) cs
    have hP2 : va_P (dC, dI) vwCl (wsM (Aof b q6 a6 q7 a7) cs m0) H := hws ▸ hP
    have hD2 : va_D (fun q => s.heap.size ≤ q) (wsM (Aof b q6 a6 q7 a7) cs m0) := hws ▸ hD
    refine va_forget (fun q hq => hS.2.2 q hq) ?_
    obtain ⟨m', hm'⟩ := law_all (xsc := xsc) hL Inv_m0
    have hMW : MW (p, l, e, room_1, s, m, #[Value.ref b], below, meth, c, Aof b q6 a6 q7 a7, dC, dI, cs, 70, 1062, 4) L xsc := by
      refine ⟨⟨hx, hb, hml, hown, hw, hKU.2.2, hKU.1, injA_of hD2, hlocks, pt_L⟩, ⟨rfl, Nat.le_of_ble_eq_true rfl, Nat.le_of_ble_eq_true rfl⟩, ⟨hX, hbl, fun z => Nat.not_le.mpr hbl (fr_of hD2 z)⟩, fun q hq => fr_of hD2 hq, hr, b, rfl⟩
    have hgo := g_L_law L xsc hMW m0 1 m' hm' (fun v hv => by cases hv) (fun v hv => by
      simp only [List.mem_cons, List.not_mem_nil, or_false, Option.some.injEq, reduceCtorEq] at hv
      rcases hv with rfl | rfl | rfl
      · exact Or.inr rfl
      · exact Or.inl (by decide)
      · exact Or.inl (by decide)) H [] lsa hP2 ⟨hS.1, fun q h1 _ => hS.2.1 q h1 (Nat.not_le.mpr h1), fun l hl => by cases hl⟩ ⟨hLv.1, rfl, hLv.2.1, fun k v hk => by
        have hl4 : k < 4 := (List.getElem?_eq_some_iff.mp hk).1
        rcases (show k = 0 ∨ k = 1 ∨ k = 2 ∨ k = 3 by omega) with rfl | rfl | rfl | rfl
        · cases hk; exact lv_at hLv 2 rfl
        · cases hk; exact lv_at hLv 1 rfl
        · cases hk; exact lv_at hLv 0 rfl
        · cases hk⟩
    intro T hT Xs
    obtain ⟨t, a1, b1⟩ := hgo T hT Xs
    exact ⟨t, a1, b1 rfl⟩
  exact key s.heap [] _ (fun k q h => (by cases h)) ⟨fun i j x y h => (by cases h), fun k q h => (by cases h)⟩ va_S.rf hl
