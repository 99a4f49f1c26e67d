/-! ===== a row of passes ===== -/
def walkS (F : FdT) (fs hs : Nat → Nat) : Nat → Nat → FdT → FdT ⊕ Nat
  | 0, _, C => .inl C
  | k + 1, p, C => match passS F C (fs p) (hs p) with
    | some q => walkS F fs hs k (p + 1) q.1
    | none => .inr p
theorem walkS_s {F : FdT} {fs hs : Nat → Nat} {k p : Nat} {C : FdT} : walkS F fs hs (k + 1) p C = (match passS F C (fs p) (hs p) with
    | some q => walkS F fs hs k (p + 1) q.1
    | none => .inr p) := rfl
theorem walkS_CB {F : FdT} {fs hs : Nat → Nat} (hW : WC F) : ∀ (k p g : Nat) (C C' : FdT), (∀ q, q < p + k → fs q < F 0 0) → CB C g → walkS F fs hs k p C = .inl C' → CB C' (g + 36 * k)
  | 0, p, g, C, C', _, hB, h => by cases h; exact hB
  | k + 1, p, g, C, C', hf, hB, h => by
    rw [walkS_s] at h
    cases hx : passS F C (fs p) (hs p) with
    | none => rw [hx] at h; cases h
    | some q =>
      rw [hx] at h
      have := walkS_CB hW k (p + 1) (g + 36) q.1 C' (fun z hz => hf z (by omega)) (passS_CB (p := q.2) hW (hf p (by omega)) hB (by rw [hx])) h
      exact this.mono (by omega)
theorem walkS_lt {F : FdT} {fs hs : Nat → Nat} : ∀ (k p : Nat) (C : FdT) (j : Nat), walkS F fs hs k p C = .inr j → p ≤ j ∧ j < p + k
  | 0, p, C, j, h => by cases h
  | k + 1, p, C, j, h => by
    rw [walkS_s] at h
    cases hx : passS F C (fs p) (hs p) with
    | none => rw [hx] at h; cases h; omega
    | some q =>
      rw [hx] at h
      have := walkS_lt k (p + 1) q.1 j h
      omega
theorem at_c {m : Mem} {k j ln len : Nat} {c : Nat → Int32} (h : SC m k (some (ln, len, c))) (hl : len ≤ 60) (hj : j < len) : f_X4_at k (nI j) m = some (c j, m) := by
  have h1 := holds_n (n := 1) hl (show j < 2 ^ 31 by omega) (by decide) h.2.2.1
  rw [if_pos (by omega)] at h1
  have h1 : f_X4_holds k (nI j) 1 m = some (1, m) := h1
  simp [f_X4_at, h1, bnd, inB_nI (show j < 60 by omega) (by decide), ix_nI (show j < 2 ^ 31 by omega), h.2.2.2 j (by omega)]
theorem nI_2 (a p : Nat) : nI a + (2 : Int32) * nI p = nI (a + 2 * p) := by
  rw [show (2 : Int32) = nI 2 from rfl, pk_mul, nI_add]
/-- the cells of a row: pairs fish, how -/
def Row (F : FdT) (c : Nat → Int32) (a q : Nat) (fs hs : Nat → Nat) : Prop := ∀ p, p < q → fs p < F 0 0 ∧ hs p < 4 ∧ c (a + 2 * p) = nI (fs p) ∧ c (a + 2 * p + 1) = nI (hs p)
theorem walk_c {m : Mem} {w k a q ln len g : Nat} {c : Nat → Int32} {F C : FdT} {fs hs : Nat → Nat} (hX : XR m w F C) (hW : WC F) (hB : CB C g) (hS : SC m k (some (ln, len, c))) (hl : len ≤ 60) (ha : a + 2 * q ≤ len) (hR : Row F c a q fs hs) :
    match walkS F fs hs q 0 C with
    | .inl C' => ∃ m', f_X0_walk w k (nI a) (nI q) m = some (-9, m') ∧ XF m m' ∧ XR m' w F C'
    | .inr p => ∃ m', f_X0_walk w k (nI a) (nI q) m = some (nI p, m') ∧ XF m m' := by
  -- by turns left
  have key : ∀ (t p n g : Nat) (m0 : Mem) (C : FdT), p + t = q → t < n → XF m m0 → XR m0 w F C → CB C g → match walkS F fs hs t p C with
      | .inl C' => ∃ m', lpk (f_X0_walk_b3 w k (nI a) (nI q)) n (nI p, m0) (fun t3 => some ((-9 : Int32), t3)) = some (-9, m') ∧ XF m m' ∧ XR m' w F C'
      | .inr j => ∃ m', lpk (f_X0_walk_b3 w k (nI a) (nI q)) n (nI p, m0) (fun t3 => some ((-9 : Int32), t3)) = some (nI j, m') ∧ XF m m' := by
    intro t
    induction t with
    | zero =>
      intro p n g m0 C hp hn hF hX hB
      obtain ⟨n, rfl⟩ : ∃ n', n = n' + 1 := ⟨n - 1, by omega⟩
      have e : p = q := by omega
      subst e
      refine ⟨m0, ?_, hF, hX⟩
      rw [lpk_s]
      unfold f_X0_walk_b3
      dsimp only
      rw [if_pos (nI_le (Nat.le_refl _) (by omega))]
    | succ t ih =>
      intro p n g m0 C hp hn hF hX hB
      obtain ⟨n, rfl⟩ : ∃ n', n = n' + 1 := ⟨n - 1, by omega⟩
      obtain ⟨r1, r2, r3, r4⟩ := hR p (by omega)
      have hS0 : SC m0 k (some (ln, len, c)) := by
        unfold SC at hS ⊢
        rw [hF 2 (by decide), hF 3 (by decide)]
        exact hS
      have hge : ¬ nI q ≤ nI p := nI_ge (by omega) (by omega)
      have a1 := at_c hS0 hl (show a + 2 * p < len by omega)
      have a2 := at_c hS0 hl (show a + 2 * p + 1 < len by omega)
      rw [r3] at a1
      rw [r4] at a2
      have hp2 := pass_c hX hW hB r1 r2
      have step : ∀ (r : Int32) (m1 : Mem), f_X0_pass w (nI (fs p)) (nI (hs p)) m0 = some (r, m1) → lpk (f_X0_walk_b3 w k (nI a) (nI q)) (n + 1) (nI p, m0) (fun t3 => some ((-9 : Int32), t3)) = if r = -2 then some (nI p, m1) else lpk (f_X0_walk_b3 w k (nI a) (nI q)) n (nI (p + 1), m1) (fun t3 => some ((-9 : Int32), t3)) := by
        intro r m1 hr
        rw [lpk_s]
        unfold f_X0_walk_b3
        dsimp only
        rw [if_neg hge, nI_2, a1, bnd_some, nI_1, a2, bnd_some, hr, bnd_some, nI_1]
      rw [walkS_s]
      cases hx : passS F C (fs p) (hs p) with
      | none =>
        rw [hx] at hp2
        refine ⟨m0, ?_, hF⟩
        rw [step _ _ hp2, if_pos rfl]
      | some z =>
        rw [hx] at hp2
        obtain ⟨hz, m1, e1, e2, e3⟩ := hp2
        have hne : ¬ payI z.2 = -2 := by
          have : ∀ x, x < 6 → ¬ payI x = -2 := by decide
          exact this _ (by omega)
        have := ih (p + 1) n (g + 36) m1 z.1 (by omega) (by omega) (hF.tr e2) e3 (passS_CB (p := z.2) hW r1 hB (by rw [hx]))
        rw [step _ _ e1, if_neg hne]
        exact this
  unfold f_X0_walk
  exact key q 0 fuelN g m C (by omega) (by unfold fuelN; omega) XF.rf hX hB
/-- the reference goes by its laid row -/
def Laid (m : Mem) (q : Nat) (fs hs : Nat → Nat) : Prop := m 30 0 24 = nI q ∧ ∀ p, p < q → m 42 0 p = nI (fs p) ∧ m 43 0 p = nI (hs p)
theorem RFr.laid {m m' : Mem} {q : Nat} {fs hs : Nat → Nat} (h : RFr m m') (hL : Laid m q fs hs) : Laid m' q fs hs :=
  ⟨by rw [h.2 24 (by decide)]; exact hL.1, fun p hp => by rw [h.1 42 (by decide) (by decide) (by decide), h.1 43 (by decide) (by decide) (by decide)]; exact hL.2 p hp⟩
theorem mrow_up {m : Mem} {a : Nat → Int32} {i t : Nat} (h : ∀ f, f < i → m t 0 f = a f) {v : Int32} (hv : v = a i) : ∀ f, f < i + 1 → mset m t 0 i v t 0 f = a f := fun f hf => by
  by_cases e : f = i
  · subst e; simp [mset, hv]
  · simpa [mset, e] using h f (by omega)
theorem begin_r {m : Mem} {F : FdT} (hT : TR m F) (hW : WC F) : ∃ m', f_X7_begin m = some ((), m') ∧ RFr m m' ∧ RX m' F (startS F) := by
  have hn := hW.1
  have key1 : ∀ (t x n : Nat) (m0 : Mem) (K : Mem → Option (Unit × Mem)), x + t = F 0 0 → t < n → RFr m m0 → (∀ f, f < x → m0 40 0 f = nI (F 5 f)) → ∃ m1, lpk f_X7_begin_b2 n (nI x, m0) K = K m1 ∧ RFr m m1 ∧ ∀ f, f < F 0 0 → m1 40 0 f = nI (F 5 f) := by
    intro t
    induction t with
    | zero =>
      intro x n m0 K hx hn2 hF h
      obtain ⟨n, rfl⟩ : ∃ n', n = n' + 1 := ⟨n - 1, by omega⟩
      have e : x = F 0 0 := by omega
      subst e
      refine ⟨m0, ?_, hF, h⟩
      have q0 := (hF.T hT).1
      have hle : nI (F 0 0) ≤ nI (F 0 0) := nI_le (Nat.le_refl _) (by omega)
      simp [lpk_s, f_X7_begin_b2, q0, hle]
    | succ t ih =>
      intro x n m0 K hx hn2 hF h
      obtain ⟨n, rfl⟩ : ∃ n', n = n' + 1 := ⟨n - 1, by omega⟩
      have q0 := (hF.T hT).1
      have hge : ¬ nI (F 0 0) ≤ nI x := nI_ge (by omega) (by omega)
      obtain ⟨b1, b2⟩ := i5 (f := x) (n := F 0 0) (by omega) hn
      have p5 := ((hF.T hT).2.2.2.2 x (by omega)).2.2.1
      obtain ⟨m1, e1, e2, e3⟩ := ih (x + 1) n (mset m0 40 0 x (nI (F 5 x))) K (by omega) (by omega) hF.s40 (mrow_up h rfl)
      refine ⟨m1, ?_, e2, e3⟩
      rw [← e1]
      simp [lpk_s, f_X7_begin_b2, q0, hge, b1, b2, p5, nI_succ]
  have key2 : ∀ (t x n : Nat) (m0 : Mem) (K : Mem → Option (Unit × Mem)), x + t = 25 → t < n → RFr m m0 → (∀ f, f < F 0 0 → m0 40 0 f = nI (F 5 f)) → (∀ f, f < x → m0 41 0 f = 0) → ∃ m1, lpk f_X7_begin_b30 n (nI x, m0) K = K m1 ∧ RFr m m1 ∧ (∀ f, f < F 0 0 → m1 40 0 f = nI (F 5 f)) ∧ ∀ f, f < 25 → m1 41 0 f = 0 := by
    intro t
    induction t with
    | zero =>
      intro x n m0 K hx hn2 hF h h2
      obtain ⟨n, rfl⟩ : ∃ n', n = n' + 1 := ⟨n - 1, by omega⟩
      have e : x = 25 := by omega
      subst e
      refine ⟨m0, ?_, hF, h, h2⟩
      have hle : (25 : Int32) ≤ nI 25 := by decide
      simp [lpk_s, f_X7_begin_b30, hle]
    | succ t ih =>
      intro x n m0 K hx hn2 hF h h2
      obtain ⟨n, rfl⟩ : ∃ n', n = n' + 1 := ⟨n - 1, by omega⟩
      have hge : ¬ (25 : Int32) ≤ nI x := nI_ge (b := 25) (by omega) (by decide)
      obtain ⟨m1, e1, e2, e3, e4⟩ := ih (x + 1) n (mset m0 41 0 x 0) K (by omega) (by omega) hF.s41 (fun f hf => by simpa [mset] using h f hf) (mrow_up (a := fun _ => 0) h2 rfl)
      refine ⟨m1, ?_, e2, e3, e4⟩
      rw [← e1]
      simp [lpk_s, f_X7_begin_b30, hge, inB_nI (show x < 25 by omega) (by decide), ix_nI (show x < 2 ^ 31 by omega), nI_succ]
  unfold f_X7_begin
  obtain ⟨m1, a1, a2, a3⟩ := key1 (F 0 0) 0 fuelN m (fun t2 => lpk (f_X7_begin_b30) fuelN ((0 : Int32), t2) (fun t30 => some ((), (mset (mset (mset (mset t30 30 0 20 (0 : Int32)) 30 0 21 (0 : Int32)) 30 0 22 ((mset (mset t30 30 0 20 (0 : Int32)) 30 0 21 (0 : Int32)) 30 0 8)) 30 0 23 (0 : Int32))))) (by omega) (by unfold fuelN; omega) RFr.rf (fun f hf => by omega)
  rw [show ((0 : Int32), m) = (nI 0, m) from rfl, a1]
  obtain ⟨m2, c1, c2, c3, c4⟩ := key2 25 0 fuelN m1 (fun t30 => some ((), (mset (mset (mset (mset t30 30 0 20 (0 : Int32)) 30 0 21 (0 : Int32)) 30 0 22 ((mset (mset t30 30 0 20 (0 : Int32)) 30 0 21 (0 : Int32)) 30 0 8)) 30 0 23 (0 : Int32)))) (by omega) (by decide) a2 a3 (fun f hf => by omega)
  rw [show ((0 : Int32), m1) = (nI 0, m1) from rfl, c1]
  refine ⟨_, rfl, (((c2.s30 (by decide) (by decide)).s30 (by decide) (by decide)).s30 (by decide) (by decide)).s30 (by decide) (by decide), ?_⟩
  have k8 := (c2.T hT).2.2.1
  refine ⟨by simp [mset, startS, k8], by simp [mset, startS, nI_0], by simp [mset, startS, nI_0], by simp [mset, startS, nI_0], fun f hf => ⟨?_, fun x hx => ?_⟩⟩
  · simpa [mset, startS, hf] using c3 f hf
  · have := c4 (5 * f + x) (by omega)
    simpa [mset, startS, o5, nI_0] using this
theorem go_r {m : Mem} {q : Nat} {F : FdT} {fs hs : Nat → Nat} (hT : TR m F) (hW : WC F) (hL : Laid m q fs hs) (hq : q ≤ 20) (hR : ∀ p, p < q → fs p < F 0 0 ∧ hs p < 4) :
    match walkS F fs hs q 0 (startS F) with
    | .inl C' => ∃ m', f_X7_go m = some (-9, m') ∧ RFr m m' ∧ RX m' F C'
    | .inr p => ∃ m', f_X7_go m = some (nI p, m') ∧ RFr m m' := by
  obtain ⟨m1, e1, e2, e3⟩ := begin_r hT hW
  have key : ∀ (t p n g : Nat) (m0 : Mem) (C : FdT), p + t = q → t < n → RFr m m0 → RX m0 F C → CB C g → match walkS F fs hs t p C with
      | .inl C' => ∃ m', lpk f_X7_go_b6 n (nI p, m0) (fun t3 => some ((-9 : Int32), t3)) = some (-9, m') ∧ RFr m m' ∧ RX m' F C'
      | .inr j => ∃ m', lpk f_X7_go_b6 n (nI p, m0) (fun t3 => some ((-9 : Int32), t3)) = some (nI j, m') ∧ RFr m m' := by
    intro t
    induction t with
    | zero =>
      intro p n g m0 C hp hn hF hX hB
      obtain ⟨n, rfl⟩ : ∃ n', n = n' + 1 := ⟨n - 1, by omega⟩
      have e : p = q := by omega
      subst e
      refine ⟨m0, ?_, hF, hX⟩
      have hle : nI p ≤ nI p := nI_le (Nat.le_refl _) (by omega)
      simp [lpk_s, f_X7_go_b6, (hF.laid hL).1, hle]
    | succ t ih =>
      intro p n g m0 C hp hn hF hX hB
      obtain ⟨n, rfl⟩ : ∃ n', n = n' + 1 := ⟨n - 1, by omega⟩
      obtain ⟨r1, r2⟩ := hR p (by omega)
      obtain ⟨l1, l2⟩ := hF.laid hL
      obtain ⟨r3, r4⟩ := l2 p (by omega)
      have hge : ¬ nI q ≤ nI p := nI_ge (by omega) (by omega)
      have hp2 := pass_r (hF.T hT) hX hW hB r1 r2
      have b1 : inB (nI p) 20 = true := inB_nI (by omega) (by decide)
      have b2 : ix (nI p) = p := ix_nI (by omega)
      have step : ∀ (r : Int32) (m1 : Mem), f_X7_pass (nI (fs p)) (nI (hs p)) m0 = some (r, m1) → lpk f_X7_go_b6 (n + 1) (nI p, m0) (fun t3 => some ((-9 : Int32), t3)) = if r = 0 then some (nI p, m1) else lpk f_X7_go_b6 n (nI (p + 1), m1) (fun t3 => some ((-9 : Int32), t3)) := by
        intro r m1 hr
        simp [lpk_s, f_X7_go_b6, l1, hge, b1, b2, r3, r4, hr, bnd, nI_succ]
      rw [walkS_s]
      cases hx : passS F C (fs p) (hs p) with
      | none =>
        rw [hx] at hp2
        obtain ⟨m1, e1, e2⟩ := hp2
        refine ⟨m1, ?_, hF.tr e2⟩
        rw [step _ _ e1, if_pos rfl]
      | some z =>
        rw [hx] at hp2
        obtain ⟨m1, e1, e2, e3⟩ := hp2
        have := ih (p + 1) n (g + 36) m1 z.1 (by omega) (by omega) (hF.tr e2) e3 (passS_CB (p := z.2) hW r1 hB (by rw [hx]))
        rw [step _ _ e1, if_neg (by decide)]
        exact this
  have := key q 0 fuelN 0 m1 (startS F) (by omega) (by unfold fuelN; omega) e2 e3 (CB_start hW)
  unfold f_X7_go
  rw [e1, bnd_some]
  exact this
