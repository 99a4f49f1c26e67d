/-! ===== a row of passes ===== -/
def walkS (F : FdT) (fs hs : Nat → Nat) : Nat → Nat → FdT → FdT ⊕ Nat
  | 0, _, C => .inl C
  | k + 1, p, C => match passS F C (fs p) (hs p) with
    | some q => walkS F fs hs k (p + 1) q.1
    | none => .inr p
theorem walkS_s {F : FdT} {fs hs : Nat → Nat} {k p : Nat} {C : FdT} : walkS F fs hs (k + 1) p C = (match passS F C (fs p) (hs p) with
    | some q => walkS F fs hs k (p + 1) q.1
    | none => .inr p) := rfl
theorem walkS_CB {F : FdT} {fs hs : Nat → Nat} (hW : WC F) : ∀ (k p g : Nat) (C C' : FdT), (∀ q, q < p + k → fs q < F 0 0) → CB C g → walkS F fs hs k p C = .inl C' → CB C' (g + 36 * k)
  | 0, p, g, C, C', _, hB, h => by cases h; exact hB
  | k + 1, p, g, C, C', hf, hB, h => by
    rw [walkS_s] at h
    cases hx : passS F C (fs p) (hs p) with
    | none => rw [hx] at h; cases h
    | some q =>
      rw [hx] at h
      have := walkS_CB hW k (p + 1) (g + 36) q.1 C' (fun z hz => hf z (by omega)) (passS_CB (p := q.2) hW (hf p (by omega)) hB (by rw [hx])) h
      exact this.mono (by omega)
theorem walkS_lt {F : FdT} {fs hs : Nat → Nat} : ∀ (k p : Nat) (C : FdT) (j : Nat), walkS F fs hs k p C = .inr j → p ≤ j ∧ j < p + k
  | 0, p, C, j, h => by cases h
  | k + 1, p, C, j, h => by
    rw [walkS_s] at h
    cases hx : passS F C (fs p) (hs p) with
    | none => rw [hx] at h; cases h; omega
    | some q =>
      rw [hx] at h
      have := walkS_lt k (p + 1) q.1 j h
      omega
theorem at_c {m : Mem} {k j ln len : Nat} {c : Nat → Int32} (h : SC m k (some (ln, len, c))) (hl : len ≤ 60) (hj : j < len) : f_X4_at k (nI j) m = some (c j, m) := by
  have h1 := holds_n (n := 1) hl (show j < 2 ^ 31 by omega) (by decide) h.2.2.1
  rw [if_pos (by omega)] at h1
  have h1 : f_X4_holds k (nI j) 1 m = some (1, m) := h1
  simp [f_X4_at, h1, bnd, inB_nI (show j < 60 by omega) (by decide), ix_nI (show j < 2 ^ 31 by omega), h.2.2.2 j (by omega)]
theorem nI_2 (a p : Nat) : nI a + (2 : Int32) * nI p = nI (a + 2 * p) := by
  rw [show (2 : Int32) = nI 2 from rfl, pk_mul, nI_add]
/-- the cells of a row: pairs fish, how -/
def Row (F : FdT) (c : Nat → Int32) (a q : Nat) (fs hs : Nat → Nat) : Prop := ∀ p, p < q → fs p < F 0 0 ∧ hs p < 4 ∧ c (a + 2 * p) = nI (fs p) ∧ c (a + 2 * p + 1) = nI (hs p)
theorem walk_c {m : Mem} {w k a q ln len g : Nat} {c : Nat → Int32} {F C : FdT} {fs hs : Nat → Nat} (hX : XR m w F C) (hW : WC F) (hB : CB C g) (hS : SC m k (some (ln, len, c))) (hl : len ≤ 60) (ha : a + 2 * q ≤ len) (hR : Row F c a q fs hs) :
    match walkS F fs hs q 0 C with
    | .inl C' => ∃ m', f_X0_walk w k (nI a) (nI q) m = some (-9, m') ∧ XF m m' ∧ XR m' w F C'
    | .inr p => ∃ m', f_X0_walk w k (nI a) (nI q) m = some (nI p, m') ∧ XF m m' := by
  -- by turns left
  have key : ∀ (t p n g : Nat) (m0 : Mem) (C : FdT), p + t = q → t < n → XF m m0 → XR m0 w F C → CB C g → match walkS F fs hs t p C with
      | .inl C' => ∃ m', lpk (f_X0_walk_b3 w k (nI a) (nI q)) n (nI p, m0) (fun t3 => some ((-9 : Int32), t3)) = some (-9, m') ∧ XF m m' ∧ XR m' w F C'
      | .inr j => ∃ m', lpk (f_X0_walk_b3 w k (nI a) (nI q)) n (nI p, m0) (fun t3 => some ((-9 : Int32), t3)) = some (nI j, m') ∧ XF m m' := by
    intro t
    induction t with
    | zero =>
      intro p n g m0 C hp hn hF hX hB
      obtain ⟨n, rfl⟩ : ∃ n', n = n' + 1 := ⟨n - 1, by omega⟩
      have e : p = q := by omega
      subst e
      refine ⟨m0, ?_, hF, hX⟩
      rw [lpk_s]
      unfold f_X0_walk_b3
      dsimp only
      rw [if_pos (nI_le (Nat.le_refl _) (by omega))]
    | succ t ih =>
      intro p n g m0 C hp hn hF hX hB
      obtain ⟨n, rfl⟩ : ∃ n', n = n' + 1 := ⟨n - 1, by omega⟩
      obtain ⟨r1, r2, r3, r4⟩ := hR p (by omega)
      have hS0 : SC m0 k (some (ln, len, c)) := by
        unfold SC at hS ⊢
        rw [hF 2 (by decide), hF 3 (by decide)]
        exact hS
      have hge : ¬ nI q ≤ nI p := nI_ge (by omega) (by omega)
      have a1 := at_c hS0 hl (show a + 2 * p < len by omega)
      have a2 := at_c hS0 hl (show a + 2 * p + 1 < len by omega)
      rw [r3] at a1
      rw [r4] at a2
      have hp2 := pass_c hX hW hB r1 r2
      have step : ∀ (r : Int32) (m1 : Mem), f_X0_pass w (nI (fs p)) (nI (hs p)) m0 = some (r, m1) → lpk (f_X0_walk_b3 w k (nI a) (nI q)) (n + 1) (nI p, m0) (fun t3 => some ((-9 : Int32), t3)) = if r = -2 then some (nI p, m1) else lpk (f_X0_walk_b3 w k (nI a) (nI q)) n (nI (p + 1), m1) (fun t3 => some ((-9 : Int32), t3)) := by
        intro r m1 hr
        rw [lpk_s]
        unfold f_X0_walk_b3
        dsimp only
        rw [if_neg hge, nI_2, a1, bnd_some, nI_1, a2, bnd_some, hr, bnd_some, nI_1]
      rw [walkS_s]
      cases hx : passS F C (fs p) (hs p) with
      | none =>
        rw [hx] at hp2
        refine ⟨m0, ?_, hF⟩
        rw [step _ _ hp2, if_pos rfl]
      | some z =>
        rw [hx] at hp2
        obtain ⟨hz, m1, e1, e2, e3⟩ := hp2
        have hne : ¬ payI z.2 = -2 := by
          have : ∀ x, x < 6 → ¬ payI x = -2 := by decide
          exact this _ (by omega)
        have := ih (p + 1) n (g + 36) m1 z.1 (by omega) (by omega) (hF.tr e2) e3 (passS_CB (p := z.2) hW r1 hB (by rw [hx]))
        rw [step _ _ e1, if_neg hne]
        exact this
  unfold f_X0_walk
  exact key q 0 fuelN g m C (by omega) (by unfold fuelN; omega) XF.rf hX hB
/-! ===== a crossing begins ===== -/
theorem nI_1' : nI 1 = 1 := rfl
theorem nI_2' : nI 2 = 2 := rfl
theorem nI_3' : nI 3 = 3 := rfl
def StA (m : Mem) (w : Nat) (F : FdT) : Prop := m 7 w 8 = nI (F 0 0) ∧ m 7 w 9 = nI (F 1 0) ∧ m 7 w 10 = nI (F 2 0) ∧ m 7 w 11 = 0 ∧ m 7 w 12 = 0 ∧ m 7 w 13 = 0
def StF (m : Mem) (w : Nat) (F : FdT) (f : Nat) : Prop := m 8 w f = nI (F 3 f) ∧ m 9 w f = nI (F 4 f) ∧ m 10 w f = nI (F 5 f) ∧ m 11 w f = nI (F 6 f) ∧ m 12 w f = nI (F 7 f) ∧ ∀ g, g < F 0 0 → m 14 (5 * w + f) g = 0
theorem XF.fill {m m' : Mem} {t i a n : Nat} {v : Int32} (h : XF m m') (h1 : 7 ≤ t) (h2 : t ≤ 16) : XF m (mfill m' t i a n v) := fun t' ht => (mfill_ne (by omega)).trans (h t' ht)
theorem start_c {m : Mem} {F : FdT} (w : Nat) (hT : TC m F) (hW : WC F) : ∃ m', f_X0_start w m = some ((), m') ∧ XF m m' ∧ XR m' w F (startS F) := by
  have hn := hW.1
  have key : ∀ (t x n : Nat) (m0 : Mem), x + t = F 0 0 → t < n → XF m m0 → StA m0 w F → (∀ f, f < x → StF m0 w F f) → ∃ m1, lpk (f_X0_start_b41 w) n (nI x, m0) (fun t41 => some ((), t41)) = some ((), m1) ∧ XF m m1 ∧ StA m1 w F ∧ ∀ f, f < F 0 0 → StF m1 w F f := by
    intro t
    induction t with
    | zero =>
      intro x n m0 hx hn2 hF hA h
      obtain ⟨n, rfl⟩ : ∃ n', n = n' + 1 := ⟨n - 1, by omega⟩
      have e : x = F 0 0 := by omega
      subst e
      refine ⟨m0, ?_, hF, hA, h⟩
      have hle : nI (F 0 0) ≤ nI (F 0 0) := nI_le (Nat.le_refl _) (by omega)
      simp [lpk_s, f_X0_start_b41, hA.1, hle]
    | succ t ih =>
      intro x n m0 hx hn2 hF hA h
      obtain ⟨n, rfl⟩ : ∃ n', n = n' + 1 := ⟨n - 1, by omega⟩
      have hge : ¬ nI (F 0 0) ≤ nI x := nI_ge (by omega) (by omega)
      obtain ⟨b1, b2⟩ := i5 (f := x) (n := F 0 0) (by omega) hn
      obtain ⟨t0, t1, t2, t3, t4⟩ := hT.2.2.2 x (by omega)
      rw [← hF 6 (by decide)] at t0 t1 t2 t3 t4
      obtain ⟨m1, e1, e2, e3, e4⟩ := ih (x + 1) n (mfill (mset (mset (mset (mset (mset m0 8 w x (m0 6 x 0)) 9 w x (m0 6 x 1)) 10 w x (m0 6 x 2)) 11 w x (m0 6 x 3)) 12 w x (m0 6 x 4)) 14 (5 * w + x) 0 5 0) (by omega) (by omega)
        ((((((hF.set (by decide) (by decide)).set (by decide) (by decide)).set (by decide) (by decide)).set (by decide) (by decide)).set (by decide) (by decide)).fill (by decide) (by decide))
        (by unfold StA at hA ⊢; simpa [mset, mfill] using hA)
        (fun f hf => by
          by_cases e : f = x
          · subst e
            refine ⟨by simp [mset, mfill, t0], by simp [mset, mfill, t1], by simp [mset, mfill, t2], by simp [mset, mfill, t3], by simp [mset, mfill, t4], fun g hg => by simp [mfill]; omega⟩
          · have := h f (by omega)
            unfold StF at this ⊢
            simpa [mset, mfill, e] using this)
      refine ⟨m1, ?_, e2, e3, e4⟩
      rw [← e1]
      simp [lpk_s, f_X0_start_b41, hA.1, hge, b1, b2, fill14, bnd, nI_succ]
  obtain ⟨m1, e1, e2, e3, e4⟩ := key (F 0 0) 0 fuelN (mset (mset (mset (mset (mset (mset m 7 w 8 (m 4 0 1)) 7 w 9 (m 4 0 2)) 7 w 10 (m 4 0 3)) 7 w 11 (0 : Int32)) 7 w 12 (0 : Int32)) 7 w 13 (0 : Int32)) (by omega) (by unfold fuelN; omega)
    ((((((XF.rf.set (by decide) (by decide)).set (by decide) (by decide)).set (by decide) (by decide)).set (by decide) (by decide)).set (by decide) (by decide)).set (by decide) (by decide))
    (by
      obtain ⟨u0, u1, u2, -⟩ := hT
      refine ⟨by simp [mset, u0], by simp [mset, u1], by simp [mset, u2], by simp [mset], by simp [mset], by simp [mset]⟩) (fun f hf => by omega)
  refine ⟨m1, e1, e2, ?_⟩
  obtain ⟨a0, a1, a2, a3, a4, a5⟩ := e3
  refine ⟨a0, a1, by rw [a2]; simp [startS], by rw [a3]; simp [startS, nI_0], by rw [a4]; simp [startS, nI_0], by rw [a5]; simp [startS, nI_0], fun f hf => ?_⟩
  obtain ⟨f0, f1, f2, f3, f4, f5⟩ := e4 f hf
  exact ⟨f0, f1, by rw [f2]; simp [startS, hf], f3, f4, fun g hg => by rw [f5 g hg]; simp [startS, o5, nI_0]⟩
/-! ===== had, dears, kinds ===== -/
theorem SC_xf {m m' : Mem} {k : Nat} {v : Option (Nat × Nat × (Nat → Int32))} (h : XF m m') (hS : SC m k v) : SC m' k v := by
  unfold SC at hS ⊢
  rw [h 2 (by decide), h 3 (by decide)]
  exact hS
theorem TC_xf {m m' : Mem} {F : FdT} (h : XF m m') (hT : TC m F) : TC m' F := TC_cong (h 4 (by decide)) (h 6 (by decide)) hT
/-! ===== a row told: refused, stuck, or walked ===== -/
def wv : FdT ⊕ Nat → Int32
  | .inl _ => -9
  | .inr p => nI p
def Wok (F : FdT) : FdT ⊕ Nat → Prop
  | .inl C => CB C 720
  | .inr p => p < 20
/-! ===== passes ===== -/
theorem wv_l {C : FdT} : wv (.inl C) = -9 := rfl
theorem m9' {p : Nat} (hp : p < 20) : ¬ nI p = -9 := by
  have : ∀ x, x < 20 → ¬ nI x = -9 := by decide
  exact this p hp
/-! ===== a row tried with one number otherwise ===== -/
def XRs (m : Mem) (F : FdT) (W : FdT ⊕ Nat) : Prop := ∀ C, W = .inl C → XR m 0 F C
theorem try_c {m : Mem} {k a q la len : Nat} {c : Nat → Int32} {F : FdT} {fs hs : Nat → Nat} (hX : XR m 0 F (startS F)) (hW : WC F) (hS : SC m k (some (la, len, c))) (hl : len ≤ 60) (hal : a + 2 * q ≤ len) (hR : Row F c a q fs hs) :
    ∃ m3, f_X0_walk 0 k (nI a) (nI q) m = some (wv (walkS F fs hs q 0 (startS F)), m3) ∧ XF m m3 ∧ ∀ C, walkS F fs hs q 0 (startS F) = .inl C → XR m3 0 F C := by
  have hwk := walk_c hX hW (CB_start hW (g := 0)) hS hl hal hR
  cases hw : walkS F fs hs q 0 (startS F) with
  | inl C =>
    rw [hw] at hwk
    obtain ⟨m3, w1, w2, w3⟩ := hwk
    exact ⟨m3, w1, w2, fun C' hC => by cases hC; exact w3⟩
  | inr p =>
    rw [hw] at hwk
    obtain ⟨m3, w1, w2⟩ := hwk
    exact ⟨m3, w1, w2, fun C' hC => by cases hC⟩
theorem wv_9 {F : FdT} {fs hs : Nat → Nat} {q : Nat} {C0 : FdT} (hq : q ≤ 20) : wv (walkS F fs hs q 0 C0) = -9 ↔ (walkS F fs hs q 0 C0).isLeft = true := by
  cases hw : walkS F fs hs q 0 C0 with
  | inl C => exact ⟨fun _ => rfl, fun _ => rfl⟩
  | inr p =>
    have := walkS_lt q 0 C0 p hw
    exact ⟨fun z => absurd z (m9' (by omega)), fun z => by cases z⟩
/-! the class: one number of a crossing begun -/
theorem Row.cg {F F' : FdT} {c : Nat → Int32} {a q : Nat} {fs hs : Nat → Nat} (h : Row F c a q fs hs) (e : F' 0 0 = F 0 0) : Row F' c a q fs hs := fun p hp => by rw [e]; exact h p hp
theorem XR_5 {m : Mem} {F : FdT} {f v : Nat} (h : XR m 0 F (startS F)) (hf : f < F 0 0) : XR (mset m 10 0 f (nI v)) 0 (fset F 5 f v) (startS (fset F 5 f v)) := by
  obtain ⟨q0, q1, q2, q3, q4, q5, q6⟩ := h
  refine ⟨by simpa [mset, fset] using q0, by simpa [mset, fset] using q1, by simpa [mset, fset, startS] using q2, by simpa [mset, fset, startS] using q3, by simpa [mset, fset, startS] using q4, by simpa [mset, fset, startS] using q5, fun x hx => ?_⟩
  have hx' : x < F 0 0 := hx
  obtain ⟨p1, p2, p3, p4, p5, p6⟩ := q6 x hx'
  refine ⟨by simpa [mset, fset] using p1, by simpa [mset, fset] using p2, ?_, by simpa [mset, fset] using p4, by simpa [mset, fset] using p5, fun g hg => by simpa [mset, fset, startS, o5] using p6 g hg⟩
  by_cases e : x = f
  · subst e; simp [mset, fset, startS, hx']
  · simpa [mset, fset, startS, hx', e] using p3
/-! what may be supposed stays within bounds -/
theorem WC_5 {F : FdT} (h : WC F) {f v : Nat} (hv : v ≤ 198) : WC (fset F 5 f v) := ⟨h.1, h.2.1, h.2.2.1, fun x hx => by
  obtain ⟨p1, p2, p3, p4, p5, p6⟩ := h.2.2.2 x hx
  refine ⟨p1, p2, p3, ?_, p5, p6⟩
  by_cases e : x = f
  · simp [fset, e, hv]
  · simpa [fset, e] using p4⟩
/-! ===== wants ===== -/
def firstS (P : Nat → Bool) : Nat → Nat → Int32
  | _, 0 => -9
  | v, k + 1 => if P v = true then nI v else firstS P (v + 1) k
theorem firstS_s {P : Nat → Bool} {v k : Nat} : firstS P v (k + 1) = if P v = true then nI v else firstS P (v + 1) k := rfl
def moreB (F : FdT) (fs hs : Nat → Nat) (q f : Nat) (v : Nat) : Bool := (walkS (fset F 5 f (F 5 f + v)) fs hs q 0 (startS (fset F 5 f (F 5 f + v)))).isLeft
theorem wants_c {m0 : Mem} {f k a q la len : Nat} {c : Nat → Int32} {F : FdT} {fs hs : Nat → Nat} (hf : f < F 0 0) (hk : k < 4) (hq : q ≤ 20) (hF : WF F) (hT : TC m0 F) (hS : SC m0 k (some (la, len, c))) (hl : len ≤ 60) (hal : a + 2 * q ≤ len) (hR : Row F c a q fs hs) :
    ∀ t v n m, v + t = 100 → t < n → XF m0 m → ∃ m', XF m0 m' ∧ lpk (f_X6_wants_b24 (nI f) (nI k) (nI a) (nI q)) n (nI v, m) (fun t24 => some ((-9 : Int32), t24)) = some (firstS (moreB F fs hs q f) v t, m') := by
  have hW := hF.wc
  obtain ⟨b1, b2⟩ := i5 hf hW.1
  have b3 : inB (nI k) 4 = true := inB_nI hk (by decide)
  have b4 : ix (nI k) = k := ix_nI (by omega)
  intro t
  induction t with
  | zero =>
    intro v n m hv hn hX
    obtain ⟨n, rfl⟩ : ∃ n', n = n' + 1 := ⟨n - 1, by omega⟩
    have e : v = 100 := by omega
    subst e
    refine ⟨m, hX, ?_⟩
    rw [lpk_s]
    unfold f_X6_wants_b24
    dsimp only
    rw [if_pos (by decide)]
    rfl
  | succ t ih =>
    intro v n m hv hn hX
    obtain ⟨n, rfl⟩ : ∃ n', n = n' + 1 := ⟨n - 1, by omega⟩
    obtain ⟨m2, s1, s2, s3⟩ := start_c 0 (TC_xf hX hT) hW
    have h99 := (hF.2.2.2 f hf).2.2.2.1
    have p3 : m2 10 0 f = nI (F 5 f) := by
      rw [(s3.2.2.2.2.2.2 f hf).2.2.1]
      simp [startS, hf]
    have s4 : XF m (mset m2 10 0 f (nI (F 5 f + v))) := s2.set (by decide) (by decide)
    obtain ⟨m3, w1, w2, -⟩ := try_c (XR_5 (v := F 5 f + v) s3 hf) (WC_5 hW (by omega)) (SC_xf s4 (SC_xf hX hS)) hl hal (hR.cg rfl)
    have hlt : ¬ (99 : Int32) < nI v := fun z => by have := (nI_ltI (a := 99) (by decide) (by omega)).mp z; omega
    have st : ∀ next exit, f_X6_wants_b24 (nI f) (nI k) (nI a) (nI q) next exit (nI v, m) = if wv (walkS (fset F 5 f (F 5 f + v)) fs hs q 0 (startS (fset F 5 f (F 5 f + v)))) = -9 then some (nI v, m3) else next (nI (v + 1), m3) := fun next exit => by
      unfold f_X6_wants_b24
      dsimp only
      rw [if_neg hlt, s1, bnd_some, if_pos b1, if_pos b1, if_pos b3, b2, b4, p3, nI_add, w1, bnd_some, nI_1]
    rw [lpk_s, st, firstS_s]
    by_cases z : moreB F fs hs q f v = true
    · exact ⟨m3, hX.tr (s4.tr w2), by rw [if_pos ((wv_9 hq).mpr z), if_pos z]⟩
    · obtain ⟨m', e1, e2⟩ := ih (v + 1) n m3 (by omega) (by omega) (hX.tr (s4.tr w2))
      exact ⟨m', e1, by rw [if_neg (fun y => z ((wv_9 hq).mp y)), if_neg z]; exact e2⟩
