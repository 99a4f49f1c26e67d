/-! ===== the law begins, and goes by a row ===== -/
section LGO
variable {L : Nat} {xsc : Nat → Int32}
theorem begin_l {m : Mem} {F : FdT} (hG : GI m F) (hW : WC F) : ∃ m', f_L_begin L xsc m = some ((), m') ∧ LFr m m' ∧ LX m' F (startS F) := by
  have hn := hW.1
  obtain ⟨⟨x1, x2⟩, ⟨x3, x4⟩, ⟨x5, x6⟩, x7, x8⟩ := x9
  obtain ⟨⟨y1, y2⟩, ⟨y3, y4⟩, y5, y6⟩ := x28
  have key1 : ∀ (t x n : Nat) (m0 : Mem) (K : Mem → Option (Unit × Mem)), x + t = 5 → t < n → LFr m m0 → (∀ f, f < x → f < F 0 0 → m0 72 0 f = nI (F 5 f)) → ∃ m1, lpk (f_L_begin_b2 L xsc) n (nI x, m0) K = K m1 ∧ LFr m m1 ∧ ∀ f, f < F 0 0 → m1 72 0 f = nI (F 5 f) := by
    intro t
    induction t with
    | zero =>
      intro x n m0 K hx hn2 hF h
      obtain ⟨n, rfl⟩ : ∃ n', n = n' + 1 := ⟨n - 1, by omega⟩
      have e : x = 5 := by omega
      subst e
      refine ⟨m0, ?_, hF, fun f hf => h f (by omega) hf⟩
      rw [lpk_s]
      unfold f_L_begin_b2
      dsimp only
      rw [if_pos (show (5 : Int32) ≤ nI 5 from by decide)]
    | succ t ih =>
      intro x n m0 K hx hn2 hF h
      obtain ⟨n, rfl⟩ : ∃ n', n = n' + 1 := ⟨n - 1, by omega⟩
      have hge : ¬ (5 : Int32) ≤ nI x := nI_ge (b := 5) (by omega) (by decide)
      obtain ⟨b1, b2⟩ := b9 (k := x) (by omega)
      have q1 := (hF.g hG).2.1
      have en : (m0 70 0 1 ≤ nI x) ↔ F 0 0 ≤ x := by rw [q1]; exact nI_leI (by omega) (by omega)
      obtain ⟨a1, a2⟩ := gx 13 (d := 13) rfl (f := x) (by omega)
      have st : ∃ v, (x < F 0 0 → v = nI (F 5 x)) ∧ ∀ nx, f_L_begin_b2 L xsc nx K (nI x, m0) = nx (nI (x + 1), mset m0 72 0 x v) := by
        by_cases c : F 0 0 ≤ x
        · refine ⟨0, fun q => by omega, fun nx => ?_⟩
          unfold f_L_begin_b2 f_L_begin_j26
          dsimp only
          rw [if_neg hge, if_pos y3, y4, if_pos (en.mpr c), if_pos b1, b2, nI_1]
        · refine ⟨m0 70 0 (13 + x), fun q => ((hF.g hG).2.2.2 x q).2.2.1, fun nx => ?_⟩
          unfold f_L_begin_b2 f_L_begin_j26
          dsimp only
          rw [if_neg hge, if_pos y3, y4, if_neg (fun q => c (en.mp q)), if_pos a1, if_pos b1, a2, b2, nI_1]
      obtain ⟨v, hv, st⟩ := st
      obtain ⟨m1, e1, e2, e3⟩ := ih (x + 1) n (mset m0 72 0 x v) K (by omega) (by omega) hF.s72 (fun f hf hfn => by
        by_cases e : f = x
        · subst e; simp [mset, hv hfn]
        · simpa [mset, e] using h f (by omega) hfn)
      exact ⟨m1, by rw [lpk_s, st]; exact e1, e2, e3⟩
  have key2 : ∀ (t x n : Nat) (m0 : Mem) (K : Mem → Option (Unit × Mem)), x + t = 25 → t < n → (∀ f, f < x → m0 73 0 f = 0) → ∃ m1, lpk (f_L_begin_b56 L xsc) n (nI x, m0) K = K m1 ∧ (∀ t, t ≠ 73 → m1 t = m0 t) ∧ ∀ f, f < 25 → m1 73 0 f = 0 := by
    intro t
    induction t with
    | zero =>
      intro x n m0 K hx hn2 h
      obtain ⟨n, rfl⟩ : ∃ n', n = n' + 1 := ⟨n - 1, by omega⟩
      have e : x = 25 := by omega
      subst e
      refine ⟨m0, ?_, fun _ _ => rfl, h⟩
      rw [lpk_s]
      unfold f_L_begin_b56
      dsimp only
      rw [if_pos (show (25 : Int32) ≤ nI 25 from by decide)]
    | succ t ih =>
      intro x n m0 K hx hn2 h
      obtain ⟨n, rfl⟩ : ∃ n', n = n' + 1 := ⟨n - 1, by omega⟩
      have hge : ¬ (25 : Int32) ≤ nI x := nI_ge (b := 25) (by omega) (by decide)
      obtain ⟨m1, e1, e2, e3⟩ := ih (x + 1) n (mset m0 73 0 x 0) K (by omega) (by omega) (fun f hf => by
        by_cases e : f = x
        · subst e; simp [mset]
        · simpa [mset, e] using h f (by omega))
      have st : ∀ nx, f_L_begin_b56 L xsc nx K (nI x, m0) = nx (nI (x + 1), mset m0 73 0 x 0) := fun nx => by
        unfold f_L_begin_b56
        dsimp only
        rw [if_neg hge, if_pos (inB_nI (by omega) (by decide)), ix_nI (by omega), nI_1]
      exact ⟨m1, by rw [lpk_s, st]; exact e1, fun t ht => by rw [e2 t ht, mset_ne ht], e3⟩
  unfold f_L_begin
  obtain ⟨m1, a1, a2, a3⟩ := key1 5 0 fuelN m (fun t2 =>
    if inB (5 : Int32) 9 = true then
      if inB (6 : Int32) 9 = true then
        if inB (2 : Int32) 28 = true then
          if inB (7 : Int32) 9 = true then
            if inB (8 : Int32) 9 = true then
              lpk (f_L_begin_b56 L xsc) fuelN ((0 : Int32), (mset (mset (mset (mset t2 72 0 (ix (5 : Int32)) (0 : Int32)) 72 0 (ix (6 : Int32)) (0 : Int32)) 72 0 (ix (7 : Int32)) (t2 70 0 (ix (2 : Int32)))) 72 0 (ix (8 : Int32)) (0 : Int32))) (fun t56 =>
                some ((), t56))
            else none
          else none
        else none
      else none
    else none) (by omega) (by decide) LFr.rf (fun f hf => by omega)
  rw [show ((0 : Int32), m) = (nI 0, m) from rfl, a1]
  rw [if_pos x1, if_pos x3, if_pos y5, if_pos x5, if_pos x7, x2, x4, y6, x6, x8]
  have g2 := (a2.g hG).2.2.1
  obtain ⟨m2, c1, c2, c3⟩ := key2 25 0 fuelN (mset (mset (mset (mset m1 72 0 5 (0 : Int32)) 72 0 6 (0 : Int32)) 72 0 7 (m1 70 0 2)) 72 0 8 (0 : Int32)) (fun t56 => some ((), t56)) (by omega) (by decide) (fun f hf => by omega)
  refine ⟨m2, c1, fun t h1 h2 => ?_, ?_⟩
  · rw [c2 t h2, mset_ne h1, mset_ne h1, mset_ne h1, mset_ne h1, a2 t h1 h2]
  · refine ⟨by rw [c2 72 (by decide)]; simp [mset, startS, nI_0], by rw [c2 72 (by decide)]; simp [mset, startS, nI_0], by rw [c2 72 (by decide)]; simp [mset, startS, g2], by rw [c2 72 (by decide)]; simp [mset, startS, nI_0], fun f hf => ⟨?_, fun g hg => ?_⟩⟩
    · rw [c2 72 (by decide)]
      have n5 : ¬ f = 5 := by omega
      have n6 : ¬ f = 6 := by omega
      have n7 : ¬ f = 7 := by omega
      have n8 : ¬ f = 8 := by omega
      simpa [mset, startS, hf, n5, n6, n7, n8] using a3 f hf
    · rw [c3 _ (by omega)]
      simp [startS, o5, nI_0]
/-- passes laid in p -/
def LD (m : Mem) (q : Nat) (fs hs : Nat → Nat) : Prop := ∀ p, p < q → m 71 0 (2 * p) = nI (fs p) ∧ m 71 0 (2 * p + 1) = nI (hs p)
theorem p40 {p : Nat} (h : p < 20) : (inB ((2 : Int32) * nI p) 40 = true ∧ ix ((2 : Int32) * nI p) = 2 * p) ∧ inB ((2 : Int32) * nI p + 1) 40 = true ∧ ix ((2 : Int32) * nI p + 1) = 2 * p + 1 := by
  rw [show (2 : Int32) * nI p = nI (2 * p) from pk_mul 2 p, nI_1]
  exact ⟨⟨inB_nI (by omega) (by decide), ix_nI (by omega)⟩, inB_nI (by omega) (by decide), ix_nI (by omega)⟩
theorem go_l {m : Mem} {q : Nat} {F : FdT} {fs hs : Nat → Nat} (hG : GI m F) (hW : WC F) (hL : LD m q fs hs) (hq : q ≤ 20) (hR : ∀ p, p < q → fs p < F 0 0 ∧ hs p < 4) :
    ∃ m', f_L_go L xsc (nI q) m = some (wv (walkS F fs hs q 0 (startS F)), m') ∧ LFr m m' ∧ ∀ C, walkS F fs hs q 0 (startS F) = .inl C → LX m' F C := by
  obtain ⟨m1, e1, e2, e3⟩ := begin_l (L := L) (xsc := xsc) hG hW
  have key : ∀ (t p n g : Nat) (m0 : Mem) (C : FdT), p + t = q → t < n → LFr m m0 → LX m0 F C → CB C g → ∃ m', lpk (f_L_go_b10 L xsc (nI q)) n (nI p, m0) (fun t3 => some ((-9 : Int32), t3)) = some (wv (walkS F fs hs t p C), m') ∧ LFr m m' ∧ ∀ C', walkS F fs hs t p C = .inl C' → LX m' F C' := by
    intro t
    induction t with
    | zero =>
      intro p n g m0 C hp hn hF hX hB
      obtain ⟨n, rfl⟩ : ∃ n', n = n' + 1 := ⟨n - 1, by omega⟩
      have e : p = q := by omega
      subst e
      refine ⟨m0, ?_, hF, fun C' hC => by cases hC; exact hX⟩
      rw [lpk_s]
      unfold f_L_go_b10
      dsimp only
      rw [if_pos (nI_le (Nat.le_refl _) (by omega))]
      rfl
    | succ t ih =>
      intro p n g m0 C hp hn hF hX hB
      obtain ⟨n, rfl⟩ : ∃ n', n = n' + 1 := ⟨n - 1, by omega⟩
      obtain ⟨r1, r2⟩ := hR p (by omega)
      obtain ⟨r3, r4⟩ := hL p (by omega)
      rw [← hF 71 (by decide) (by decide)] at r3 r4
      have hge : ¬ nI q ≤ nI p := nI_ge (by omega) (by omega)
      have hp2 := pass_l (L := L) (xsc := xsc) (hF.g hG) hX hW hB r1 r2
      obtain ⟨⟨b1, b2⟩, b3, b4⟩ := p40 (p := p) (by omega)
      have step : ∀ (r : Int32) (m1 : Mem), f_L_pass L xsc (nI (fs p)) (nI (hs p)) m0 = some (r, m1) → ∀ nx, f_L_go_b10 L xsc (nI q) nx (fun t3 => some ((-9 : Int32), t3)) (nI p, m0) = if r = 0 then some (nI p, m1) else nx (nI (p + 1), m1) := by
        intro r m1 hr nx
        unfold f_L_go_b10
        dsimp only
        rw [if_neg hge, if_pos b1, if_pos b3, b2, b4, r3, r4, hr, bnd_some, nI_1]
      rw [walkS_s]
      cases hx : passS F C (fs p) (hs p) with
      | none =>
        rw [hx] at hp2
        exact ⟨m0, by rw [lpk_s, step _ _ hp2, if_pos rfl]; rfl, hF, fun C' hC => by cases hC⟩
      | some z =>
        rw [hx] at hp2
        obtain ⟨m1, f1, f2, f3⟩ := hp2
        obtain ⟨m', a1, a2, a3⟩ := ih (p + 1) n (g + 36) m1 z.1 (by omega) (by omega) (hF.tr f2) f3 (passS_CB (p := z.2) hW r1 hB (by rw [hx]))
        exact ⟨m', by rw [lpk_s, step _ _ f1, if_neg (by decide)]; exact a1, a2, a3⟩
  obtain ⟨m', a1, a2, a3⟩ := key q 0 fuelN 0 m1 (startS F) (by omega) (by unfold fuelN; omega) e2 e3 (CB_start hW)
  refine ⟨m', ?_, a2, a3⟩
  unfold f_L_go
  rw [e1, bnd_some]
  exact a1
end LGO
