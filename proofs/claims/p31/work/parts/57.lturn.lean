/-! ===== a turn of the law, all turns ===== -/
theorem mset_self {m : Mem} {t i j : Nat} {v : Int32} (h : m t i j = v) : mset m t i j v = m := by
  funext x y z
  unfold mset
  split
  · rename_i c
    obtain ⟨rfl, rfl, rfl⟩ := c
    exact h.symm
  · rfl
section LTURN
variable {L : Nat} {xsc : Nat → Int32} {Sh : ShT} {F : FdT} {q : Nat} {fs hs : Nat → Nat} {c : Nat → Int32}
theorem j281_l {m : Mem} {k : Nat} (hL : L ≤ 260) (hk : k < 5) (hA : TA Sh F q fs hs c) (h : TS m Sh F q fs hs) : ∃ m', JI m' Sh F ∧ ∀ next exit s,
    f_L_lawB_j281 L xsc next exit s s (nI (F 0 0)) (nI k) (nI q) (wv (walkS F fs hs q 0 (startS F))) ((-100 : Int32) - wv (walkS F fs hs q 0 (startS F))) m = next (nI (k + 1), m') := by
  have hW := h.1.2.2
  have hn := hW.1
  have hn1 := hA.1
  obtain ⟨m1, h1, k1⟩ := l289 (L := L) (xsc := xsc) (x8 := nI k) (m := m) rfl hA 5 0 (by omega) m h
  obtain ⟨m2, h2, k2⟩ := l350 (L := L) (xsc := xsc) (x8 := nI k) rfl hA (F 0 0) 0 (by omega) m1 h1
  have hw := someS_lt (cellS L xsc (29 + k)) (n := F 0 0) (by omega)
  generalize hwe : someS (cellS L xsc (29 + k)) (F 0 0) = w at hw
  obtain ⟨a1, a2⟩ := gx 13 (d := 13) rfl (f := w) (by omega)
  have q13 : m2 70 0 (13 + w) = nI (F 5 w) := (h2.1.2.1.2.2.2 w hw).2.2.1
  have hI : WI m2 Sh F q fs hs w := ⟨h2.1.1, h2.2.1, by rw [mset_self q13]; exact h2.1.2.1⟩
  obtain ⟨m3, h3, k3⟩ := l484 (L := L) (xsc := xsc) (x4 := nI (F 0 0)) (x8 := nI k) hW hw hA 100 0 (by omega) m2 hI
  have h4 : JI (mset m3 70 0 (13 + w) (nI (F 5 w))) Sh F := ⟨CI_cong (fun t ht => mset_ne (by omega)) h3.1, h3.2.2, hW⟩
  obtain ⟨m5, e5, f5, g5⟩ := c_wants (k := 1) (la := 0) (a := 2) hw h4.1 hW hA.2.1 (by decide) (by decide) (by have := hA.2.2.1; omega) (by decide) (by have := hA.2.2.1; omega) hA.2.2.2
  have e5 : f_X6_wants (nI w) 1 0 2 (nI q) (mset m3 70 0 (13 + w) (nI (F 5 w))) = some (firstS (moreB F fs hs q w) 0 100, m5) := e5
  have h5 : JI m5 Sh F := ⟨f5, GI_cong (g5 70 (by decide)) h4.2.1, hW⟩
  have e6 : f_X6_ofFish (nI w) 2 m5 = some (nI (F 5 w), m5) := c_ofFish (w := 2) f5 hw hn (by decide)
  have ec : (29 : Int32) + nI k = nI (29 + k) := nI_add 29 k
  obtain ⟨⟨y1, y2⟩, -, y5, y6⟩ := x28
  have e99 : ((-9 : Int32), (99 : Int32), m2) = (firstS (moreB F fs hs q w) 100 0, nI 100 - 1, m2) := by
    have : nI 100 - 1 = (99 : Int32) := by decide
    rw [this]
    rfl
  refine ⟨m5, h5, fun next exit s => ?_⟩
  unfold f_L_lawB_j281
  rw [if_pos rfl, show ((0 : Int32), m) = (nI 0, m) from rfl, k1 _ fuelN (by decide), show ((0 : Int32), m1) = (nI 0, m1) from rfl, k2 _ fuelN (by unfold fuelN; omega), ec, cell_l hL (by omega), bnd_some, some_l _ (by omega) (by omega), bnd_some, hwe, if_pos a1, a2, q13, e99, k3 _ fuelN (by decide), if_pos a1]
  dsimp only
  rw [e5, bnd_some, if_pos rfl, e6, bnd_some, if_pos rfl, show ((0 : Int32), m5) = (nI 0, m5) from rfl, l568 rfl h5 _ (F 0 0) 0 (by omega) fuelN (by unfold fuelN; omega), c_many1 h5.1, bnd_some, if_pos y1, y2, h5.2.1.1, if_pos rfl, c_many2 h5.1, bnd_some, if_pos y5, y6, h5.2.1.2.2.1, if_pos rfl, nI_1]
/-- what is asked of a row, what the law has of it -/
theorem sel_l {m : Mem} {i : Int32} {y : Nat} {β : Type} (A : Int32 → Option β) (hA : TA Sh F q fs hs c) (h : TS m Sh F q fs hs) (hi : inB i 9 = true) (hy : ∀ C, LX m F C → m 72 0 (ix i) = tellS F C y) :
    (if 0 ≤ wv (walkS F fs hs q 0 (startS F)) then A ((-100 : Int32) - wv (walkS F fs hs q 0 (startS F))) else if inB i 9 = true then A (m 72 0 (ix i)) else none) = A (ansW (walkS F fs hs q 0 (startS F)) (fun C => tellS F C y)) := by
  cases hw : walkS F fs hs q 0 (startS F) with
  | inl C => rw [if_neg wv_m9.1, if_pos hi, hy C (h.2.2 C hw)]; rfl
  | inr p => rw [if_pos (wv_in (W_lt hA hw)).1]; rfl
theorem j254_l {m : Mem} {k : Nat} (hL : L ≤ 260) (hk : k < 5) (hA : TA Sh F q fs hs c) (h : TS m Sh F q fs hs) : ∃ m', JI m' Sh F ∧ ∀ next exit s,
    f_L_lawB_j254 L xsc next exit s s (nI (F 0 0)) (nI k) (nI q) (wv (walkS F fs hs q 0 (startS F))) ((-100 : Int32) - wv (walkS F fs hs q 0 (startS F))) m = next (nI (k + 1), m') := by
  obtain ⟨m1, e1, h1⟩ := t_passes (y := 4) (by omega) hA h
  have e1 : f_X6_passes 1 0 2 (nI q) 4 m = _ := e1
  obtain ⟨m', h', kk⟩ := j281_l (xsc := xsc) hL hk hA h1
  refine ⟨m', h', fun next exit s => ?_⟩
  unfold f_L_lawB_j254
  rw [if_pos rfl, e1, bnd_some]
  exact (sel_l (i := 5) (y := 4) (fun z => f_L_lawB_j281 L xsc next exit z (ansW (walkS F fs hs q 0 (startS F)) (fun C => tellS F C 4)) (nI (F 0 0)) (nI k) (nI q) (wv (walkS F fs hs q 0 (startS F))) ((-100 : Int32) - wv (walkS F fs hs q 0 (startS F))) m1) hA h1 (by decide) (fun C hX => hX.1)).trans (kk next exit _)
theorem j226_l {m : Mem} {k : Nat} (hL : L ≤ 260) (hk : k < 5) (hA : TA Sh F q fs hs c) (h : TS m Sh F q fs hs) : ∃ m', JI m' Sh F ∧ ∀ next exit s,
    f_L_lawB_j226 L xsc next exit s s (nI (F 0 0)) (nI k) (nI q) (wv (walkS F fs hs q 0 (startS F))) ((-100 : Int32) - wv (walkS F fs hs q 0 (startS F))) m = next (nI (k + 1), m') := by
  obtain ⟨m1, e1, h1⟩ := t_passes (y := 3) (by omega) hA h
  have e1 : f_X6_passes 1 0 2 (nI q) 3 m = _ := e1
  obtain ⟨m', h', kk⟩ := j254_l (xsc := xsc) hL hk hA h1
  refine ⟨m', h', fun next exit s => ?_⟩
  unfold f_L_lawB_j226
  rw [if_pos rfl, e1, bnd_some]
  exact (sel_l (i := 6) (y := 3) (fun z => f_L_lawB_j254 L xsc next exit z (ansW (walkS F fs hs q 0 (startS F)) (fun C => tellS F C 3)) (nI (F 0 0)) (nI k) (nI q) (wv (walkS F fs hs q 0 (startS F))) ((-100 : Int32) - wv (walkS F fs hs q 0 (startS F))) m1) hA h1 (by decide) (fun C hX => hX.2.1)).trans (kk next exit _)
theorem j198_l {m : Mem} {k : Nat} (hL : L ≤ 260) (hk : k < 5) (hA : TA Sh F q fs hs c) (h : TS m Sh F q fs hs) : ∃ m', JI m' Sh F ∧ ∀ next exit s,
    f_L_lawB_j198 L xsc next exit s s (nI (F 0 0)) (nI k) (nI q) (wv (walkS F fs hs q 0 (startS F))) ((-100 : Int32) - wv (walkS F fs hs q 0 (startS F))) m = next (nI (k + 1), m') := by
  obtain ⟨m1, e1, h1⟩ := t_passes (y := 2) (by omega) hA h
  have e1 : f_X6_passes 1 0 2 (nI q) 2 m = _ := e1
  obtain ⟨m', h', kk⟩ := j226_l (xsc := xsc) hL hk hA h1
  refine ⟨m', h', fun next exit s => ?_⟩
  unfold f_L_lawB_j198
  rw [if_pos rfl, e1, bnd_some]
  exact (sel_l (i := 7) (y := 2) (fun z => f_L_lawB_j226 L xsc next exit z (ansW (walkS F fs hs q 0 (startS F)) (fun C => tellS F C 2)) (nI (F 0 0)) (nI k) (nI q) (wv (walkS F fs hs q 0 (startS F))) ((-100 : Int32) - wv (walkS F fs hs q 0 (startS F))) m1) hA h1 (by decide) (fun C hX => hX.2.2.1)).trans (kk next exit _)
end LTURN
section LTURNS
variable {L : Nat} {xsc : Nat → Int32} {Sh : ShT} {F : FdT}
theorem j109_l {m : Mem} {k : Nat} (hL : L ≤ 260) (hk : k < 5) (hn1 : 1 ≤ F 0 0) (hJ : JI m Sh F) : ∃ c m', JI m' (upS_ Sh 1 (some (0, 44, c))) F ∧ ∀ next exit, f_L_lawB_j109 L xsc next exit (nI (F 0 0)) (nI k) m = next (nI (k + 1), m') := by
  obtain ⟨q, fs, hs, c, m1, hq, e1, hJ1, hL1, hR⟩ := lay_l (xsc := xsc) (k0 := 9 + 4 * k) hL (by omega) hJ hn1
  have hW := hJ.2.2
  have hA : TA (upS_ Sh 1 (some (0, 44, c))) F q fs hs c := ⟨hn1, upS_at, hq, hR⟩
  obtain ⟨m2, e2, f2, g2⟩ := go_l (L := L) (xsc := xsc) hJ1.2.1 hW.wc hL1 (by omega) (fun p hp => ⟨(hR p hp).1, (hR p hp).2.1⟩)
  have h2 : TS m2 (upS_ Sh 1 (some (0, 44, c))) F q fs hs := ⟨⟨f2.ci hJ1.1, f2.g hJ1.2.1, hW⟩, fun p hp => by rw [f2 71 (by decide) (by decide)]; exact hL1 p hp, g2⟩
  obtain ⟨m3, e3, h3⟩ := t_passes1 hA h2
  obtain ⟨m4, e4, h4⟩ := t_passes (y := 0) (by omega) hA h3
  have e4 : f_X6_passes 1 0 2 (nI q) 0 m3 = _ := e4
  obtain ⟨m', h', kk⟩ := j198_l (xsc := xsc) hL hk hA h4
  have ek : (9 : Int32) + (4 : Int32) * nI k = nI (9 + 4 * k) := by
    rw [show (4 : Int32) * nI k = nI (4 * k) from pk_mul 4 k]
    exact nI_add 9 _
  refine ⟨c, m', h', fun next exit => ?_⟩
  unfold f_L_lawB_j109
  rw [ek, e1, bnd_some, if_pos (nI_pos' (by omega)), e2, bnd_some, e3, bnd_some, if_pos rfl, e4, bnd_some]
  exact (sel_l (i := 8) (y := 0) (fun z => f_L_lawB_j198 L xsc next exit z (ansW (walkS F fs hs q 0 (startS F)) (fun C => tellS F C 0)) (nI (F 0 0)) (nI k) (nI q) (wv (walkS F fs hs q 0 (startS F))) ((-100 : Int32) - wv (walkS F fs hs q 0 (startS F))) m4) hA h4 (by decide) (fun C hX => hX.2.2.2.1)).trans (kk next exit _)
theorem turns_l {n : Nat} (hL : L ≤ 260) (hn1 : 1 ≤ n) : ∀ t k, k + t = 5 → ∀ (m : Mem) (Sh : ShT) (F : FdT), JI m Sh F → F 0 0 = n → Sh 2 = none → (1 ≤ k → ∃ c, Sh 1 = some (0, 44, c)) →
    ∃ m' Sh' F' c, JI m' Sh' F' ∧ F' 0 0 = n ∧ Sh' 2 = none ∧ Sh' 1 = some (0, 44, c) ∧ ∀ (K : Mem → Option (Int32 × Mem)) fu, t < fu → lpk (f_L_lawB_b80 L xsc (nI n)) fu (nI k, m) K = K m' := by
  intro t
  induction t with
  | zero =>
    intro k hk m Sh F hJ hn h2 h1
    have e : k = 5 := by omega
    subst e
    obtain ⟨c, hc⟩ := h1 (by decide)
    refine ⟨m, Sh, F, c, hJ, hn, h2, hc, fun K fu hfu => ?_⟩
    obtain ⟨fu, rfl⟩ : ∃ n', fu = n' + 1 := ⟨fu - 1, by omega⟩
    rw [lpk_s]
    unfold f_L_lawB_b80
    dsimp only
    rw [if_pos (show (5 : Int32) ≤ nI 5 from by decide)]
  | succ t ih =>
    intro k hk m Sh F hJ hn h2 h1
    have hge : ¬ (5 : Int32) ≤ nI k := nI_ge (b := 5) (by omega) (by decide)
    have z : (nI k ≤ 0) ↔ k = 0 := by
      have : (nI k ≤ nI 0) ↔ k ≤ 0 := nI_leI (by omega) (by decide)
      rw [nI_0] at this
      rw [this]; omega
    by_cases k0 : k = 0
    · obtain ⟨c, m1, g1, g2⟩ := j109_l (L := L) (xsc := xsc) (k := k) hL (by omega) (by rw [hn]; exact hn1) hJ
      obtain ⟨m', Sh', F', c', a1, a2, a3, a4, a5⟩ := ih (k + 1) (by omega) m1 _ F g1 hn (by rw [upS_ne (by decide)]; exact h2) (fun _ => ⟨c, upS_at⟩)
      refine ⟨m', Sh', F', c', a1, a2, a3, a4, fun K fu hfu => ?_⟩
      obtain ⟨fu, rfl⟩ : ∃ n', fu = n' + 1 := ⟨fu - 1, by omega⟩
      have st : ∀ nx, f_L_lawB_b80 L xsc (nI n) nx K (nI k, m) = nx (nI (k + 1), m1) := fun nx => by
        unfold f_L_lawB_b80
        dsimp only
        rw [if_neg hge, if_pos (z.mpr k0), ← hn, g2]
      rw [lpk_s, st]
      exact a5 K fu (by omega)
    · obtain ⟨F1, m0, d1, d2, d3⟩ := change_l (L := L) (xsc := xsc) (cellS L xsc (4 + k)) hJ (by rw [hn]; exact hn1)
      obtain ⟨c, m1, g1, g2⟩ := j109_l (L := L) (xsc := xsc) (k := k) hL (by omega) (by rw [d3, hn]; exact hn1) d2
      obtain ⟨m', Sh', F', c', a1, a2, a3, a4, a5⟩ := ih (k + 1) (by omega) m1 _ F1 g1 (by rw [d3, hn]) (by rw [upS_ne (by decide)]; exact h2) (fun _ => ⟨c, upS_at⟩)
      refine ⟨m', Sh', F', c', a1, a2, a3, a4, fun K fu hfu => ?_⟩
      obtain ⟨fu, rfl⟩ : ∃ n', fu = n' + 1 := ⟨fu - 1, by omega⟩
      have ec : (4 : Int32) + nI k = nI (4 + k) := nI_add 4 k
      have st : ∀ nx, f_L_lawB_b80 L xsc (nI n) nx K (nI k, m) = nx (nI (k + 1), m1) := fun nx => by
        unfold f_L_lawB_b80
        dsimp only
        rw [if_neg hge, if_neg (fun y => k0 (z.mp y)), ec, cell_l hL (by omega), bnd_some, d1, bnd_some, if_neg (by decide), ← hn, ← d3, g2]
      rw [lpk_s, st]
      exact a5 K fu (by omega)
end LTURNS
