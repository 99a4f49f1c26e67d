/-! ===== rows that are told: refused, or walked ===== -/
section TOLD
variable {m : Mem} {Sh : ShT} {F : FdT} {k la a q len : Nat} {c : Nat → Int32} {fs hs : Nat → Nat}
theorem pairs_ok (hn : F 0 0 ≤ 5) (hl : len ≤ 60) (ha : a + 2 * q ≤ len) (hk : k < 4) (hR : Row F c a q fs hs) : ∀ t p, p + t = q → ∀ m n K, t < n → SC m k (some (la, len, c)) → m 4 0 1 = nI (F 0 0) → lpk (f_X6_refusalOf_b85 (nI k) (nI a) (nI q)) n (nI p, m) K = K m := by
  have b1 : inB (nI k) 4 = true := inB_nI hk (by decide)
  have b2 : ix (nI k) = k := ix_nI (by omega)
  intro t
  induction t with
  | zero =>
    intro p hp m n K hn' _ _
    have e : p = q := by omega
    subst e
    obtain ⟨n, rfl⟩ : ∃ n', n = n' + 1 := ⟨n - 1, by omega⟩
    rw [lpk_s]
    unfold f_X6_refusalOf_b85
    dsimp only
    rw [if_pos (nI_le (Nat.le_refl _) (by omega))]
  | succ t ih =>
    intro p hp m n K hn' hS h4
    obtain ⟨n, rfl⟩ : ∃ n', n = n' + 1 := ⟨n - 1, by omega⟩
    have hge : ¬ nI q ≤ nI p := nI_ge (by omega) (by omega)
    obtain ⟨r1, r2, r3, r4⟩ := hR p (by omega)
    have st : ∀ nx, f_X6_refusalOf_b85 (nI k) (nI a) (nI q) nx K (nI p, m) = nx (nI (p + 1), m) := fun nx => by
      unfold f_X6_refusalOf_b85
      dsimp only
      rw [if_neg hge, if_pos b1, b2, nI_2, at_c hS hl (by omega), bnd_some, r3, has_in r1 (by omega) h4, bnd_some, if_neg (by decide), if_pos b1, nI_1, at_c hS hl (by omega), bnd_some, r4, wi_in (b := 3) (n := 3) rfl (by omega) (by decide), bnd_some, if_neg (by decide), nI_1]
    rw [lpk_s, st]
    exact ih (p + 1) (by omega) m n K (by omega) hS h4
/-- a row's head is valid -/
theorem ref_head (h : CI m Sh F) (hn : 1 ≤ F 0 0) (h5 : F 0 0 ≤ 5) (hs : Sh k = some (la, len, c)) (hk : k < 4) (hla : la < 3) (hq : q ≤ 20) (hl : len ≤ 60) (hal : a + 2 * q ≤ len) :
    f_X6_refusalOf (nI k) (nI la) (nI a) (nI q) 1 m = lpk (f_X6_refusalOf_b85 (nI k) (nI a) (nI q)) fuelN ((0 : Int32), mset m 0 0 6 0) (fun t85 => some ((0 : Int32), t85)) := by
  have h0 := CI_ft (ft := 0) h
  have hS := h0.1 k hk
  rw [hs] at hS
  have b1 : inB (nI k) 4 = true := inB_nI hk (by decide)
  have b2 : ix (nI k) = k := ix_nI (by omega)
  have e2 : (2 : Int32) * nI q = nI (2 * q) := pk_mul 2 q
  have h4 : ¬ mset m 0 0 6 0 4 0 1 = 0 := by rw [h0.th.1]; exact fun z => by have := (nI_z (by omega)).mp z; omega
  have hw : ∀ m, f_X6_isWithin (nI q) 0 20 m = some (1, m) := fun m => wi_in (n := 20) rfl hq (by decide) m
  unfold f_X6_refusalOf
  rw [sheet_in hk, bnd_some, if_neg (by decide), lane_in hla, bnd_some, if_neg (by decide), hw, bnd_some, if_neg (by decide), if_neg (by decide), if_pos b1, b2, e2, fault_0 hS hl hal, bnd_some, if_pos rfl, if_neg h4]
theorem c_ref (h : CI m Sh F) (hn : 1 ≤ F 0 0) (h5 : F 0 0 ≤ 5) (hs' : Sh k = some (la, len, c)) (hk : k < 4) (hla : la < 3) (hq : q ≤ 20) (hl : len ≤ 60) (hal : a + 2 * q ≤ len) (hR : Row F c a q fs hs) :
    f_X6_refusalOf (nI k) (nI la) (nI a) (nI q) 1 m = some (0, mset m 0 0 6 0) := by
  have h0 := CI_ft (ft := 0) h
  have hS := h0.1 k hk
  rw [hs'] at hS
  rw [ref_head h hn h5 hs' hk hla hq hl hal]
  exact pairs_ok h5 hl hal hk hR q 0 (by omega) _ fuelN (fun t85 => some ((0 : Int32), t85)) (by unfold fuelN; omega) hS h0.th.1
theorem c_walk (h : CI m Sh F) (hW : WF F) (hs' : Sh k = some (la, len, c)) (hk : k < 4) (hl : len ≤ 60) (hal : a + 2 * q ≤ len) (hR : Row F c a q fs hs) :
    ∃ m', f_X6_walkAsTold (nI k) (nI a) (nI q) (mset m 0 0 6 0) = some (wv (walkS F fs hs q 0 (startS F)), m') ∧ CI m' Sh F ∧ CF m m' ∧ ∀ C, walkS F fs hs q 0 (startS F) = .inl C → XR m' 0 F C := by
  have h0 := CI_ft (ft := 0) h
  have b1 : inB (nI k) 4 = true := inB_nI hk (by decide)
  have b2 : ix (nI k) = k := ix_nI (by omega)
  obtain ⟨m2, s1, s2, s3⟩ := start_c 0 h0.2 hW.wc
  have hS := (s2.ci h0).1 k hk
  rw [hs'] at hS
  obtain ⟨m3, w1, w2, w3⟩ := try_c s3 hW.wc hS hl hal hR
  refine ⟨m3, ?_, w2.ci (s2.ci h0), fun t ht => by rw [w2 t (by omega), s2 t (by omega), mset_ne (by omega)], w3⟩
  unfold f_X6_walkAsTold
  rw [s1, bnd_some, if_pos b1, b2, w1, bnd_some]
end TOLD
/-! passes: which words there are -/
theorem pf_1 {y : Nat} (hy : y ≤ 4 ∨ (10 ≤ y ∧ y ≤ 14)) (x1 x2 x3 x4 : Int32) (m : Mem) : f_X6_passes x1 x2 x3 x4 (nI y) m = f_X6_passes_j27 1 x1 x2 x3 x4 (nI y) m := by
  unfold f_X6_passes
  rcases hy with hy | hy
  · rw [wi_in (b := 4) (n := 4) rfl hy (by decide), bnd_some, if_neg (by decide)]
    rfl
  · have h10 : ¬ nI y < 10 := nI_nlt (a := y) (b := 10) hy.1 (by omega)
    have h14 : ¬ (14 : Int32) < nI y := nI_nlt (a := 14) (b := y) hy.2 (by decide)
    have hw : f_X6_isWithin (nI y) 10 14 m = some (1, m) := by simp [f_X6_isWithin, h10, h14]
    rw [wi_out (b := 4) (n := 4) rfl (by omega) (by omega), bnd_some, if_pos rfl, hw, bnd_some, if_neg (by decide)]
    rfl
theorem pf_0 (x1 x2 x3 x4 : Int32) (m : Mem) : f_X6_passes x1 x2 x3 x4 5 m = f_X6_passes_j27 0 x1 x2 x3 x4 5 m ∧ f_X6_passes x1 x2 x3 x4 15 m = f_X6_passes_j27 0 x1 x2 x3 x4 15 m := by
  have h1 : f_X6_isWithin 5 0 4 m = some (0, m) := wi_out (k := 5) (n := 4) rfl (by decide) (by decide) m
  have h2 : f_X6_isWithin 5 10 14 m = some (0, m) := wi_neg (by decide) m
  have h3 : f_X6_isWithin 15 0 4 m = some (0, m) := wi_out (k := 15) (n := 4) rfl (by decide) (by decide) m
  have h4 : f_X6_isWithin 15 10 14 m = some (0, m) := by simp [f_X6_isWithin, show ¬ (15 : Int32) < 10 from by decide, show (14 : Int32) < 15 from by decide]
  constructor
  · unfold f_X6_passes
    rw [h1, bnd_some, if_pos rfl, h2, bnd_some, if_pos rfl]
  · unfold f_X6_passes
    rw [h3, bnd_some, if_pos rfl, h4, bnd_some, if_pos rfl]
/-! refused: the answer is refusalOf's -/
theorem pass_ref {x1 x2 x3 x4 b y r : Int32} {m m1 : Mem} (h : f_X6_refusalOf x1 x2 x3 x4 b m = some (r, m1)) (hr : ¬ r = 0) : f_X6_passes_j27 b x1 x2 x3 x4 y m = some (r, m1) := by
  unfold f_X6_passes_j27
  rw [h, bnd_some, if_neg hr]
theorem toll_ref {f x1 x2 x3 x4 r : Int32} {m m1 : Mem} (hf : f_X5_has f m = some (1, m)) (h : f_X6_refusalOf x1 x2 x3 x4 1 m = some (r, m1)) (hr : ¬ r = 0) : f_X6_toll f x1 x2 x3 x4 m = some (r, m1) := by
  unfold f_X6_toll f_X6_refusalWithFish
  rw [hf, bnd_some, if_neg (by decide), h, bnd_some, bnd_some, if_neg hr]
theorem wants_ref {f x1 x2 x3 x4 r : Int32} {m m1 : Mem} (hf : f_X5_has f m = some (1, m)) (h : f_X6_refusalOf x1 x2 x3 x4 1 m = some (r, m1)) (hr : ¬ r = 0) : f_X6_wants f x1 x2 x3 x4 m = some (r, m1) := by
  unfold f_X6_wants f_X6_refusalWithFish
  rw [hf, bnd_some, if_neg (by decide), h, bnd_some, bnd_some, if_neg hr]
theorem owes_ref {f g x1 x2 x3 x4 r : Int32} {m m1 : Mem} (hg : f_X5_has g m = some (1, m)) (hf : f_X5_has f m = some (1, m)) (h : f_X6_refusalOf x1 x2 x3 x4 1 m = some (r, m1)) (hr : ¬ r = 0) : f_X6_owes f g x1 x2 x3 x4 m = some (r, m1) := by
  unfold f_X6_owes f_X6_refusalWithFish
  rw [hg, bnd_some, if_neg (by decide), hf, bnd_some, if_neg (by decide), h, bnd_some, bnd_some]
  unfold f_X6_owes_j30
  rw [if_neg hr]
theorem toll_unk {f x1 x2 x3 x4 : Int32} {m : Mem} (hf : f_X5_has f m = some (0, m)) : f_X6_toll f x1 x2 x3 x4 m = some (-1, mset m 0 0 6 0) := by
  unfold f_X6_toll f_X6_refusalWithFish f_X6_unknownFish
  rw [hf, bnd_some, if_pos rfl, bnd_some, bnd_some, if_neg (by decide)]
theorem wants_unk {f x1 x2 x3 x4 : Int32} {m : Mem} (hf : f_X5_has f m = some (0, m)) : f_X6_wants f x1 x2 x3 x4 m = some (-1, mset m 0 0 6 0) := by
  unfold f_X6_wants f_X6_refusalWithFish f_X6_unknownFish
  rw [hf, bnd_some, if_pos rfl, bnd_some, bnd_some, if_neg (by decide)]
theorem owes_unk {f g x1 x2 x3 x4 : Int32} {m : Mem} (hg : f_X5_has g m = some (0, m) ∨ (f_X5_has g m = some (1, m) ∧ f_X5_has f m = some (0, m))) : f_X6_owes f g x1 x2 x3 x4 m = some (-1, mset m 0 0 6 0) := by
  unfold f_X6_owes f_X6_refusalWithFish f_X6_unknownFish
  rcases hg with hg | ⟨hg, hf⟩
  · rw [hg, bnd_some, if_pos rfl, bnd_some]
    unfold f_X6_owes_j30
    rw [if_neg (by decide)]
  · rw [hg, bnd_some, if_neg (by decide), hf, bnd_some, if_pos rfl, bnd_some, bnd_some]
    unfold f_X6_owes_j30
    rw [if_neg (by decide)]
/-! what refusalOf refuses, in the law's calls -/
theorem ref_sheet (x2 x3 x4 b : Int32) (m : Mem) : f_X6_refusalOf 4 x2 x3 x4 b m = some (-1, mset m 0 0 6 0) := by
  have h : ∀ m, f_X6_isWithin 4 0 3 m = some (0, m) := fun m => wi_out (k := 4) (n := 3) rfl (by decide) (by decide) m
  simp [f_X6_refusalOf, f_X6_isSheet, h, bnd]
theorem ref_lane {k : Nat} (hk : k < 4) (x3 x4 b : Int32) (m : Mem) : f_X6_refusalOf (nI k) 3 x3 x4 b m = some (-2, mset m 0 0 6 0) := by
  have h : ∀ m, f_X6_isWithin 3 0 2 m = some (0, m) := fun m => wi_out (k := 3) (n := 2) rfl (by decide) (by decide) m
  simp [f_X6_refusalOf, sheet_in hk, f_X6_isLane, h, bnd]
theorem ref_n {k la : Nat} (hk : k < 4) (hla : la < 3) (x3 b : Int32) (m : Mem) : f_X6_refusalOf (nI k) (nI la) x3 21 b m = some (-2, mset m 0 0 6 0) ∧ f_X6_refusalOf (nI k) (nI la) x3 (-1) b m = some (-2, mset m 0 0 6 0) := by
  have h1 : ∀ m, f_X6_isWithin 21 0 20 m = some (0, m) := fun m => wi_out (k := 21) (n := 20) rfl (by decide) (by decide) m
  have h2 : ∀ m, f_X6_isWithin (-1) 0 20 m = some (0, m) := fun m => wi_neg (by decide) m
  exact ⟨by simp [f_X6_refusalOf, sheet_in hk, lane_in hla, h1, bnd], by simp [f_X6_refusalOf, sheet_in hk, lane_in hla, h2, bnd]⟩
theorem ref_what {k la q : Nat} (hk : k < 4) (hla : la < 3) (hq : q ≤ 20) (x3 : Int32) (m : Mem) : f_X6_refusalOf (nI k) (nI la) x3 (nI q) 0 m = some (-2, mset m 0 0 6 0) := by
  have hw : ∀ m, f_X6_isWithin (nI q) 0 20 m = some (1, m) := fun m => wi_in (n := 20) rfl hq (by decide) m
  simp [f_X6_refusalOf, sheet_in hk, lane_in hla, hw, bnd]
/-- a row that comes to a fault -/
theorem ref_fault {m : Mem} {k la q v : Nat} {x3 : Int32} (hk : k < 4) (hla : la < 3) (hq : q ≤ 20) (hv : 1 ≤ v) (hv4 : v ≤ 4) (hf : f_X4_faultAt k (nI la) x3 (nI (2 * q)) (mset m 0 0 6 0) = some (nI v, mset m 0 0 6 0)) :
    f_X6_refusalOf (nI k) (nI la) x3 (nI q) 1 m = some (-10 - nI v, mset m 0 0 6 (nI v)) := by
  have hw : ∀ m, f_X6_isWithin (nI q) 0 20 m = some (1, m) := fun m => wi_in (n := 20) rfl hq (by decide) m
  have b1 : inB (nI k) 4 = true := inB_nI hk (by decide)
  have b2 : ix (nI k) = k := ix_nI (by omega)
  have e2 : (2 : Int32) * nI q = nI (2 * q) := pk_mul 2 q
  have hv0 : ¬ nI v = 0 := fun z => by have := (nI_z (by omega)).mp z; omega
  unfold f_X6_refusalOf
  rw [sheet_in hk, bnd_some, if_neg (by decide), lane_in hla, bnd_some, if_neg (by decide), hw, bnd_some, if_neg (by decide), if_neg (by decide), if_pos b1, b2, e2, hf, bnd_some, if_neg hv0]
  unfold f_X6_faulty
  rw [bnd_some, mset_mset]
/-- a row of one pair: a fish that isn't, or a way that isn't -/
theorem ref_one {m : Mem} {Sh : ShT} {F : FdT} {k la a len : Nat} {c : Nat → Int32} (h : CI m Sh F) (hn : 1 ≤ F 0 0) (h5 : F 0 0 ≤ 5) (hs : Sh k = some (la, len, c)) (hk : k < 4) (hla : la < 3) (hl : len ≤ 60) (hal : a + 2 ≤ len) :
    (c a = nI (F 0 0) → f_X6_refusalOf (nI k) (nI la) (nI a) 1 1 m = some (-1, mset m 0 0 6 0)) ∧ (c a = 0 → (c (a + 1) = 4 ∨ c (a + 1) = -1) → f_X6_refusalOf (nI k) (nI la) (nI a) 1 1 m = some (-2, mset m 0 0 6 0)) := by
  have h0 := CI_ft (ft := 0) h
  have hS := h0.1 k hk
  rw [hs] at hS
  have b1 : inB (nI k) 4 = true := inB_nI hk (by decide)
  have b2 : ix (nI k) = k := ix_nI (by omega)
  have e := ref_head (q := 1) h hn h5 hs hk hla (by decide) hl (by omega)
  have e : f_X6_refusalOf (nI k) (nI la) (nI a) 1 1 m = lpk (f_X6_refusalOf_b85 (nI k) (nI a) (nI 1)) fuelN (nI 0, mset m 0 0 6 0) (fun t85 => some ((0 : Int32), t85)) := e
  have hge : ¬ nI 1 ≤ nI 0 := by decide
  have ff : fuelN = (fuelN - 1) + 1 := by decide
  rw [e, ff, lpk_s]
  unfold f_X6_refusalOf_b85
  dsimp only
  rw [if_neg hge, if_pos b1, b2, nI_2, show a + 2 * 0 = a by omega, at_c hS hl (by omega), bnd_some]
  refine ⟨fun h1 => ?_, fun h1 h2 => ?_⟩
  · rw [h1, has_out (Nat.le_refl _) (by omega) h0.th.1, bnd_some, if_pos rfl]
  · have h3 : f_X6_isWithin (c (a + 1)) 0 3 (mset m 0 0 6 0) = some (0, mset m 0 0 6 0) := by
      rcases h2 with h2 | h2
      · rw [h2]; exact wi_out (k := 4) (n := 3) rfl (by decide) (by decide) _
      · rw [h2]; exact wi_neg (by decide) _
    have h9 : f_X5_has 0 (mset m 0 0 6 0) = some (1, mset m 0 0 6 0) := has_in (f := 0) (show 0 < F 0 0 by omega) (by omega) h0.th.1
    rw [h1, h9, bnd_some, if_neg (by decide), if_pos b1, nI_1, at_c hS hl (by omega), bnd_some, h3, bnd_some, if_pos rfl]
/-! ===== what is answered of a row that is taken ===== -/
def tellS (F C : FdT) (y : Nat) : Int32 := if y = 0 then nI (C 3 0) else if y = 2 then nI (C 0 0) else if y = 3 then nI (C 1 0) else if y = 4 then nI (C 2 0) else if y - 10 < F 0 0 then nI (C 4 (y - 10)) else -9
def ansW (W : FdT ⊕ Nat) (g : FdT → Int32) : Int32 := match W with
  | .inl C => g C
  | .inr p => -100 - nI p
theorem tell_c {m : Mem} {F C : FdT} {y : Nat} (hX : XR m 0 F C) (hT : m 4 0 1 = nI (F 0 0)) (h5 : F 0 0 ≤ 5) (hy : y = 0 ∨ (2 ≤ y ∧ y ≤ 4) ∨ (10 ≤ y ∧ y ≤ 14)) :
    (if nI y = (0 : Int32) then some ((m 7 0 13), m)
            else
              if nI y = (1 : Int32) then
                bnd (f_X5_has (nI y - (10 : Int32)) m) (fun r161 m161 =>
                  if r161 = 0 then
                    some ((-9 : Int32), m161)
                  else
                    if inB (nI y - (10 : Int32)) 5 = true then
                      some ((m161 10 0 (ix (nI y - (10 : Int32)))), m161)
                    else none)
              else
                if nI y = (2 : Int32) then
                  some ((m 7 0 10), m)
                else
                  if nI y = (3 : Int32) then
                    some ((m 7 0 11), m)
                  else
                    if nI y = (4 : Int32) then
                      some ((m 7 0 12), m)
                    else
                      bnd (f_X5_has (nI y - (10 : Int32)) m) (fun r161 m161 =>
                        if r161 = 0 then
                          some ((-9 : Int32), m161)
                        else
                          if inB (nI y - (10 : Int32)) 5 = true then
                            some ((m161 10 0 (ix (nI y - (10 : Int32)))), m161)
                          else none)) = some (tellS F C y, m) := by
  have en : ∀ z : Nat, z < 2 ^ 31 → ((nI y = nI z) ↔ y = z) := fun z hz => nI_eq (by omega) hz
  have n0 : (nI y = 0) ↔ y = 0 := en 0 (by decide)
  have n1 : (nI y = 1) ↔ y = 1 := en 1 (by decide)
  have n2 : (nI y = 2) ↔ y = 2 := en 2 (by decide)
  have n3 : (nI y = 3) ↔ y = 3 := en 3 (by decide)
  have n4 : (nI y = 4) ↔ y = 4 := en 4 (by decide)
  unfold tellS
  by_cases y0 : y = 0
  · rw [if_pos (n0.mpr y0), if_pos y0, hX.2.2.2.2.2.1]
  rw [if_neg (fun z => y0 (n0.mp z)), if_neg y0, if_neg (fun z => by have := n1.mp z; omega)]
  by_cases y2 : y = 2
  · rw [if_pos (n2.mpr y2), if_pos y2, hX.2.2.1]
  rw [if_neg (fun z => y2 (n2.mp z)), if_neg y2]
  by_cases y3 : y = 3
  · rw [if_pos (n3.mpr y3), if_pos y3, hX.2.2.2.1]
  rw [if_neg (fun z => y3 (n3.mp z)), if_neg y3]
  by_cases y4 : y = 4
  · rw [if_pos (n4.mpr y4), if_pos y4, hX.2.2.2.2.1]
  rw [if_neg (fun z => y4 (n4.mp z)), if_neg y4, show nI y - 10 = nI (y - 10) from pk_sub (b := 10) (by omega)]
  by_cases hf : y - 10 < F 0 0
  · obtain ⟨b1, b2⟩ := i5 hf h5
    rw [has_in hf (by omega) hT, bnd_some, if_neg (by decide), if_pos b1, b2, if_pos hf, (hX.2.2.2.2.2.2 _ hf).2.2.1]
  · rw [has_out (by omega) (by omega) hT, bnd_some, if_pos rfl, if_neg hf]
section ANS
variable {m : Mem} {Sh : ShT} {F : FdT} {k la a q len : Nat} {c : Nat → Int32} {fs hs : Nat → Nat}
theorem c_passes1 (h : CI m Sh F) (hW : WF F) (hn : 1 ≤ F 0 0) (hs' : Sh k = some (la, len, c)) (hk : k < 4) (hla : la < 3) (hq : q ≤ 20) (hl : len ≤ 60) (hal : a + 2 * q ≤ len) (hR : Row F c a q fs hs) :
    ∃ m', f_X6_passes (nI k) (nI la) (nI a) (nI q) 1 m = some (wv (walkS F fs hs q 0 (startS F)), m') ∧ CI m' Sh F ∧ CF m m' := by
  obtain ⟨m', w1, w2, w3, w4⟩ := c_walk h hW hs' hk hl hal hR
  refine ⟨m', ?_, w2, w3⟩
  have e := pf_1 (y := 1) (by omega) (nI k) (nI la) (nI a) (nI q) m
  have e : f_X6_passes (nI k) (nI la) (nI a) (nI q) 1 m = f_X6_passes_j27 1 (nI k) (nI la) (nI a) (nI q) 1 m := e
  rw [e]
  unfold f_X6_passes_j27
  rw [c_ref h hn hW.1 hs' hk hla hq hl hal hR, bnd_some, if_pos rfl, w1, bnd_some, if_pos rfl]
theorem c_passes {y : Nat} (hy : y = 0 ∨ (2 ≤ y ∧ y ≤ 4) ∨ (10 ≤ y ∧ y ≤ 14)) (h : CI m Sh F) (hW : WF F) (hn : 1 ≤ F 0 0) (hs' : Sh k = some (la, len, c)) (hk : k < 4) (hla : la < 3) (hq : q ≤ 20) (hl : len ≤ 60) (hal : a + 2 * q ≤ len) (hR : Row F c a q fs hs) :
    ∃ m', f_X6_passes (nI k) (nI la) (nI a) (nI q) (nI y) m = some (ansW (walkS F fs hs q 0 (startS F)) (fun C => tellS F C y), m') ∧ CI m' Sh F ∧ CF m m' := by
  obtain ⟨m', w1, w2, w3, w4⟩ := c_walk h hW hs' hk hl hal hR
  refine ⟨m', ?_, w2, w3⟩
  have n1 : ¬ nI y = 1 := fun z => by have := (nI_eq (b := 1) (by omega) (by decide)).mp z; omega
  rw [pf_1 (by omega)]
  unfold f_X6_passes_j27
  rw [c_ref h hn hW.1 hs' hk hla hq hl hal hR, bnd_some, if_pos rfl, w1, bnd_some, if_neg n1]
  cases hw : walkS F fs hs q 0 (startS F) with
  | inl C => rw [if_pos wv_l]; exact tell_c (w4 C hw) w2.th.1 hW.1 hy
  | inr p =>
    have := walkS_lt q 0 (startS F) p hw
    have hp : ¬ wv (.inr p) = -9 := m9' (by omega)
    rw [if_neg hp]
    rfl
theorem c_toll {f : Nat} (hf : f < F 0 0) (h : CI m Sh F) (hW : WF F) (hs' : Sh k = some (la, len, c)) (hk : k < 4) (hla : la < 3) (hq : q ≤ 20) (hl : len ≤ 60) (hal : a + 2 * q ≤ len) (hR : Row F c a q fs hs) :
    ∃ m', f_X6_toll (nI f) (nI k) (nI la) (nI a) (nI q) m = some (ansW (walkS F fs hs q 0 (startS F)) (fun C => nI (tollS F C f)), m') ∧ CI m' Sh F ∧ CF m m' := by
  obtain ⟨m', w1, w2, w3, w4⟩ := c_walk h hW hs' hk hl hal hR
  refine ⟨m', ?_, w2, w3⟩
  have h5 := hW.1
  unfold f_X6_toll f_X6_refusalWithFish
  rw [has_in hf (by omega) h.th.1, bnd_some, if_neg (by decide), c_ref h (by omega) hW.1 hs' hk hla hq hl hal hR, bnd_some, bnd_some, if_pos rfl, w1, bnd_some]
  cases hw : walkS F fs hs q 0 (startS F) with
  | inl C =>
    have hB := walkS_CB hW.wc q 0 0 (startS F) C (fun z hz => (hR z (by omega)).1) (CB_start hW.wc) hw
    rw [if_pos wv_l, toll_c (w4 C hw) hW.wc hB hf]
    rfl
  | inr p =>
    have := walkS_lt q 0 (startS F) p hw
    have hp : ¬ wv (.inr p) = -9 := m9' (by omega)
    rw [if_neg hp]
    rfl
theorem c_owes {f g : Nat} (hf : f < F 0 0) (hg : g < F 0 0) (h : CI m Sh F) (hW : WF F) (hs' : Sh k = some (la, len, c)) (hk : k < 4) (hla : la < 3) (hq : q ≤ 20) (hl : len ≤ 60) (hal : a + 2 * q ≤ len) (hR : Row F c a q fs hs) :
    ∃ m', f_X6_owes (nI f) (nI g) (nI k) (nI la) (nI a) (nI q) m = some (ansW (walkS F fs hs q 0 (startS F)) (fun C => nI (C (5 + f) g)), m') ∧ CI m' Sh F ∧ CF m m' := by
  obtain ⟨m', w1, w2, w3, w4⟩ := c_walk h hW hs' hk hl hal hR
  refine ⟨m', ?_, w2, w3⟩
  have h5 := hW.1
  obtain ⟨b1, b2⟩ := i5 hf h5
  obtain ⟨b3, b4⟩ := i5 hg h5
  unfold f_X6_owes f_X6_refusalWithFish
  rw [has_in hg (by omega) h.th.1, bnd_some, if_neg (by decide), has_in hf (by omega) h.th.1, bnd_some, if_neg (by decide), c_ref h (by omega) hW.1 hs' hk hla hq hl hal hR, bnd_some, bnd_some]
  unfold f_X6_owes_j30
  rw [if_pos rfl, w1, bnd_some, if_pos b1, if_pos b3, b2, b4]
  cases hw : walkS F fs hs q 0 (startS F) with
  | inl C => rw [if_pos wv_l, ((w4 C hw).2.2.2.2.2.2 f hf).2.2.2.2.2 g hg]; rfl
  | inr p =>
    have := walkS_lt q 0 (startS F) p hw
    have hp : ¬ wv (.inr p) = -9 := m9' (by omega)
    rw [if_neg hp]
    rfl
theorem c_wants {f : Nat} (hf : f < F 0 0) (h : CI m Sh F) (hW : WF F) (hs' : Sh k = some (la, len, c)) (hk : k < 4) (hla : la < 3) (hq : q ≤ 20) (hl : len ≤ 60) (hal : a + 2 * q ≤ len) (hR : Row F c a q fs hs) :
    ∃ m', f_X6_wants (nI f) (nI k) (nI la) (nI a) (nI q) m = some (firstS (moreB F fs hs q f) 0 100, m') ∧ CI m' Sh F ∧ CF m m' := by
  have h5 := hW.1
  have h0 := CI_ft (ft := 0) h
  have hS := h0.1 k hk
  rw [hs'] at hS
  obtain ⟨m', w1, w2⟩ := wants_c hf hk hq hW h0.2 hS hl hal hR 100 0 fuelN (mset m 0 0 6 0) (by omega) (by decide) XF.rf
  refine ⟨m', ?_, w1.ci h0, CF.tr (CF.rf.set (by decide)) w1.cf⟩
  unfold f_X6_wants f_X6_refusalWithFish
  rw [has_in hf (by omega) h.th.1, bnd_some, if_neg (by decide), c_ref h (by omega) hW.1 hs' hk hla hq hl hal hR, bnd_some, bnd_some, if_pos rfl]
  exact w2
end ANS
