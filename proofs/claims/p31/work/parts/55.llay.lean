/-! ===== the law lays passes ===== -/
section LLAY
theorem mset_nj {m : Mem} {t i j t' i' j' : Nat} {v : Int32} (h : ¬ j' = j) : mset m t i j v t' i' j' = m t' i' j' := if_neg (fun q => h q.2.2)
variable {L : Nat} {xsc : Nat → Int32}
/-- tries at one pass -/
theorem tries_l {F : FdT} {k f g : Nat} {x2 x8 y : Int32} (hW : WC F) (hk : k < 20) (hf : f < F 0 0) : ∀ t qq, qq + t = 4 → ∀ (m : Mem) (C : FdT) (h : Nat), GI m F → LX m F C → CB C g → m 71 0 (2 * k) = nI f → m 71 0 (2 * k + 1) = nI h → h < 4 →
    ∃ m' C' h', h' < 4 ∧ (∀ t, t ≠ 71 → t ≠ 72 → t ≠ 73 → m' t = m t) ∧ (∀ j, j ≠ 2 * k + 1 → m' 71 0 j = m 71 0 j) ∧ m' 71 0 (2 * k + 1) = nI h' ∧ LX m' F C' ∧ CB C' (g + 36) ∧
      ∀ (K : Mem → Option (Int32 × Mem)) fu, t < fu → lpk (f_L_lay_b105 L xsc x2 x8 (nI k) y) fu (nI qq, m) K = K m' := by
  obtain ⟨⟨b1, b2⟩, b3, b4⟩ := p40 hk
  have s9 : ∀ m, f_L_some L xsc (y >>> ((4 : Int32) &&& 31)) 9 m = some (nI (someS (y >>> ((4 : Int32) &&& 31)) 9), m) := fun m => some_l (n := 9) _ (by decide) (by decide) m
  have l9 := someS_lt (y >>> ((4 : Int32) &&& 31)) (n := 9) (by decide)
  intro t
  induction t with
  | zero =>
    intro qq hq m C h hG hX hB r3 r4 hh
    have e : qq = 4 := by omega
    subst e
    refine ⟨m, C, h, hh, fun _ _ _ _ => rfl, fun _ _ => rfl, r4, hX, hB.mono (by omega), fun K fu hfu => ?_⟩
    obtain ⟨fu, rfl⟩ : ∃ n', fu = n' + 1 := ⟨fu - 1, by omega⟩
    rw [lpk_s]
    unfold f_L_lay_b105
    dsimp only
    rw [if_pos (show (4 : Int32) ≤ nI 4 from by decide)]
  | succ t ih =>
    intro qq hq m C h hG hX hB r3 r4 hh
    have hge : ¬ (4 : Int32) ≤ nI qq := nI_ge (b := 4) (by omega) (by decide)
    by_cases z : someS (y >>> ((4 : Int32) &&& 31)) 9 = 0
    · refine ⟨m, C, h, hh, fun _ _ _ _ => rfl, fun _ _ => rfl, r4, hX, hB.mono (by omega), fun K fu hfu => ?_⟩
      obtain ⟨fu, rfl⟩ : ∃ n', fu = n' + 1 := ⟨fu - 1, by omega⟩
      rw [lpk_s]
      unfold f_L_lay_b105
      dsimp only
      rw [if_neg hge, s9, bnd_some, z, if_pos (show nI 0 ≤ 0 from by decide)]
    have hz : ¬ nI (someS (y >>> ((4 : Int32) &&& 31)) 9) ≤ 0 := nI_nle (by omega) (by omega)
    have hp := pass_l (L := L) (xsc := xsc) hG hX hW hB hf hh
    cases hx : passS F C f h with
    | some q =>
      rw [hx] at hp
      obtain ⟨m1, e1, e2, e3⟩ := hp
      refine ⟨m1, q.1, h, hh, fun t _ h2 h3 => e2 t h2 h3, fun j _ => by rw [e2 71 (by decide) (by decide)], by rw [e2 71 (by decide) (by decide)]; exact r4, e3, passS_CB (p := q.2) hW hf hB (by rw [hx]), fun K fu hfu => ?_⟩
      obtain ⟨fu, rfl⟩ : ∃ n', fu = n' + 1 := ⟨fu - 1, by omega⟩
      rw [lpk_s]
      unfold f_L_lay_b105
      dsimp only
      rw [if_neg hge, s9, bnd_some, if_neg hz, if_pos b1, if_pos b3, b2, b4, r3, r4, e1, bnd_some, if_neg (by decide)]
    | none =>
      rw [hx] at hp
      have er : nI h + 1 - (nI h + 1) / 4 * 4 = nI ((h + 1) % 4) := by
        rw [nI_1]
        exact pk_rem (a := h + 1) (d := 4) (by omega) (by decide) (by decide)
      obtain ⟨m', C', h', a1, a2, a3, a4, a5, a6, a7⟩ := ih (qq + 1) (by omega) (mset m 71 0 (2 * k + 1) (nI ((h + 1) % 4))) C ((h + 1) % 4) (GI_cong (mset_ne (by decide)) hG) (LX_cong (mset_ne (by decide)) (mset_ne (by decide)) hX) hB (by simpa [mset] using r3) (by simp [mset]) (Nat.mod_lt _ (by decide))
      refine ⟨m', C', h', a1, fun t h1 h2 h3 => by rw [a2 t h1 h2 h3, mset_ne h1], fun j hj => by rw [a3 j hj]; simp [mset, hj], a4, a5, a6, fun K fu hfu => ?_⟩
      obtain ⟨fu, rfl⟩ : ∃ n', fu = n' + 1 := ⟨fu - 1, by omega⟩
      have st : ∀ nx, f_L_lay_b105 L xsc x2 x8 (nI k) y nx K (nI qq, m) = nx (nI (qq + 1), mset m 71 0 (2 * k + 1) (nI ((h + 1) % 4))) := fun nx => by
        unfold f_L_lay_b105
        dsimp only
        rw [if_neg hge, s9, bnd_some, if_neg hz, if_pos b1, if_pos b3, b2, b4, r3, r4, hp, bnd_some, if_pos rfl, if_pos b3, if_pos (by decide), r4, er]
        unfold dv
        dsimp only
        rw [if_pos b3, nI_1]
      rw [lpk_s, st]
      exact a7 K fu (by omega)
/-- passes laid, in p and in sheet 1 -/
def QL (m : Mem) (Sh : ShT) (F : FdT) (k : Nat) : Prop := ∃ c C, CI m (upS_ Sh 1 (some (0, 44, c))) F ∧ GI m F ∧ LX m F C ∧ CB C (36 * k) ∧ ∀ p, p < k → ∃ f h, f < F 0 0 ∧ h < 4 ∧ m 71 0 (2 * p) = nI f ∧ m 71 0 (2 * p + 1) = nI h ∧ c (2 + 2 * p) = nI f ∧ c (2 + 2 * p + 1) = nI h
theorem lay1_l {m : Mem} {Sh : ShT} {F : FdT} {k k0 q : Nat} (hL : L ≤ 260) (hk0 : k0 ≤ 100) (hW : WC F) (hn1 : 1 ≤ F 0 0) (hk : k < q) (hq : q ≤ 9) (hQ : QL m Sh F k) :
    ∃ m', QL m' Sh F (k + 1) ∧ ∀ nx K, f_L_lay_b42 L xsc (nI k0) (nI q) nx K (nI k, m) = nx (nI (k + 1), m') := by
  have hn := hW.1
  obtain ⟨c, C, hC, hG, hX, hB, hP⟩ := hQ
  obtain ⟨-, ⟨y3, y4⟩, -⟩ := x28
  obtain ⟨⟨b1, b2⟩, b3, b4⟩ := p40 (p := k) (by omega)
  have hge : ¬ nI q ≤ nI k := nI_ge hk (by omega)
  have er : nI k - nI k / 3 * 3 = nI (k % 3) := pk_rem (a := k) (d := 3) (by omega) (by decide) (by decide)
  have ed : nI k / 3 = nI (k / 3) := pk_div (a := k) (d := 3) (by omega) (by decide) (by decide)
  have ec : nI k0 + (1 : Int32) + nI (k % 3) = nI (k0 + 1 + k % 3) := by rw [nI_1, nI_add]
  generalize hy : cellS L xsc (k0 + 1 + k % 3) >>> ((nI (k / 3) * (5 : Int32)) &&& 31) = y
  have hf := someS_lt y (n := F 0 0) (by omega)
  have hh := someS_lt (y >>> ((2 : Int32) &&& 31)) (n := 4) (by decide)
  have s4 : ∀ m, f_L_some L xsc (y >>> ((2 : Int32) &&& 31)) 4 m = some (nI (someS (y >>> ((2 : Int32) &&& 31)) 4), m) := fun m => some_l (n := 4) _ (by decide) (by decide) m
  obtain ⟨m3, C', h', a1, a2, a3, a4, a5, a6, a7⟩ := tries_l (L := L) (xsc := xsc) (x2 := nI k0) (x8 := nI q) (y := y) hW (show k < 20 by omega) hf 4 0 (by omega) (mset (mset m 71 0 (2 * k) (nI (someS y (F 0 0)))) 71 0 (2 * k + 1) (nI (someS (y >>> ((2 : Int32) &&& 31)) 4))) C (someS (y >>> ((2 : Int32) &&& 31)) 4)
    (GI_cong (by rw [mset_ne (by decide), mset_ne (by decide)]) hG) (LX_cong (by rw [mset_ne (by decide), mset_ne (by decide)]) (by rw [mset_ne (by decide), mset_ne (by decide)]) hX) hB (by simp [mset]) (by simp [mset]) hh
  have hfr : ∀ t, t ≠ 71 → t ≠ 72 → t ≠ 73 → m3 t = m t := fun t h1 h2 h3 => by rw [a2 t h1 h2 h3, mset_ne h1, mset_ne h1]
  have r3 : m3 71 0 (2 * k) = nI (someS y (F 0 0)) := by rw [a3 _ (by omega)]; simp [mset]
  have C3 : CI m3 (upS_ Sh 1 (some (0, 44, c))) F := CI_cong (fun t ht => hfr t (by omega) (by omega) (by omega)) hC
  obtain ⟨m4, p1, p2, p3⟩ := c_put (k := 1) (j := 2 + 2 * k) (nI (someS y (F 0 0))) C3 (by decide) upS_at (by decide) (by omega)
  rw [upS_upS, cut_nI (by omega)] at p2
  have r4 : m4 71 0 (2 * k + 1) = nI h' := by rw [p3 71 (by decide)]; exact a4
  obtain ⟨m5, q1, q2, q3⟩ := c_put (k := 1) (j := 3 + 2 * k) (nI h') p2 (by decide) upS_at (by decide) (by omega)
  rw [upS_upS, cut_nI (by omega)] at q2
  have h71 : ∀ j, m5 71 0 j = m3 71 0 j := fun j => by rw [q3 71 (by decide), p3 71 (by decide)]
  refine ⟨m5, ⟨_, C', q2, GI_cong (by rw [q3 70 (by decide), p3 70 (by decide), hfr 70 (by decide) (by decide) (by decide)]) hG, LX_cong (by rw [q3 72 (by decide), p3 72 (by decide)]) (by rw [q3 73 (by decide), p3 73 (by decide)]) a5, a6.mono (by omega), fun p hp => ?_⟩, fun nx K => ?_⟩
  · by_cases e : p = k
    · subst e
      refine ⟨someS y (F 0 0), h', hf, a1, by rw [h71]; exact r3, by rw [h71]; exact a4, ?_, ?_⟩
      · rw [if_neg (by omega), if_pos rfl]
      · rw [if_pos (by omega)]
    · obtain ⟨f, h, u1, u2, u3, u4, u5, u6⟩ := hP p (by omega)
      refine ⟨f, h, u1, u2, ?_, ?_, ?_, ?_⟩
      · have n1 : ¬ 2 * p = 2 * k := by omega
        have n2 : ¬ 2 * p = 2 * k + 1 := by omega
        rw [h71, a3 _ (by omega)]
        rw [mset_nj n2, mset_nj n1]; exact u3
      · have n1 : ¬ 2 * p + 1 = 2 * k := by omega
        have n2 : ¬ 2 * p + 1 = 2 * k + 1 := by omega
        rw [h71, a3 _ (by omega)]
        rw [mset_nj n2, mset_nj n1]; exact u4
      · rw [if_neg (by omega), if_neg (by omega)]; exact u5
      · rw [if_neg (by omega), if_neg (by omega)]; exact u6
  · have e2 : (2 : Int32) + (2 : Int32) * nI k = nI (2 + 2 * k) := by
      rw [show (2 : Int32) * nI k = nI (2 * k) from pk_mul 2 k]
      exact nI_add 2 _
    have e3 : (3 : Int32) + (2 : Int32) * nI k = nI (3 + 2 * k) := by
      rw [show (2 : Int32) * nI k = nI (2 * k) from pk_mul 2 k]
      exact nI_add 3 _
    have q1' : f_X6_put 1 (nI (3 + 2 * k)) (nI h') m4 = some (1, m5) := q1
    have p1' : f_X6_put 1 (nI (2 + 2 * k)) (nI (someS y (F 0 0))) m3 = some (1, m4) := p1
    have tail : f_L_lay_j181 L xsc nx K (nI k0) (nI q) (nI k) m3 = nx (nI (k + 1), m5) := by
      unfold f_L_lay_j181
      rw [if_pos b1, b2, r3, e2, p1', bnd_some, if_pos rfl, if_pos b3, b4, r4, e3, q1', bnd_some, if_pos rfl, nI_1]
    unfold f_L_lay_b42
    dsimp only
    rw [if_neg hge, if_pos (by decide), er]
    unfold dv
    dsimp only
    rw [ec, cell_l hL (by omega), bnd_some, if_pos (by decide), ed, hy, if_pos y3, y4, hG.2.1, some_l y (by omega) (by omega), bnd_some, if_pos b1, b2, s4, bnd_some, if_pos b3, b4]
    have := a7 (fun t105 => f_L_lay_j181 L xsc nx K (nI k0) (nI q) (nI k) t105) fuelN (by decide)
    exact this.trans tail
theorem lays_l {Sh : ShT} {F : FdT} {k0 q : Nat} (hL : L ≤ 260) (hk0 : k0 ≤ 100) (hW : WC F) (hn1 : 1 ≤ F 0 0) (hq : q ≤ 9) (K : Mem → Option (Int32 × Mem)) : ∀ t k, k + t = q → ∀ m fu, t < fu → QL m Sh F k →
    ∃ m', lpk (f_L_lay_b42 L xsc (nI k0) (nI q)) fu (nI k, m) K = K m' ∧ QL m' Sh F q := by
  intro t
  induction t with
  | zero =>
    intro k hk m fu hfu hQ
    obtain ⟨fu, rfl⟩ : ∃ n', fu = n' + 1 := ⟨fu - 1, by omega⟩
    have e : k = q := by omega
    subst e
    refine ⟨m, ?_, hQ⟩
    rw [lpk_s]
    unfold f_L_lay_b42
    dsimp only
    rw [if_pos (nI_le (Nat.le_refl _) (by omega))]
  | succ t ih =>
    intro k hk m fu hfu hQ
    obtain ⟨fu, rfl⟩ : ∃ n', fu = n' + 1 := ⟨fu - 1, by omega⟩
    obtain ⟨m1, h1, st⟩ := lay1_l (L := L) (xsc := xsc) (k0 := k0) hL hk0 hW hn1 (show k < q by omega) hq hQ
    obtain ⟨m', a1, a2⟩ := ih (k + 1) (by omega) m1 fu (by omega) h1
    exact ⟨m', by rw [lpk_s, st]; exact a1, a2⟩
theorem lay_l {m : Mem} {Sh : ShT} {F : FdT} {k0 : Nat} (hL : L ≤ 260) (hk0 : k0 ≤ 100) (hJ : JI m Sh F) (hn1 : 1 ≤ F 0 0) :
    ∃ q fs hs c m', q ≤ 9 ∧ f_L_lay L xsc (nI k0) m = some (nI q, m') ∧ JI m' (upS_ Sh 1 (some (0, 44, c))) F ∧ LD m' q fs hs ∧ Row F c 2 q fs hs := by
  obtain ⟨hC, hG, hW⟩ := hJ
  obtain ⟨m1, e1, e2, e3⟩ := c_sheet (k := 1) (len := 44) hC (by decide) (by decide)
  have e1 : f_X6_sheet 1 0 44 m = some (1, m1) := e1
  have G1 := GI_cong (e3 70 (by decide)) hG
  obtain ⟨m2, f1, f2, f3⟩ := begin_l (L := L) (xsc := xsc) G1 hW.wc
  have lq := someS_lt (cellS L xsc k0) (n := 10) (by decide)
  have s10 : ∀ m, f_L_some L xsc (cellS L xsc k0) 10 m = some (nI (someS (cellS L xsc k0) 10), m) := fun m => some_l (n := 10) _ (by decide) (by decide) m
  obtain ⟨m3, g1, c, C, g2, g3, g4, g5, g6⟩ := lays_l (L := L) (xsc := xsc) (q := someS (cellS L xsc k0) 10) hL hk0 hW.wc hn1 (by omega) (fun t42 => some (nI (someS (cellS L xsc k0) 10), t42)) (someS (cellS L xsc k0) 10) 0 (by omega) m2 fuelN (by unfold fuelN; omega) ⟨_, startS F, f2.ci e2, f2.g G1, f3, CB_start hW.wc, fun p hp => by omega⟩
  refine ⟨someS (cellS L xsc k0) 10, fun p => ix (m3 71 0 (2 * p)), fun p => ix (m3 71 0 (2 * p + 1)), c, m3, by omega, ?_, ⟨g2, g3, hW⟩, fun p hp => ?_, fun p hp => ?_⟩
  · unfold f_L_lay
    rw [cell_l hL (by omega), bnd_some, s10, bnd_some, e1, bnd_some, if_pos rfl, f1, bnd_some]
    exact g1
  · obtain ⟨f, h, u1, u2, u3, u4, u5, u6⟩ := g6 p hp
    have := hW.1
    dsimp only
    rw [u3, u4, ix_nI (by omega), ix_nI (by omega)]
    exact ⟨rfl, rfl⟩
  · obtain ⟨f, h, u1, u2, u3, u4, u5, u6⟩ := g6 p hp
    have := hW.1
    dsimp only
    rw [u3, u4, ix_nI (by omega), ix_nI (by omega)]
    exact ⟨u1, u2, u5, u6⟩
end LLAY
