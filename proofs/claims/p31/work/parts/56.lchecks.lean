/-! ===== what the law asks in a turn ===== -/
theorem mset_cg {m m' : Mem} {t i j t' : Nat} {v : Int32} (h : m' t' = m t') : mset m' t i j v t' = mset m t i j v t' := by
  funext a b
  unfold mset
  rw [h]
section LCHK
variable {L : Nat} {xsc : Nat → Int32} {Sh : ShT} {F : FdT} {q : Nat} {fs hs : Nat → Nat} {c : Nat → Int32}
/-- a turn's state: told in class and g, laid in p and sheet 1, gone in r and w -/
def TS (m : Mem) (Sh : ShT) (F : FdT) (q : Nat) (fs hs : Nat → Nat) : Prop := JI m Sh F ∧ LD m q fs hs ∧ ∀ C, walkS F fs hs q 0 (startS F) = .inl C → LX m F C
theorem TS.cf {m m' : Mem} (h : TS m Sh F q fs hs) (hC : CI m' Sh F) (hF : CF m m') : TS m' Sh F q fs hs := by
  obtain ⟨⟨-, h2, h3⟩, h4, h5⟩ := h
  refine ⟨⟨hC, GI_cong (hF 70 (by decide)) h2, h3⟩, fun p hp => ?_, fun C hw => LX_cong (hF 72 (by decide)) (hF 73 (by decide)) (h5 C hw)⟩
  rw [hF 71 (by decide)]
  exact h4 p hp
/-- what stands through a turn's calls -/
def TA (Sh : ShT) (F : FdT) (q : Nat) (fs hs : Nat → Nat) (c : Nat → Int32) : Prop := 1 ≤ F 0 0 ∧ Sh 1 = some (0, 44, c) ∧ q ≤ 9 ∧ Row F c 2 q fs hs
theorem t_passes1 {m : Mem} (hA : TA Sh F q fs hs c) (h : TS m Sh F q fs hs) : ∃ m', f_X6_passes 1 0 2 (nI q) 1 m = some (wv (walkS F fs hs q 0 (startS F)), m') ∧ TS m' Sh F q fs hs := by
  obtain ⟨a1, a2, a3, a4⟩ := hA
  obtain ⟨m', e1, e2, e3⟩ := c_passes1 (k := 1) (la := 0) (a := 2) h.1.1 h.1.2.2 a1 a2 (by decide) (by decide) (by omega) (by decide) (by omega) a4
  exact ⟨m', e1, h.cf e2 e3⟩
theorem t_passes {m : Mem} {y : Nat} (hy : y = 0 ∨ (2 ≤ y ∧ y ≤ 4) ∨ (10 ≤ y ∧ y ≤ 14)) (hA : TA Sh F q fs hs c) (h : TS m Sh F q fs hs) : ∃ m', f_X6_passes 1 0 2 (nI q) (nI y) m = some (ansW (walkS F fs hs q 0 (startS F)) (fun C => tellS F C y), m') ∧ TS m' Sh F q fs hs := by
  obtain ⟨a1, a2, a3, a4⟩ := hA
  obtain ⟨m', e1, e2, e3⟩ := c_passes (k := 1) (la := 0) (a := 2) hy h.1.1 h.1.2.2 a1 a2 (by decide) (by decide) (by omega) (by decide) (by omega) a4
  exact ⟨m', e1, h.cf e2 e3⟩
theorem t_toll {m : Mem} {f : Nat} (hf : f < F 0 0) (hA : TA Sh F q fs hs c) (h : TS m Sh F q fs hs) : ∃ m', f_X6_toll (nI f) 1 0 2 (nI q) m = some (ansW (walkS F fs hs q 0 (startS F)) (fun C => nI (tollS F C f)), m') ∧ TS m' Sh F q fs hs := by
  obtain ⟨a1, a2, a3, a4⟩ := hA
  obtain ⟨m', e1, e2, e3⟩ := c_toll (k := 1) (la := 0) (a := 2) hf h.1.1 h.1.2.2 a2 (by decide) (by decide) (by omega) (by decide) (by omega) a4
  exact ⟨m', e1, h.cf e2 e3⟩
theorem t_owes {m : Mem} {f g : Nat} (hf : f < F 0 0) (hg : g < F 0 0) (hA : TA Sh F q fs hs c) (h : TS m Sh F q fs hs) : ∃ m', f_X6_owes (nI f) (nI g) 1 0 2 (nI q) m = some (ansW (walkS F fs hs q 0 (startS F)) (fun C => nI (C (5 + f) g)), m') ∧ TS m' Sh F q fs hs := by
  obtain ⟨a1, a2, a3, a4⟩ := hA
  obtain ⟨m', e1, e2, e3⟩ := c_owes (k := 1) (la := 0) (a := 2) hf hg h.1.1 h.1.2.2 a2 (by decide) (by decide) (by omega) (by decide) (by omega) a4
  exact ⟨m', e1, h.cf e2 e3⟩
theorem wv_in {p : Nat} (hp : p < 20) : 0 ≤ wv (.inr p) ∧ ¬ wv (.inr p) < 0 := ⟨nI_pos' (by omega), nI_pos (by omega)⟩
theorem wv_m9 {C : FdT} : ¬ (0 ≤ wv (.inl C)) ∧ wv (.inl C) < 0 := by
  show ¬ (0 : Int32) ≤ -9 ∧ (-9 : Int32) < 0
  decide
theorem W_lt (hA : TA Sh F q fs hs c) {p : Nat} (hw : walkS F fs hs q 0 (startS F) = .inr p) : p < 20 := by
  have := walkS_lt q 0 (startS F) p hw
  have := hA.2.2.1
  omega
/-- what each has -/
theorem l289 {m : Mem} {x4 x8 : Int32} (hx : x4 = nI (F 0 0)) (hA : TA Sh F q fs hs c) : ∀ t f, f + t = 5 → ∀ m, TS m Sh F q fs hs →
    ∃ m', TS m' Sh F q fs hs ∧ ∀ (K : Mem → Option (Int32 × Mem)) fu, t < fu → lpk (f_L_lawB_b289 L xsc x4 x8 (nI q) (wv (walkS F fs hs q 0 (startS F))) ((-100 : Int32) - wv (walkS F fs hs q 0 (startS F)))) fu (nI f, m) K = K m' := by
  subst hx
  intro t
  induction t with
  | zero =>
    intro f hf m h
    have e : f = 5 := by omega
    subst e
    refine ⟨m, h, fun K fu hfu => ?_⟩
    obtain ⟨fu, rfl⟩ : ∃ n', fu = n' + 1 := ⟨fu - 1, by omega⟩
    rw [lpk_s]
    unfold f_L_lawB_b289
    dsimp only
    rw [if_pos (show (5 : Int32) ≤ nI 5 from by decide)]
  | succ t ih =>
    intro f hf m h
    have hn := h.1.2.2.1
    have hge : ¬ (5 : Int32) ≤ nI f := nI_ge (b := 5) (by omega) (by decide)
    obtain ⟨m1, e1, h1⟩ := t_passes (y := 10 + f) (by omega) hA h
    obtain ⟨m', h', ks⟩ := ih (f + 1) (by omega) m1 h1
    have ey : (10 : Int32) + nI f = nI (10 + f) := nI_add 10 f
    obtain ⟨b1, b2⟩ := b9 (k := f) (by omega)
    have en : (nI (F 0 0) ≤ nI f) ↔ F 0 0 ≤ f := nI_leI (by omega) (by omega)
    refine ⟨m', h', fun K fu hfu => ?_⟩
    obtain ⟨fu, rfl⟩ : ∃ n', fu = n' + 1 := ⟨fu - 1, by omega⟩
    have st : ∀ nx, f_L_lawB_b289 L xsc (nI (F 0 0)) x8 (nI q) (wv (walkS F fs hs q 0 (startS F))) ((-100 : Int32) - wv (walkS F fs hs q 0 (startS F))) nx K (nI f, m) = nx (nI (f + 1), m1) := fun nx => by
      unfold f_L_lawB_b289 f_L_lawB_j336
      dsimp only
      rw [if_neg hge, ey, e1, bnd_some]
      cases hw : walkS F fs hs q 0 (startS F) with
      | inl C =>
        have hX := h1.2.2 C hw
        rw [if_pos wv_m9.2]
        have et : ansW (.inl C) (fun C => tellS F C (10 + f)) = if f < F 0 0 then nI (C 4 f) else -9 := by
          show tellS F C (10 + f) = _
          unfold tellS
          rw [if_neg (by omega), if_neg (by omega), if_neg (by omega), if_neg (by omega), show 10 + f - 10 = f by omega]
        by_cases c1 : F 0 0 ≤ f
        · have et' : ansW (.inl C) (fun C => tellS F C (10 + f)) = -9 := by rw [et, if_neg (Nat.not_lt.mpr c1)]
          rw [if_pos (en.mpr c1), et', if_pos rfl, nI_1]
        · have et' : ansW (.inl C) (fun C => tellS F C (10 + f)) = m1 72 0 f := by rw [et, if_pos (Nat.not_le.mp c1), (hX.2.2.2.2 f (Nat.not_le.mp c1)).1]
          rw [if_neg (fun z => c1 (en.mp z)), if_pos b1, b2, et', if_pos rfl, nI_1]
      | inr p =>
        rw [if_neg (wv_in (W_lt hA hw)).2]
        have et : ansW (.inr p) (fun C => tellS F C (10 + f)) = (-100 : Int32) - wv (.inr p) := rfl
        rw [et, if_pos rfl, nI_1]
    rw [lpk_s, st]
    exact ks K fu (by omega)
/-- what each owes -/
theorem l394 {x4 x8 : Int32} {f : Nat} (hx : x4 = nI (F 0 0)) (hf : f < F 0 0) (hA : TA Sh F q fs hs c) : ∀ t g, g + t = F 0 0 → ∀ m, TS m Sh F q fs hs →
    ∃ m', TS m' Sh F q fs hs ∧ ∀ (K : Mem → Option (Int32 × Mem)) fu, t < fu → lpk (f_L_lawB_b394 L xsc x4 x8 (nI q) (wv (walkS F fs hs q 0 (startS F))) ((-100 : Int32) - wv (walkS F fs hs q 0 (startS F))) (nI f)) fu (nI g, m) K = K m' := by
  subst hx
  intro t
  induction t with
  | zero =>
    intro g hg m h
    have hn := h.1.2.2.1
    refine ⟨m, h, fun K fu hfu => ?_⟩
    obtain ⟨fu, rfl⟩ : ∃ n', fu = n' + 1 := ⟨fu - 1, by omega⟩
    rw [lpk_s]
    unfold f_L_lawB_b394
    dsimp only
    rw [if_pos (nI_le (by omega) (by omega))]
  | succ t ih =>
    intro g hg m h
    have hn := h.1.2.2.1
    have hge : ¬ nI (F 0 0) ≤ nI g := nI_ge (by omega) (by omega)
    obtain ⟨m1, e1, h1⟩ := t_owes hf (show g < F 0 0 by omega) hA h
    obtain ⟨m', h', ks⟩ := ih (g + 1) (by omega) m1 h1
    have ei : (5 : Int32) * nI f + nI g = nI (5 * f + g) := by rw [show (5 : Int32) = nI 5 from rfl, pk_mul, nI_add]
    have b1 : inB (nI (5 * f + g)) 25 = true := inB_nI (by omega) (by decide)
    have b2 : ix (nI (5 * f + g)) = 5 * f + g := ix_nI (by omega)
    refine ⟨m', h', fun K fu hfu => ?_⟩
    obtain ⟨fu, rfl⟩ : ∃ n', fu = n' + 1 := ⟨fu - 1, by omega⟩
    have st : ∀ nx, f_L_lawB_b394 L xsc (nI (F 0 0)) x8 (nI q) (wv (walkS F fs hs q 0 (startS F))) ((-100 : Int32) - wv (walkS F fs hs q 0 (startS F))) (nI f) nx K (nI g, m) = nx (nI (g + 1), m1) := fun nx => by
      unfold f_L_lawB_b394 f_L_lawB_j434
      dsimp only
      rw [if_neg hge, e1, bnd_some]
      cases hw : walkS F fs hs q 0 (startS F) with
      | inl C =>
        have hX := h1.2.2 C hw
        have et : ansW (.inl C) (fun C => nI (C (5 + f) g)) = m1 73 0 (5 * f + g) := ((hX.2.2.2.2 f hf).2 g (by omega)).symm
        rw [if_neg wv_m9.1, ei, if_pos b1, b2, et, if_pos rfl, nI_1]
      | inr p =>
        have et : ansW (.inr p) (fun C => nI (C (5 + f) g)) = (-100 : Int32) - wv (.inr p) := rfl
        rw [if_pos (wv_in (W_lt hA hw)).1, et, if_pos rfl, nI_1]
    rw [lpk_s, st]
    exact ks K fu (by omega)
/-- what each must pay next, and owes -/
theorem l350 {x4 x8 : Int32} (hx : x4 = nI (F 0 0)) (hA : TA Sh F q fs hs c) : ∀ t f, f + t = F 0 0 → ∀ m, TS m Sh F q fs hs →
    ∃ m', TS m' Sh F q fs hs ∧ ∀ (K : Mem → Option (Int32 × Mem)) fu, t < fu → lpk (f_L_lawB_b350 L xsc x4 x8 (nI q) (wv (walkS F fs hs q 0 (startS F))) ((-100 : Int32) - wv (walkS F fs hs q 0 (startS F)))) fu (nI f, m) K = K m' := by
  intro t
  induction t with
  | zero =>
    intro f hf m h
    have hn := h.1.2.2.1
    refine ⟨m, h, fun K fu hfu => ?_⟩
    obtain ⟨fu, rfl⟩ : ∃ n', fu = n' + 1 := ⟨fu - 1, by omega⟩
    rw [lpk_s]
    unfold f_L_lawB_b350
    dsimp only
    rw [hx, if_pos (nI_le (by omega) (by omega))]
  | succ t ih =>
    intro f hf m h
    have hn := h.1.2.2.1
    have hge : ¬ x4 ≤ nI f := by rw [hx]; exact nI_ge (by omega) (by omega)
    obtain ⟨m1, e1, h1⟩ := t_toll (show f < F 0 0 by omega) hA h
    obtain ⟨m2, h2, k2⟩ := l394 (L := L) (xsc := xsc) (x8 := x8) hx (show f < F 0 0 by omega) hA (F 0 0) 0 (by omega) m1 h1
    obtain ⟨m', h', ks⟩ := ih (f + 1) (by omega) m2 h2
    refine ⟨m', h', fun K fu hfu => ?_⟩
    obtain ⟨fu, rfl⟩ : ∃ n', fu = n' + 1 := ⟨fu - 1, by omega⟩
    have k3 : ∀ nx s, f_L_lawB_j386 L xsc nx K s s x4 x8 (nI q) (wv (walkS F fs hs q 0 (startS F))) ((-100 : Int32) - wv (walkS F fs hs q 0 (startS F))) (nI f) m1 = nx (nI (f + 1), m2) := fun nx s => by
      unfold f_L_lawB_j386
      rw [if_pos rfl, show ((0 : Int32), m1) = (nI 0, m1) from rfl, k2 _ fuelN (by unfold fuelN; omega), nI_1]
    have st : ∀ nx, f_L_lawB_b350 L xsc x4 x8 (nI q) (wv (walkS F fs hs q 0 (startS F))) ((-100 : Int32) - wv (walkS F fs hs q 0 (startS F))) nx K (nI f, m) = nx (nI (f + 1), m2) := fun nx => by
      unfold f_L_lawB_b350
      dsimp only
      rw [if_neg hge, e1, bnd_some]
      cases hw : walkS F fs hs q 0 (startS F) with
      | inl C =>
        have hX := h1.2.2 C hw
        have hB := walkS_CB h.1.2.2.wc q 0 0 (startS F) C (fun z hz => (hA.2.2.2 z (by omega)).1) (CB_start h.1.2.2.wc) hw
        have k3' := k3 nx (nI (tollS F C f))
        rw [hw] at k3'
        rw [if_neg wv_m9.1, toll_l h1.1.2.1 hX h.1.2.2.wc hB (by omega), bnd_some]
        exact k3'
      | inr p =>
        have k3' := k3 nx ((-100 : Int32) - wv (.inr p))
        rw [hw] at k3'
        rw [if_pos (wv_in (W_lt hA hw)).1]
        exact k3'
    rw [lpk_s, st]
    exact ks K fu (by omega)
/-- while what it wants is sought -/
def WI (m : Mem) (Sh : ShT) (F : FdT) (q : Nat) (fs hs : Nat → Nat) (w : Nat) : Prop := CI m Sh F ∧ LD m q fs hs ∧ GI (mset m 70 0 (13 + w) (nI (F 5 w))) F
theorem l484 {x4 x8 : Int32} {w : Nat} (hW : WF F) (hw : w < F 0 0) (hA : TA Sh F q fs hs c) : ∀ k i, k + i = 100 → ∀ m, WI m Sh F q fs hs w →
    ∃ m', WI m' Sh F q fs hs w ∧ ∀ (K : Int32 × Mem → Option (Int32 × Mem)) fu, k < fu → lpk (f_L_lawB_b484 L xsc x4 x8 (nI q) (nI w) (nI (F 5 w))) fu (firstS (moreB F fs hs q w) k i, nI k - 1, m) K = K (firstS (moreB F fs hs q w) 0 100, m') := by
  have hn := hW.1
  have h99 := (hW.2.2.2 w hw).2.2.2.1
  obtain ⟨a1, a2⟩ := gx 13 (d := 13) rfl (f := w) (by omega)
  intro k
  induction k with
  | zero =>
    intro i hi m h
    have e : i = 100 := by omega
    subst e
    refine ⟨m, h, fun K fu hfu => ?_⟩
    obtain ⟨fu, rfl⟩ : ∃ n', fu = n' + 1 := ⟨fu - 1, by omega⟩
    rw [lpk_s]
    unfold f_L_lawB_b484
    dsimp only
    rw [if_pos (show nI 0 - 1 < 0 from by decide)]
  | succ k ih =>
    intro i hi m h
    obtain ⟨h1, h2, h3⟩ := h
    have hG : GI (mset m 70 0 (13 + w) (nI (F 5 w + k))) (fset F 5 w (F 5 w + k)) := by
      have := GI_5 (v := F 5 w + k) hn hw h3
      rw [mset_mset] at this
      exact this
    have hL : LD (mset m 70 0 (13 + w) (nI (F 5 w + k))) q fs hs := fun p hp => by rw [mset_ne (by decide)]; exact h2 p hp
    obtain ⟨m1, e1, e2, -⟩ := go_l (L := L) (xsc := xsc) hG (WC_5 hW.wc (by omega)) hL (by have := hA.2.2.1; omega) (fun p hp => ⟨(hA.2.2.2 p hp).1, (hA.2.2.2 p hp).2.1⟩)
    have e7 : m1 70 = mset m 70 0 (13 + w) (nI (F 5 w + k)) 70 := e2 70 (by decide) (by decide)
    have hI : WI m1 Sh F q fs hs w := by
      refine ⟨e2.ci (CI_cong (fun t ht => mset_ne (by omega)) h1), fun p hp => by rw [e2 71 (by decide) (by decide)]; exact hL p hp, ?_⟩
      refine GI_cong (m := mset m 70 0 (13 + w) (nI (F 5 w))) ?_ h3
      rw [mset_cg e7, mset_mset]
    obtain ⟨m', f1, f2⟩ := ih (i + 1) (by omega) m1 hI
    refine ⟨m', f1, fun K fu hfu => ?_⟩
    obtain ⟨fu, rfl⟩ : ∃ n', fu = n' + 1 := ⟨fu - 1, by omega⟩
    have em : nI k + (-1 : Int32) = nI k - 1 := (Int32.sub_eq_add_neg (nI k) 1).symm
    have st : ∀ by0 nx, f_L_lawB_b484 L xsc x4 x8 (nI q) (nI w) (nI (F 5 w)) nx K (by0, nI k, m) = nx (if moreB F fs hs q w k = true then nI k else by0, nI k - 1, m1) := fun by0 nx => by
      unfold f_L_lawB_b484 f_L_lawB_j520
      dsimp only
      rw [if_neg (nI_pos (by omega)), if_pos a1, a2, nI_add, e1, bnd_some, em]
      unfold moreB
      cases hx : walkS (fset F 5 w (F 5 w + k)) fs hs q 0 (startS (fset F 5 w (F 5 w + k))) with
      | inl C => rw [if_neg wv_m9.1, if_pos (show (Sum.inl C : FdT ⊕ Nat).isLeft = true from rfl)]
      | inr p =>
        have := walkS_lt q 0 _ p hx
        have := hA.2.2.1
        rw [if_pos (wv_in (show p < 20 by omega)).1, if_neg (show ¬ (Sum.inr p : FdT ⊕ Nat).isLeft = true from fun z => by cases z)]
    rw [lpk_s, nI_pred, st, ← firstS_s]
    exact f2 K fu (by omega)
/-- the fish as they are told -/
theorem l578 {m : Mem} {x4 x8 : Int32} {f : Nat} (hJ : JI m Sh F) (hf : f < F 0 0) (K : Mem → Option (Int32 × Mem)) : ∀ t d, d + t = 5 → ∀ fu, t < fu → lpk (f_L_lawB_b578 L xsc x4 x8 (nI f)) fu (nI d, m) K = K m := by
  have hn := hJ.2.2.1
  intro t
  induction t with
  | zero =>
    intro d hd fu hfu
    obtain ⟨fu, rfl⟩ : ∃ n', fu = n' + 1 := ⟨fu - 1, by omega⟩
    have e : d = 5 := by omega
    subst e
    rw [lpk_s]
    unfold f_L_lawB_b578
    dsimp only
    rw [if_pos (show (5 : Int32) ≤ nI 5 from by decide)]
  | succ t ih =>
    intro d hd fu hfu
    obtain ⟨fu, rfl⟩ : ∃ n', fu = n' + 1 := ⟨fu - 1, by omega⟩
    have hge : ¬ (5 : Int32) ≤ nI d := nI_ge (b := 5) (by omega) (by decide)
    have ei : (3 : Int32) + (5 : Int32) * nI d + nI f = nI (3 + 5 * d + f) := by
      rw [show (5 : Int32) * nI d = nI (5 * d) from pk_mul 5 d, show (3 : Int32) + nI (5 * d) = nI (3 + 5 * d) from nI_add 3 (5 * d), nI_add]
    have b1 : inB (nI (3 + 5 * d + f)) 28 = true := inB_nI (by omega) (by decide)
    have b2 : ix (nI (3 + 5 * d + f)) = 3 + 5 * d + f := ix_nI (by omega)
    have eg : nI (F (3 + d) f) = m 70 0 (3 + 5 * d + f) := by
      obtain ⟨p1, p2, p3, p4, p5⟩ := hJ.2.1.2.2.2 f hf
      have : d = 0 ∨ d = 1 ∨ d = 2 ∨ d = 3 ∨ d = 4 := by omega
      rcases this with rfl | rfl | rfl | rfl | rfl
      · exact p1.symm
      · exact p2.symm
      · exact p3.symm
      · exact p4.symm
      · exact p5.symm
    have st : ∀ nx, f_L_lawB_b578 L xsc x4 x8 (nI f) nx K (nI d, m) = nx (nI (d + 1), m) := fun nx => by
      unfold f_L_lawB_b578
      dsimp only
      rw [if_neg hge, c_ofFish hJ.1 hf hn (by omega), bnd_some, ei, if_pos b1, b2, if_pos eg, nI_1]
    rw [lpk_s, st]
    exact ih (d + 1) (by omega) fu (by omega)
theorem l568 {m : Mem} {x4 x8 : Int32} (hx : x4 = nI (F 0 0)) (hJ : JI m Sh F) (K : Mem → Option (Int32 × Mem)) : ∀ t f, f + t = F 0 0 → ∀ fu, t < fu → lpk (f_L_lawB_b568 L xsc x4 x8) fu (nI f, m) K = K m := by
  have hn := hJ.2.2.1
  intro t
  induction t with
  | zero =>
    intro f hf fu hfu
    obtain ⟨fu, rfl⟩ : ∃ n', fu = n' + 1 := ⟨fu - 1, by omega⟩
    rw [lpk_s]
    unfold f_L_lawB_b568
    dsimp only
    rw [hx, if_pos (nI_le (by omega) (by omega))]
  | succ t ih =>
    intro f hf fu hfu
    obtain ⟨fu, rfl⟩ : ∃ n', fu = n' + 1 := ⟨fu - 1, by omega⟩
    have hge : ¬ x4 ≤ nI f := by rw [hx]; exact nI_ge (by omega) (by omega)
    have st : ∀ nx, f_L_lawB_b568 L xsc x4 x8 nx K (nI f, m) = nx (nI (f + 1), m) := fun nx => by
      unfold f_L_lawB_b568
      dsimp only
      rw [if_neg hge, show ((0 : Int32), m) = (nI 0, m) from rfl, l578 hJ (show f < F 0 0 by omega) _ 5 0 (by omega) fuelN (by decide), c_ofFish5 hJ.1 (by omega) hJ.2.2, bnd_some, share_l hJ.2.1 hJ.2.2.wc (by omega), bnd_some, if_pos rfl, nI_1]
    rw [lpk_s, st]
    exact ih (f + 1) (by omega) fu (by omega)
end LCHK
