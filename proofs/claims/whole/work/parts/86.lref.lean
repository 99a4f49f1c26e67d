/-! ===== least, the reference: what it finds is the least ===== -/
def GF (m m' : Mem) : Prop := (∀ t, t ≠ 30 → t ≠ 40 → t ≠ 41 → t ≠ 44 → m' t = m t) ∧ ∀ j, (j < 20 ∨ 23 < j) → j ≠ 28 → j ≠ 29 → m' 30 0 j = m 30 0 j
theorem GF.rf {m : Mem} : GF m m := ⟨fun _ _ _ _ _ => rfl, fun _ _ _ _ => rfl⟩
theorem GF.tr {a b c : Mem} (h : GF a b) (h' : GF b c) : GF a c := ⟨fun t h1 h2 h3 h4 => (h'.1 t h1 h2 h3 h4).trans (h.1 t h1 h2 h3 h4), fun j hj h1 h2 => (h'.2 j hj h1 h2).trans (h.2 j hj h1 h2)⟩
theorem RFr.gf {a b : Mem} (h : RFr a b) : GF a b := ⟨fun t h1 h2 h3 _ => h.1 t h1 h2 h3, fun j hj _ _ => h.2 j hj⟩
theorem OF.gf {a b : Mem} (h : OF a b) : GF a b := ⟨fun t _ _ _ h4 => h t h4, fun j _ _ _ => by rw [h 30 (by decide)]⟩
theorem GF.T {m m' : Mem} {F : FdT} (h : GF m m') (hT : TR m F) : TR m' F :=
  TR_cong (h.2 5 (by decide) (by decide) (by decide)) (h.2 6 (by decide) (by decide) (by decide)) (h.2 7 (by decide) (by decide) (by decide)) (h.2 8 (by decide) (by decide) (by decide)) (h.1 34 (by decide) (by decide) (by decide) (by decide)) (h.1 35 (by decide) (by decide) (by decide) (by decide)) (h.1 36 (by decide) (by decide) (by decide) (by decide)) (h.1 37 (by decide) (by decide) (by decide) (by decide)) (h.1 38 (by decide) (by decide) (by decide) (by decide)) hT
theorem GF.ri {m m' : Mem} {ft tr : Int32} {Sh : ShT} {F : FdT} {rn : Nat} {rf rs : Nat → Nat} (h : GF m m') (hi : RI m ft tr Sh F rn rf rs) : RI m' ft tr Sh F rn rf rs :=
  ⟨by rw [h.2 0 (by decide) (by decide) (by decide)]; exact hi.1, by rw [h.2 1 (by decide) (by decide) (by decide)]; exact hi.2.1, SR_cong (h.1 31 (by decide) (by decide) (by decide) (by decide)) (h.1 32 (by decide) (by decide) (by decide) (by decide)) (h.1 33 (by decide) (by decide) (by decide) (by decide)) hi.2.2.1, h.T hi.2.2.2.1, RR_cong (h.2 32 (by decide) (by decide) (by decide)) (h.1 47 (by decide) (by decide) (by decide) (by decide)) (h.1 48 (by decide) (by decide) (by decide) (by decide)) hi.2.2.2.2⟩
theorem GF.lo {m m' : Mem} (h : GF m m') {t : Nat} (ht : t < 30) : m' t = m t := h.1 t (by omega) (by omega) (by omega) (by omega)
def prmL (n : Nat) (l : List Nat) : Prop := l.length = n ∧ (∀ x ∈ l, x < n) ∧ l.Nodup
theorem got_iff {F : FdT} {w g y : Nat} {l : List Nat} (hl : prmL (F 0 0) l) : gotS F w (codesL l y) g ↔ ∃ C', walkW F w (startS F) l y = some C' ∧ C' 3 0 = g := by
  constructor
  · rintro ⟨⟨-, -, h3⟩, C', h4, h5⟩
    exact ⟨C', (walkW_iff l y (startS F) C').mpr ⟨fun c hc => (h3 c hc).2.2, h4⟩, h5⟩
  · rintro ⟨C', h, h5⟩
    obtain ⟨h1, h2⟩ := (walkW_iff l y (startS F) C').mp h
    exact ⟨⟨by rw [codes_len]; exact hl.1, by rw [codes_fish]; exact hl.2.2, fun c hc => ⟨hl.2.1 _ (codes_how l y c hc).2, (codes_how l y c hc).1, h1 c hc⟩⟩, C', h2, h5⟩
theorem goWays_r {m : Mem} {F : FdT} {w y : Nat} {l : List Nat} (hW : WC F) (hw : w < 64) (hy : y < 1024) (hT : TR m F) (hl : prmL (F 0 0) l) (hr : RowL m (F 0 0) l) :
    match walkW F w (startS F) l y with
    | some C' => ∃ m', f_X7_goWays (nI y) (nI w) m = some (nI (numS 0 (codesL l y)), m') ∧ RFr m m' ∧ RX m' F C'
    | none => ∃ m', f_X7_goWays (nI y) (nI w) m = some (-9, m') ∧ RFr m m' := by
  obtain ⟨m1, b1, b2, b3⟩ := begin_r hT hW
  have := ways_r (K := fun t12 => some (t12.1, t12.2)) hW hw rfl hT l 0 y 0 fuelN 0 m1 (startS F) (by rw [hl.1]; omega) (by rw [hl.1]; have := hW.1; unfold fuelN; omega) hy hl.2.1 (fun j hj => by rw [Nat.zero_add]; exact (hr.2 j (by rw [← hl.1]; exact hj)).1) b2 b3 (CB_start hW)
  unfold f_X7_goWays
  rw [b1, bnd_some]
  cases hx : walkW F w (startS F) l y with
  | none => rw [hx] at this; exact this
  | some C' => rw [hx] at this; exact this
/-- the best of the rows that were tried -/
def BeR (m : Mem) (F : FdT) (w : Nat) (P : List Nat → Prop) : Prop := (m 30 0 28 = -9 ∧ ∀ r g, P r → ¬ gotS F w r g) ∨ ∃ g r, P r ∧ gotS F w r g ∧ m 30 0 28 = nI (numS 0 r) ∧ m 30 0 29 = nI g ∧ ∀ r' g', P r' → gotS F w r' g' → g < g' ∨ (g = g' ∧ numS 0 r ≤ numS 0 r')
theorem BeR.cg {m m' : Mem} {F : FdT} {w : Nat} {P P' : List Nat → Prop} (h : BeR m F w P) (e1 : m' 30 0 28 = m 30 0 28) (e2 : m' 30 0 29 = m 30 0 29) (hp : ∀ r, P r ↔ P' r) : BeR m' F w P' := by
  rcases h with ⟨h1, h2⟩ | ⟨g, r, h1, h2, h3, h4, h5⟩
  · exact Or.inl ⟨by rw [e1]; exact h1, fun r g hr => h2 r g ((hp r).mpr hr)⟩
  · exact Or.inr ⟨g, r, (hp r).mp h1, h2, by rw [e1]; exact h3, by rw [e2]; exact h4, fun r' g' hr => h5 r' g' ((hp r').mpr hr)⟩
/-- a row that can't be is tried -/
theorem BeR.no {m m' : Mem} {F : FdT} {w : Nat} {P : List Nat → Prop} {r0 : List Nat} (h : BeR m F w P) (e1 : m' 30 0 28 = m 30 0 28) (e2 : m' 30 0 29 = m 30 0 29) (hn : ∀ g, ¬ gotS F w r0 g) : BeR m' F w (fun r => P r ∨ r = r0) := by
  rcases h with ⟨h1, h2⟩ | ⟨g, r, h1, h2, h3, h4, h5⟩
  · refine Or.inl ⟨by rw [e1]; exact h1, fun r g hr => ?_⟩
    rcases hr with hr | rfl
    · exact h2 r g hr
    · exact hn g
  · refine Or.inr ⟨g, r, Or.inl h1, h2, by rw [e1]; exact h3, by rw [e2]; exact h4, fun r' g' hr hg => ?_⟩
    rcases hr with hr | rfl
    · exact h5 r' g' hr hg
    · exact absurd hg (hn g')
/-- a row that is no better -/
theorem BeR.keep {m m' : Mem} {F : FdT} {w g v g0 : Nat} {r r0 : List Nat} {P : List Nat → Prop} (h1 : P r) (h2 : gotS F w r g) (h3 : m 30 0 28 = nI (numS 0 r)) (h4 : m 30 0 29 = nI g) (h5 : ∀ r' g', P r' → gotS F w r' g' → g < g' ∨ (g = g' ∧ numS 0 r ≤ numS 0 r')) (e1 : m' 30 0 28 = m 30 0 28) (e2 : m' 30 0 29 = m 30 0 29) (hu : ∀ g, gotS F w r0 g → g = g0) (hv : numS 0 r0 = v) (hb : g < g0 ∨ (g = g0 ∧ numS 0 r ≤ v)) : BeR m' F w (fun r => P r ∨ r = r0) :=
  Or.inr ⟨g, r, Or.inl h1, h2, by rw [e1]; exact h3, by rw [e2]; exact h4, fun r' g' hr hg => by
    rcases hr with hr | rfl
    · exact h5 r' g' hr hg
    · rw [hu g' hg, hv]; exact hb⟩
/-- a row that is better -/
theorem BeR.set {m' : Mem} {F : FdT} {w g0 : Nat} {r0 : List Nat} {P : List Nat → Prop} (hg : gotS F w r0 g0) (e1 : m' 30 0 28 = nI (numS 0 r0)) (e2 : m' 30 0 29 = nI g0) (hu : ∀ g, gotS F w r0 g → g = g0) (hb : ∀ r' g', P r' → gotS F w r' g' → g0 < g' ∨ (g0 = g' ∧ numS 0 r0 ≤ numS 0 r')) : BeR m' F w (fun r => P r ∨ r = r0) :=
  Or.inr ⟨g0, r0, Or.inr rfl, hg, e1, e2, fun r' g' hr hg' => by
    rcases hr with hr | rfl
    · exact hb r' g' hr hg'
    · exact Or.inr ⟨(hu g' hg').symm, Nat.le_refl _⟩⟩
theorem codes_50 {n y : Nat} {l : List Nat} (hn : n ≤ 5) (hl : prmL n l) : ∀ c ∈ codesL l y, c < 50 := fun c hc => by
  have h1 := codes_how l y c hc
  have h2 := hl.2.1 _ h1.2
  omega
theorem num_b {r : List Nat} (h : r.length ≤ 5) (hc : ∀ c ∈ r, c < 50) : numS 0 r < 2 ^ 31 := by
  have h1 := num_lt r 0 hc
  have h2 : 50 ^ r.length ≤ 50 ^ 5 := Nat.pow_le_pow_right (by decide) h
  omega
theorem nn9 {k : Nat} (hk : k < 2 ^ 31) : ¬ nI k = -9 := fun q => by
  have h := nI_toInt hk
  rw [q] at h
  have : (-9 : Int32).toInt = -9 := by decide
  omega
theorem all_50 {F : FdT} {w g : Nat} {r : List Nat} (hW : WC F) (h : gotS F w r g) : r.length ≤ 5 ∧ ∀ c ∈ r, c < 50 := by
  obtain ⟨⟨h1, h2, h3⟩, -⟩ := h
  have := hW.1
  exact ⟨by omega, fun c hc => by have := h3 c hc; omega⟩
theorem be_step {m : Mem} {F : FdT} {w y : Nat} {l : List Nat} {P : List Nat → Prop} (hW : WC F) (hw : w < 64) (hy : y < 4 ^ F 0 0) (hT : TR m F) (hl : prmL (F 0 0) l) (hr : RowL m (F 0 0) l) (hP : BeR m F w P) :
    ∃ m3, (∀ next exit, f_X7_findLeast_b37 (nI w) next exit (nI y, m) = next (nI (y + 1), m3)) ∧ GF m m3 ∧ RowL m3 (F 0 0) l ∧ BeR m3 F w (fun r => P r ∨ r = codesL l y) := by
  have hn := hW.1
  have p1024 : 4 ^ F 0 0 ≤ 4 ^ 5 := Nat.pow_le_pow_right (by decide) hn
  have hend : ¬ ((1 : Int32) <<< (((2 : Int32) * (m 30 0 7)) &&& 31)) ≤ nI y := by
    have e : ∀ n, n < 6 → (1 : Int32) <<< (((2 : Int32) * nI n) &&& 31) = nI (4 ^ n) := by decide +kernel
    rw [hT.1, e _ (by omega)]
    exact nI_ge hy (by omega)
  have hg := goWays_r hW hw (show y < 1024 by omega) hT hl hr
  have rowk : ∀ m', RFr m m' → RowL m' (F 0 0) l := fun m' h => ⟨hr.1, fun j hj => by rw [h.1 44 (by decide) (by decide) (by decide)]; exact hr.2 j hj⟩
  have c50 := codes_50 (y := y) hn hl
  have clen : (codesL l y).length ≤ 5 := by rw [codes_len, hl.1]; exact hn
  have hvb := num_b clen c50
  cases hx : walkW F w (startS F) l y with
  | none =>
    rw [hx] at hg
    obtain ⟨m1, g1, g2⟩ := hg
    refine ⟨m1, fun next exit => ?_, g2.gf, rowk m1 g2, hP.no (g2.2 28 (by decide)) (g2.2 29 (by decide)) (fun g hgg => ?_)⟩
    · have j : ∀ s0, f_X7_findLeast_j102 next exit s0 (nI w) (nI y) (-9) m1 = next (nI (y + 1), m1) := fun s0 => by
        unfold f_X7_findLeast_j102 f_X7_findLeast_j130
        rw [if_pos rfl, nI_1]
      unfold f_X7_findLeast_b37 f_X7_findLeast_j97 f_X7_findLeast_j101
      dsimp only
      rw [if_neg hend, g1, bnd_some, j, j]
      split
      · rfl
      · split
        · rfl
        · split
          · split <;> rfl
          · rfl
    · obtain ⟨C', h1, -⟩ := (got_iff hl).mp hgg
      rw [hx] at h1
      cases h1
  | some C' =>
    rw [hx] at hg
    obtain ⟨m1, g1, g2, g3⟩ := hg
    have hgot : gotS F w (codesL l y) (C' 3 0) := (got_iff hl).mpr ⟨C', hx, rfl⟩
    have hu : ∀ g, gotS F w (codesL l y) g → g = C' 3 0 := fun g hgg => by
      obtain ⟨C2, h1, h2⟩ := (got_iff hl).mp hgg
      rw [hx] at h1
      cases h1
      exact h2.symm
    have hgl := got_le hW hgot
    have h23 : m1 30 0 23 = nI (C' 3 0) := g3.2.2.2.1
    have e28 := g2.2 28 (by decide)
    have e29 := g2.2 29 (by decide)
    have keep : ∀ next exit, f_X7_findLeast_j101 next exit (nI w) (nI y) (nI (numS 0 (codesL l y))) m1 = next (nI (y + 1), m1) := fun next exit => by
      unfold f_X7_findLeast_j101 f_X7_findLeast_j102 f_X7_findLeast_j130
      rw [if_neg (nn9 hvb), if_pos rfl, nI_1]
    have set : ∀ next exit, f_X7_findLeast_j97 next exit (nI w) (nI y) (nI (numS 0 (codesL l y))) m1 = next (nI (y + 1), mset (mset m1 30 0 28 (nI (numS 0 (codesL l y)))) 30 0 29 (nI (C' 3 0))) := fun next exit => by
      unfold f_X7_findLeast_j97 f_X7_findLeast_j102 f_X7_findLeast_j130
      have e : mset m1 30 0 28 (nI (numS 0 (codesL l y))) 30 0 23 = nI (C' 3 0) := by simp [mset, h23]
      rw [if_neg (nn9 hvb), if_neg (by decide), e, nI_1]
    have gset : GF m (mset (mset m1 30 0 28 (nI (numS 0 (codesL l y)))) 30 0 29 (nI (C' 3 0))) := by
      refine ⟨fun t h1 h2 h3 _ => by rw [mset_ne h1, mset_ne h1]; exact g2.1 t h1 h2 h3, fun j hj h1 h2 => ?_⟩
      rw [← g2.2 j hj]
      simp [mset, h1, h2]
    have rset : RowL (mset (mset m1 30 0 28 (nI (numS 0 (codesL l y)))) 30 0 29 (nI (C' 3 0))) (F 0 0) l := ⟨hr.1, fun j hj => by rw [mset_ne (by decide), mset_ne (by decide)]; exact (rowk m1 g2).2 j hj⟩
    have x28 : (mset (mset m1 30 0 28 (nI (numS 0 (codesL l y)))) 30 0 29 (nI (C' 3 0))) 30 0 28 = nI (numS 0 (codesL l y)) := by simp [mset]
    have x29 : (mset (mset m1 30 0 28 (nI (numS 0 (codesL l y)))) 30 0 29 (nI (C' 3 0))) 30 0 29 = nI (C' 3 0) := by simp [mset]
    rcases hP with ⟨q1, q2⟩ | ⟨g, r, q1, q2, q3, q4, q5⟩
    · refine ⟨_, fun next exit => ?_, gset, rset, BeR.set hgot x28 x29 hu (fun r' g' hr' hg' => absurd hg' (q2 r' g' hr'))⟩
      have hc : m1 30 0 28 = -9 := by rw [e28]; exact q1
      unfold f_X7_findLeast_b37
      dsimp only
      rw [if_neg hend, g1, bnd_some, if_pos hc, set]
    · obtain ⟨a1, a2⟩ := all_50 hW q2
      have hrb := num_b a1 a2
      have hgl2 := got_le hW q2
      have hc : ¬ m1 30 0 28 = -9 := by rw [e28, q3]; exact nn9 hrb
      have c1 : (m1 30 0 23 < m1 30 0 29) ↔ C' 3 0 < g := by rw [h23, e29, q4]; exact nI_ltI (by omega) (by omega)
      have c2 : (m1 30 0 23 = m1 30 0 29) ↔ C' 3 0 = g := by rw [h23, e29, q4]; exact nI_eq (by omega) (by omega)
      have c3 : (m1 30 0 28 ≤ nI (numS 0 (codesL l y))) ↔ numS 0 r ≤ numS 0 (codesL l y) := by rw [e28, q3]; exact nI_leI hrb hvb
      by_cases d1 : C' 3 0 < g
      · refine ⟨_, fun next exit => ?_, gset, rset, BeR.set hgot x28 x29 hu (fun r' g' hr' hg' => by
          rcases q5 r' g' hr' hg' with z | z
          · exact Or.inl (by omega)
          · exact Or.inl (by omega))⟩
        unfold f_X7_findLeast_b37
        dsimp only
        rw [if_neg hend, g1, bnd_some, if_neg hc, if_pos (c1.mpr d1), set]
      · by_cases d2 : C' 3 0 = g
        · by_cases d3 : numS 0 r ≤ numS 0 (codesL l y)
          · refine ⟨m1, fun next exit => ?_, g2.gf, rowk m1 g2, BeR.keep (m := m) (v := numS 0 (codesL l y)) (g0 := C' 3 0) q1 q2 q3 q4 q5 e28 e29 hu rfl (Or.inr ⟨d2.symm, d3⟩)⟩
            unfold f_X7_findLeast_b37
            dsimp only
            rw [if_neg hend, g1, bnd_some, if_neg hc, if_neg (fun z => d1 (c1.mp z)), if_pos (c2.mpr d2), if_pos (c3.mpr d3), keep]
          · refine ⟨_, fun next exit => ?_, gset, rset, BeR.set hgot x28 x29 hu (fun r' g' hr' hg' => by
              rcases q5 r' g' hr' hg' with z | ⟨z1, z2⟩
              · exact Or.inl (by omega)
              · exact Or.inr ⟨by omega, by omega⟩)⟩
            unfold f_X7_findLeast_b37
            dsimp only
            rw [if_neg hend, g1, bnd_some, if_neg hc, if_neg (fun z => d1 (c1.mp z)), if_pos (c2.mpr d2), if_neg (fun z => d3 (c3.mp z)), set]
        · refine ⟨m1, fun next exit => ?_, g2.gf, rowk m1 g2, BeR.keep (m := m) (v := numS 0 (codesL l y)) (g0 := C' 3 0) q1 q2 q3 q4 q5 e28 e29 hu rfl (Or.inl (by omega))⟩
          unfold f_X7_findLeast_b37
          dsimp only
          rw [if_neg hend, g1, bnd_some, if_neg hc, if_neg (fun z => d1 (c1.mp z)), if_neg (fun z => d2 (c2.mp z)), keep]
theorem num_loop {m0 : Mem} {F : FdT} {w : Nat} {l : List Nat} {K : Mem → Option (Unit × Mem)} (hW : WC F) (hw : w < 64) (hT : TR m0 F) (hl : prmL (F 0 0) l) :
    ∀ t y fu m (P : List Nat → Prop), y + t = 4 ^ F 0 0 → t < fu → GF m0 m → RowL m (F 0 0) l → BeR m F w P →
      ∃ m', lpk (f_X7_findLeast_b37 (nI w)) fu (nI y, m) K = K m' ∧ GF m0 m' ∧ RowL m' (F 0 0) l ∧ BeR m' F w (fun r => P r ∨ ∃ y', y ≤ y' ∧ y' < 4 ^ F 0 0 ∧ r = codesL l y') := by
  have hn := hW.1
  have p1024 : 4 ^ F 0 0 ≤ 4 ^ 5 := Nat.pow_le_pow_right (by decide) hn
  intro t
  induction t with
  | zero =>
    intro y fu m P hy hfu hG hR hP
    obtain ⟨fu, rfl⟩ : ∃ n', fu = n' + 1 := ⟨fu - 1, by omega⟩
    have hend : ((1 : Int32) <<< (((2 : Int32) * (m 30 0 7)) &&& 31)) ≤ nI y := by
      have e : ∀ n, n < 6 → (1 : Int32) <<< (((2 : Int32) * nI n) &&& 31) = nI (4 ^ n) := by decide +kernel
      rw [(hG.T hT).1, e _ (by omega)]
      exact nI_le (by omega) (by omega)
    refine ⟨m, ?_, hG, hR, hP.cg rfl rfl (fun r => ⟨Or.inl, fun z => z.elim id (fun ⟨y', h1, h2, _⟩ => by omega)⟩)⟩
    rw [lpk_s]
    unfold f_X7_findLeast_b37
    dsimp only
    rw [if_pos hend]
  | succ t ih =>
    intro y fu m P hy hfu hG hR hP
    obtain ⟨fu, rfl⟩ : ∃ n', fu = n' + 1 := ⟨fu - 1, by omega⟩
    obtain ⟨m3, s1, s2, s3, s4⟩ := be_step hW hw (show y < 4 ^ F 0 0 by omega) (hG.T hT) hl hR hP
    obtain ⟨m', r1, r2, r3, r4⟩ := ih (y + 1) fu m3 _ (by omega) (by omega) (hG.tr s2) s3 s4
    refine ⟨m', by rw [lpk_s, s1]; exact r1, r2, r3, r4.cg rfl rfl (fun r => ⟨fun z => ?_, fun z => ?_⟩)⟩
    · rcases z with (z | z) | ⟨y', h1, h2, h3⟩
      · exact Or.inl z
      · exact Or.inr ⟨y, Nat.le_refl _, by omega, z⟩
      · exact Or.inr ⟨y', by omega, h2, h3⟩
    · rcases z with z | ⟨y', h1, h2, h3⟩
      · exact Or.inl (Or.inl z)
      · by_cases e : y' = y
        · subst e; exact Or.inl (Or.inr h3)
        · exact Or.inr ⟨y', by omega, h2, h3⟩
theorem ord_loop {m0 : Mem} {F : FdT} {w : Nat} {K : Mem → Option (Unit × Mem)} (hW : WC F) (hw : w < 64) (hF : 1 ≤ F 0 0) (hT : TR m0 F) :
    ∀ t l fu m (P : List Nat → Prop), endS (F 0 0) t l = true → t < fu → (∀ l' ∈ ordS (F 0 0) t l, prmL (F 0 0) l') → GF m0 m → RowL m (F 0 0) l → BeR m F w P →
      ∃ m', lpk (f_X7_findLeast_b31 (nI w)) fu ((1 : Int32), m) K = K m' ∧ GF m0 m' ∧ BeR m' F w (fun r => P r ∨ ∃ l' y', l' ∈ ordS (F 0 0) t l ∧ y' < 4 ^ F 0 0 ∧ r = codesL l' y') := by
  have hn := hW.1
  have p1024 : 4 ^ F 0 0 ≤ 4 ^ 5 := Nat.pow_le_pow_right (by decide) hn
  intro t
  induction t with
  | zero => intro l fu m P he; cases he
  | succ t ih =>
    intro l fu m P he hfu ho hG hR hP
    obtain ⟨fu, rfl⟩ : ∃ n', fu = n' + 1 := ⟨fu - 1, by omega⟩
    have hol : ordS (F 0 0) (t + 1) l = l :: (match nextL (F 0 0) l with
      | some l' => ordS (F 0 0) t l'
      | none => []) := rfl
    have hel : endS (F 0 0) (t + 1) l = (match nextL (F 0 0) l with
      | some l' => endS (F 0 0) t l'
      | none => true) := rfl
    have hl : prmL (F 0 0) l := ho l (by rw [hol]; exact List.mem_cons_self ..)
    obtain ⟨m1, s1, s2, s3, s4⟩ := num_loop (K := fun t37 => bnd (f_X7_nextOrder t37) (fun r137 m137 => lpk (f_X7_findLeast_b31 (nI w)) fu (r137, m137) K)) hW hw hT hl (4 ^ F 0 0) 0 fuelN m P (by omega) (by unfold fuelN; omega) hG hR hP
    have st : ∀ next K', f_X7_findLeast_b31 (nI w) next K' ((1 : Int32), m) = lpk (f_X7_findLeast_b37 (nI w)) fuelN (nI 0, m) (fun t37 => bnd (f_X7_nextOrder t37) (fun r137 m137 => next (r137, m137))) := fun next K' => by
      unfold f_X7_findLeast_b31
      dsimp only
      rw [if_neg (by decide), nI_0]
    have hnx := next_r hn (by omega) (s2.T hT).1 s3
    rw [lpk_s, st, s1, hol]
    rw [hol] at ho
    rw [hel] at he
    cases hx : nextL (F 0 0) l with
    | none =>
      rw [hx] at hnx
      dsimp only at hnx
      obtain ⟨fu, rfl⟩ : ∃ n', fu = n' + 1 := ⟨fu - 1, by omega⟩
      refine ⟨m1, ?_, s2, s4.cg rfl rfl (fun r => ⟨fun z => ?_, fun z => ?_⟩)⟩
      · rw [hnx, bnd_some, lpk_s]
        unfold f_X7_findLeast_b31
        dsimp only
        rw [if_pos rfl]
      · rcases z with z | ⟨y', h1, h2, h3⟩
        · exact Or.inl z
        · exact Or.inr ⟨l, y', List.mem_cons_self .., h2, h3⟩
      · rcases z with z | ⟨l', y', h1, h2, h3⟩
        · exact Or.inl z
        · have : l' = l := List.mem_singleton.mp h1
          subst this
          exact Or.inr ⟨y', Nat.zero_le _, h2, h3⟩
    | some l1 =>
      rw [hx] at hnx he ho
      obtain ⟨m2, n1, n2, n3⟩ := hnx
      obtain ⟨m', r1, r2, r3⟩ := ih l1 fu m2 _ he (by omega) (fun l' hl' => ho l' (List.mem_cons_of_mem _ hl')) (s2.tr n2.gf) n3 (s4.cg (by rw [n2 30 (by decide)]) (by rw [n2 30 (by decide)]) (fun r => Iff.rfl))
      refine ⟨m', by rw [n1, bnd_some]; exact r1, r2, r3.cg rfl rfl (fun r => ⟨fun z => ?_, fun z => ?_⟩)⟩
      · rcases z with (z | ⟨y', h1, h2, h3⟩) | ⟨l', y', h1, h2, h3⟩
        · exact Or.inl z
        · exact Or.inr ⟨l, y', List.mem_cons_self .., h2, h3⟩
        · exact Or.inr ⟨l', y', List.mem_cons_of_mem _ h1, h2, h3⟩
      · rcases z with z | ⟨l', y', h1, h2, h3⟩
        · exact Or.inl (Or.inl z)
        · rcases List.mem_cons.mp h1 with e | h1
          · subst e
            exact Or.inl (Or.inr ⟨y', Nat.zero_le _, h2, h3⟩)
          · exact Or.inr ⟨l', y', h1, h2, h3⟩
theorem row_init {m0 : Mem} {F : FdT} {w : Nat} {K : Mem → Option (Unit × Mem)} (hn : F 0 0 ≤ 5) (hq : m0 30 0 7 = nI (F 0 0)) :
    ∀ t f fu m, f + t = F 0 0 → t < fu → OF m0 m → (∀ j, j < f → m 44 0 j = nI j) → ∃ m', lpk (f_X7_findLeast_b8 (nI w)) fu (nI f, m) K = K m' ∧ OF m0 m' ∧ RowL m' (F 0 0) (List.range (F 0 0)) := by
  intro t
  induction t with
  | zero =>
    intro f fu m hf hfu hO h
    obtain ⟨fu, rfl⟩ : ∃ n', fu = n' + 1 := ⟨fu - 1, by omega⟩
    have hle : m 30 0 7 ≤ nI f := by rw [hO 30 (by decide), hq]; exact nI_le (by omega) (by omega)
    refine ⟨m, ?_, hO, List.length_range, fun j hj => ?_⟩
    · rw [lpk_s]
      unfold f_X7_findLeast_b8
      dsimp only
      rw [if_pos hle]
    · have e : (List.range (F 0 0)).getD j 0 = j := by
        rw [List.getD_eq_getElem?_getD, List.getElem?_range hj]
        rfl
      rw [e]
      exact ⟨h j (by omega), by omega⟩
  | succ t ih =>
    intro f fu m hf hfu hO h
    obtain ⟨fu, rfl⟩ : ∃ n', fu = n' + 1 := ⟨fu - 1, by omega⟩
    have hge : ¬ m 30 0 7 ≤ nI f := by rw [hO 30 (by decide), hq]; exact nI_ge (by omega) (by omega)
    obtain ⟨b1, b2⟩ := i5 (f := f) (n := F 0 0) (by omega) hn
    obtain ⟨m', r1, r2, r3⟩ := ih (f + 1) fu (mset m 44 0 f (nI f)) (by omega) (by omega) (fun t ht => by rw [mset_ne ht]; exact hO t ht) (mrow_up h rfl)
    refine ⟨m', ?_, r2, r3⟩
    rw [← r1, lpk_s]
    have st : ∀ next, f_X7_findLeast_b8 (nI w) next K (nI f, m) = next (nI (f + 1), mset m 44 0 f (nI f)) := fun next => by
      unfold f_X7_findLeast_b8
      dsimp only
      rw [if_neg hge, if_pos b1, b2, nI_1]
    rw [st]
def FoundR (m : Mem) (n : Nat) : Option (Nat × List Nat) → Prop
  | none => m 30 0 28 = -9
  | some q => m 30 0 28 = nI (numS 0 q.2) ∧ m 30 0 29 = nI q.1 ∧ q.2.length = n ∧ q.1 < 1000000 ∧ ∀ c ∈ q.2, c < 50
theorem find_r {m : Mem} {F : FdT} {w : Nat} (hW : WC F) (hw : w < 64) (hF : 1 ≤ F 0 0) (hT : TR m F) : ∃ m', f_X7_findLeast (nI w) m = some ((), m') ∧ GF m m' ∧ FoundR m' (F 0 0) (zS F w) := by
  have hn := hW.1
  obtain ⟨m1, a1, a2, a3⟩ := row_init (m0 := mset m 30 0 28 (-9)) (w := w) (K := fun t8 => lpk (f_X7_findLeast_b31 (nI w)) fuelN ((1 : Int32), t8) (fun t31 => some ((), t31))) hn (by simp [mset]; exact hT.1) (F 0 0) 0 fuelN (mset m 30 0 28 (-9)) (by omega) (by unfold fuelN; omega) OF.rf (fun j hj => by omega)
  have g0 : GF m (mset m 30 0 28 (-9)) := ⟨fun t h1 _ _ _ => mset_ne h1, fun j _ h1 _ => by simp [mset, h1]⟩
  have b0 : BeR m1 F w (fun _ => False) := Or.inl ⟨by rw [a2 30 (by decide)]; simp [mset], fun r g h => h.elim⟩
  obtain ⟨m2, c1, c2, c3⟩ := ord_loop (K := fun t31 => some ((), t31)) hW hw hF hT 121 (List.range (F 0 0)) fuelN m1 (fun _ => False) (ord_end _ (by omega) (by omega)) (by decide) (fun l' hl' => ord_ok hn (by omega) hl') (g0.tr a2.gf) a3 b0
  refine ⟨m2, ?_, c2, ?_⟩
  · unfold f_X7_findLeast
    rw [show ((0 : Int32), mset m 30 0 28 (-9)) = (nI 0, mset m 30 0 28 (-9)) from rfl, a1]
    exact c1
  have hall : ∀ r g, gotS F w r g → (False ∨ ∃ l' y', l' ∈ ordS (F 0 0) 121 (List.range (F 0 0)) ∧ y' < 4 ^ F 0 0 ∧ r = codesL l' y') := fun r g h => by
    obtain ⟨⟨h1, h2, h3⟩, -⟩ := h
    refine Or.inr ⟨r.map (· / 10), yOf r, ord_has hn (by omega) (by rw [List.length_map]; exact h1) (fun x hx => ?_) h2, ?_, (codes_of r (fun c hc => (h3 c hc).2.1)).symm⟩
    · obtain ⟨c, hc, rfl⟩ := List.mem_map.mp hx
      exact (h3 c hc).1
    · have := yOf_lt r (fun c hc => (h3 c hc).2.1)
      rw [h1] at this
      exact this
  rcases c3 with ⟨q1, q2⟩ | ⟨g, r, q1, q2, q3, q4, q5⟩
  · have : leastS F w none := fun r g h => q2 r g (hall r g h) h
    rw [least_uq (zS_is hW) this]
    exact q1
  · have : leastS F w (some (g, r)) := ⟨q2, fun r' g' h => by
      rcases q5 r' g' (hall r' g' h) h with z | ⟨z1, z2⟩
      · exact Or.inl z
      · refine Or.inr ⟨z1, num_lex r r' 0 ?_ (all_50 hW q2).2 (all_50 hW h).2 z2⟩
        rw [q2.1.1, h.1.1]⟩
    rw [least_uq (zS_is hW) this]
    exact ⟨q3, q4, q2.1.1, by have := got_le hW q2; show g < 1000000; omega, (all_50 hW q2).2⟩
