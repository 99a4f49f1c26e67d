/-! ===== a row tried with one number otherwise ===== -/
def XRs (m : Mem) (F : FdT) (W : FdT ⊕ Nat) : Prop := ∀ C, W = .inl C → XR m 0 F C
theorem try_c {m : Mem} {k a q la len : Nat} {c : Nat → Int32} {F : FdT} {fs hs : Nat → Nat} (hX : XR m 0 F (startS F)) (hW : WC F) (hS : SC m k (some (la, len, c))) (hl : len ≤ 60) (hal : a + 2 * q ≤ len) (hR : Row F c a q fs hs) :
    ∃ m3, f_X0_walk 0 k (nI a) (nI q) m = some (wv (walkS F fs hs q 0 (startS F)), m3) ∧ XF m m3 ∧ ∀ C, walkS F fs hs q 0 (startS F) = .inl C → XR m3 0 F C := by
  have hwk := walk_c hX hW (CB_start hW (g := 0)) hS hl hal hR
  cases hw : walkS F fs hs q 0 (startS F) with
  | inl C =>
    rw [hw] at hwk
    obtain ⟨m3, w1, w2, w3⟩ := hwk
    exact ⟨m3, w1, w2, fun C' hC => by cases hC; exact w3⟩
  | inr p =>
    rw [hw] at hwk
    obtain ⟨m3, w1, w2⟩ := hwk
    exact ⟨m3, w1, w2, fun C' hC => by cases hC⟩
theorem try_r {m : Mem} {q : Nat} {F : FdT} {fs hs : Nat → Nat} (hT : TR m F) (hW : WC F) (hL : Laid m q fs hs) (hq : q ≤ 20) (hR : ∀ p, p < q → fs p < F 0 0 ∧ hs p < 4) :
    ∃ m3, f_X7_go m = some (wv (walkS F fs hs q 0 (startS F)), m3) ∧ RFr m m3 ∧ ∀ C, walkS F fs hs q 0 (startS F) = .inl C → RX m3 F C := by
  have hg := go_r hT hW hL hq hR
  cases hw : walkS F fs hs q 0 (startS F) with
  | inl C =>
    rw [hw] at hg
    obtain ⟨m3, w1, w2, w3⟩ := hg
    exact ⟨m3, w1, w2, fun C' hC => by cases hC; exact w3⟩
  | inr p =>
    rw [hw] at hg
    obtain ⟨m3, w1, w2⟩ := hg
    exact ⟨m3, w1, w2, fun C' hC => by cases hC⟩
theorem wv_9 {F : FdT} {fs hs : Nat → Nat} {q : Nat} {C0 : FdT} (hq : q ≤ 20) : wv (walkS F fs hs q 0 C0) = -9 ↔ (walkS F fs hs q 0 C0).isLeft = true := by
  cases hw : walkS F fs hs q 0 C0 with
  | inl C => exact ⟨fun _ => rfl, fun _ => rfl⟩
  | inr p =>
    have := walkS_lt q 0 C0 p hw
    exact ⟨fun z => absurd z (m9' (by omega)), fun z => by cases z⟩
/-! the class: one number of a crossing begun -/
theorem Row.cg {F F' : FdT} {c : Nat → Int32} {a q : Nat} {fs hs : Nat → Nat} (h : Row F c a q fs hs) (e : F' 0 0 = F 0 0) : Row F' c a q fs hs := fun p hp => by rw [e]; exact h p hp
theorem XR_5 {m : Mem} {F : FdT} {f v : Nat} (h : XR m 0 F (startS F)) (hf : f < F 0 0) : XR (mset m 10 0 f (nI v)) 0 (fset F 5 f v) (startS (fset F 5 f v)) := by
  obtain ⟨q0, q1, q2, q3, q4, q5, q6⟩ := h
  refine ⟨by simpa [mset, fset] using q0, by simpa [mset, fset] using q1, by simpa [mset, fset, startS] using q2, by simpa [mset, fset, startS] using q3, by simpa [mset, fset, startS] using q4, by simpa [mset, fset, startS] using q5, fun x hx => ?_⟩
  have hx' : x < F 0 0 := hx
  obtain ⟨p1, p2, p3, p4, p5, p6⟩ := q6 x hx'
  refine ⟨by simpa [mset, fset] using p1, by simpa [mset, fset] using p2, ?_, by simpa [mset, fset] using p4, by simpa [mset, fset] using p5, fun g hg => by simpa [mset, fset, startS, o5] using p6 g hg⟩
  by_cases e : x = f
  · subst e; simp [mset, fset, startS, hx']
  · simpa [mset, fset, startS, hx', e] using p3
theorem XR_3 {m : Mem} {F : FdT} {f v : Nat} (h : XR m 0 F (startS F)) : XR (mset m 8 0 f (nI v)) 0 (fset F 3 f v) (startS (fset F 3 f v)) := by
  obtain ⟨q0, q1, q2, q3, q4, q5, q6⟩ := h
  refine ⟨by simpa [mset, fset] using q0, by simpa [mset, fset] using q1, by simpa [mset, fset, startS] using q2, by simpa [mset, fset, startS] using q3, by simpa [mset, fset, startS] using q4, by simpa [mset, fset, startS] using q5, fun x hx => ?_⟩
  have hx' : x < F 0 0 := hx
  obtain ⟨p1, p2, p3, p4, p5, p6⟩ := q6 x hx'
  refine ⟨?_, by simpa [mset, fset] using p2, by simpa [mset, fset, startS, hx'] using p3, by simpa [mset, fset] using p4, by simpa [mset, fset] using p5, fun g hg => by simpa [mset, fset, startS, o5] using p6 g hg⟩
  by_cases e : x = f
  · subst e; simp [mset, fset]
  · simpa [mset, fset, e] using p1
theorem XR_1 {m : Mem} {F : FdT} {v : Nat} (h : XR m 0 F (startS F)) : XR (mset m 7 0 9 (nI v)) 0 (fset F 1 0 v) (startS (fset F 1 0 v)) := by
  obtain ⟨q0, q1, q2, q3, q4, q5, q6⟩ := h
  refine ⟨by simpa [mset, fset] using q0, by simp [mset, fset], by simpa [mset, fset, startS] using q2, by simpa [mset, fset, startS] using q3, by simpa [mset, fset, startS] using q4, by simpa [mset, fset, startS] using q5, fun x hx => ?_⟩
  have hx' : x < F 0 0 := hx
  obtain ⟨p1, p2, p3, p4, p5, p6⟩ := q6 x hx'
  exact ⟨by simpa [mset, fset] using p1, by simpa [mset, fset] using p2, by simpa [mset, fset, startS, hx'] using p3, by simpa [mset, fset] using p4, by simpa [mset, fset] using p5, fun g hg => by simpa [mset, fset, startS, o5] using p6 g hg⟩
theorem XR_2 {m : Mem} {F : FdT} {v : Nat} (h : XR m 0 F (startS F)) : XR (mset m 7 0 10 (nI v)) 0 (fset F 2 0 v) (startS (fset F 2 0 v)) := by
  obtain ⟨q0, q1, q2, q3, q4, q5, q6⟩ := h
  refine ⟨by simpa [mset, fset] using q0, by simpa [mset, fset] using q1, by simp [mset, fset, startS], by simpa [mset, fset, startS] using q3, by simpa [mset, fset, startS] using q4, by simpa [mset, fset, startS] using q5, fun x hx => ?_⟩
  have hx' : x < F 0 0 := hx
  obtain ⟨p1, p2, p3, p4, p5, p6⟩ := q6 x hx'
  exact ⟨by simpa [mset, fset] using p1, by simpa [mset, fset] using p2, by simpa [mset, fset, startS, hx'] using p3, by simpa [mset, fset] using p4, by simpa [mset, fset] using p5, fun g hg => by simpa [mset, fset, startS, o5] using p6 g hg⟩
/-! what may be supposed stays within bounds -/
theorem WC_5 {F : FdT} (h : WC F) {f v : Nat} (hv : v ≤ 198) : WC (fset F 5 f v) := ⟨h.1, h.2.1, h.2.2.1, fun x hx => by
  obtain ⟨p1, p2, p3, p4, p5, p6⟩ := h.2.2.2 x hx
  refine ⟨p1, p2, p3, ?_, p5, p6⟩
  by_cases e : x = f
  · simp [fset, e, hv]
  · simpa [fset, e] using p4⟩
theorem WC_3 {F : FdT} (h : WC F) {f v : Nat} (hv : v ≤ 2) : WC (fset F 3 f v) := ⟨h.1, h.2.1, h.2.2.1, fun x hx => by
  obtain ⟨p1, p2, p3, p4, p5, p6⟩ := h.2.2.2 x hx
  refine ⟨?_, p2, p3, p4, p5, p6⟩
  by_cases e : x = f
  · simp [fset, e, hv]
  · simpa [fset, e] using p1⟩
theorem WC_1 {F : FdT} (h : WC F) {v : Nat} (hv : v ≤ 9) : WC (fset F 1 0 v) := ⟨h.1, by simpa [fset] using hv, h.2.2.1, fun x hx => h.2.2.2 x hx⟩
theorem WC_2 {F : FdT} (h : WC F) {v : Nat} (hv : v < 64) : WC (fset F 2 0 v) := ⟨h.1, h.2.1, by simpa [fset] using hv, fun x hx => h.2.2.2 x hx⟩
/-! the reference: a number of the ford supposed -/
theorem TR_5 {m : Mem} {F : FdT} {f v : Nat} (h : TR m F) : TR (mset m 36 0 f (nI v)) (fset F 5 f v) := by
  obtain ⟨h1, h2, h3, h4, h5⟩ := h
  refine ⟨by simpa [mset, fset] using h1, by simpa [mset, fset] using h2, by simpa [mset, fset] using h3, by simpa [mset, fset] using h4, fun x hx => ?_⟩
  obtain ⟨p1, p2, p3, p4, p5⟩ := h5 x hx
  refine ⟨by simpa [mset, fset] using p1, by simpa [mset, fset] using p2, ?_, by simpa [mset, fset] using p4, by simpa [mset, fset] using p5⟩
  by_cases e : x = f
  · simp [mset, fset, e]
  · simpa [mset, fset, e] using p3
theorem TR_3 {m : Mem} {F : FdT} {f v : Nat} (h : TR m F) : TR (mset m 34 0 f (nI v)) (fset F 3 f v) := by
  obtain ⟨h1, h2, h3, h4, h5⟩ := h
  refine ⟨by simpa [mset, fset] using h1, by simpa [mset, fset] using h2, by simpa [mset, fset] using h3, by simpa [mset, fset] using h4, fun x hx => ?_⟩
  obtain ⟨p1, p2, p3, p4, p5⟩ := h5 x hx
  refine ⟨?_, by simpa [mset, fset] using p2, by simpa [mset, fset] using p3, by simpa [mset, fset] using p4, by simpa [mset, fset] using p5⟩
  by_cases e : x = f
  · simp [mset, fset, e]
  · simpa [mset, fset, e] using p1
theorem TR_1 {m : Mem} {F : FdT} {v : Nat} (h : TR m F) : TR (mset m 30 0 6 (nI v)) (fset F 1 0 v) := by
  obtain ⟨h1, h2, h3, h4, h5⟩ := h
  exact ⟨by simpa [mset, fset] using h1, by simp [mset, fset], by simpa [mset, fset] using h3, by simpa [mset, fset] using h4, fun x hx => by simpa [mset, fset] using h5 x hx⟩
theorem TR_2 {m : Mem} {F : FdT} {v : Nat} (h : TR m F) : TR (mset m 30 0 8 (nI v)) (fset F 2 0 v) := by
  obtain ⟨h1, h2, h3, h4, h5⟩ := h
  exact ⟨by simpa [mset, fset] using h1, by simpa [mset, fset] using h2, by simp [mset, fset], by simpa [mset, fset] using h4, fun x hx => by simpa [mset, fset] using h5 x hx⟩
theorem RFr.w {a b : Mem} (h : RFr a b) {t i j : Nat} {v : Int32} : RFr (mset a t i j v) (mset b t i j v) := by
  refine ⟨fun t' h1 h2 h3 => ?_, fun j' hj => ?_⟩
  · funext x y
    unfold mset
    rw [h.1 t' h1 h2 h3]
  · unfold mset
    rw [h.2 j' hj]
theorem mset_id {m : Mem} {t i j : Nat} {v : Int32} (h : m t i j = v) : mset m t i j v = m := by
  funext x y z
  unfold mset
  split
  · rename_i c
    obtain ⟨rfl, rfl, rfl⟩ := c
    exact h.symm
  · rfl
/-! loops that gather -/
def foldS (g : Int32 → Nat → Int32) : Nat → Nat → Int32 → Int32
  | _, 0, acc => acc
  | v, k + 1, acc => foldS g (v + 1) k (g acc v)
theorem fold_lp {ω : Type} {body : (Int32 × Int32 × Mem → Option ω) → (Int32 × Mem → Option ω) → Int32 × Int32 × Mem → Option ω} {K : Int32 × Mem → Option ω} {g : Int32 → Nat → Int32} {P : Mem → Prop} {N : Nat}
    (hend : ∀ acc m next, body next K (acc, nI N, m) = K (acc, m)) (hstep : ∀ v acc m, v < N → P m → ∃ m', P m' ∧ ∀ next, body next K (acc, nI v, m) = next (g acc v, nI (v + 1), m')) :
    ∀ k v n acc m, v + k = N → k < n → P m → ∃ m', P m' ∧ lpk body n (acc, nI v, m) K = K (foldS g v k acc, m') := by
  intro k
  induction k with
  | zero =>
    intro v n acc m hv hn hP
    obtain ⟨n, rfl⟩ : ∃ n', n = n' + 1 := ⟨n - 1, by omega⟩
    have e : v = N := by omega
    subst e
    exact ⟨m, hP, by rw [lpk_s, hend]; rfl⟩
  | succ k ih =>
    intro v n acc m hv hn hP
    obtain ⟨n, rfl⟩ : ∃ n', n = n' + 1 := ⟨n - 1, by omega⟩
    obtain ⟨m1, p1, e1⟩ := hstep v acc m (by omega) hP
    obtain ⟨m2, p2, e2⟩ := ih (v + 1) n (g acc v) m1 (by omega) (by omega) p1
    exact ⟨m2, p2, by rw [lpk_s, e1, e2]; rfl⟩
/-! the readings hold -/
def soS (C : FdT) (rn : Nat) (rf rs : Nat → Nat) : Prop := ∀ q, q < rn → C 4 (rf q) = rs q
