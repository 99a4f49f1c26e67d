/-! ===== the law's own rows as numbers: g (70) the ford, p (71) passes, r (72) and w (73) what stands while they go on ===== -/
def someS (v : Int32) (n : Nat) : Nat := v.toBitVec.toNat % 2 ^ 31 % n
theorem someS_lt (v : Int32) {n : Nat} (h : 0 < n) : someS v n < n := Nat.mod_lt _ h
section LNUM
variable {L : Nat} {xsc : Nat → Int32}
theorem some_l (v : Int32) {n : Nat} (h0 : 0 < n) (hn : n < 2 ^ 31) (m : Mem) : f_L_some L xsc v (nI n) m = some (nI (someS v n), m) := by
  have e : v &&& (2147483647 : Int32) = nI (v.toBitVec.toNat % 2 ^ 31) := pk_and v 31 (by decide)
  unfold f_L_some
  rw [if_pos (nI_ne0 h0 hn), e, pk_rem (Nat.mod_lt _ (by decide)) h0 hn]
  rfl
/-- a cell of the script, or what stands for it -/
def cellS (L : Nat) (xsc : Nat → Int32) (k : Nat) : Int32 := if L ≤ k then 747796405 * (nI k + 1) else xsc k
theorem cell_l {k : Nat} (hL : L ≤ 260) (hk : k < 1000) (m : Mem) : f_L_cell L xsc (nI k) m = some (cellS L xsc k, m) := by
  have e : (Int32.ofNat L ≤ nI k) ↔ L ≤ k := nI_leI (by omega) (by omega)
  unfold f_L_cell cellS
  by_cases c : L ≤ k
  · rw [if_pos (e.mpr c), if_pos c]
  · rw [if_neg (fun q => c (e.mp q)), if_neg c, if_pos (inB_nI (by omega) (by omega)), ix_nI (by omega)]
theorem gx (e : Nat) {d : Int32} (hd : d = nI e) {f : Nat} (h : e + f < 28) : inB (d + nI f) 28 = true ∧ ix (d + nI f) = e + f := by
  subst hd
  rw [nI_add]
  exact ⟨inB_nI h (by decide), ix_nI (by omega)⟩
def GI (m : Mem) (F : FdT) : Prop := m 70 0 0 = nI (F 1 0) ∧ m 70 0 1 = nI (F 0 0) ∧ m 70 0 2 = nI (F 2 0) ∧
  ∀ f, f < F 0 0 → m 70 0 (3 + f) = nI (F 3 f) ∧ m 70 0 (8 + f) = nI (F 4 f) ∧ m 70 0 (13 + f) = nI (F 5 f) ∧ m 70 0 (18 + f) = nI (F 6 f) ∧ m 70 0 (23 + f) = nI (F 7 f)
theorem GI_cong {m m' : Mem} {F : FdT} (h : m' 70 = m 70) (hi : GI m F) : GI m' F := by
  unfold GI at hi ⊢
  rw [h]
  exact hi
def LX (m : Mem) (F C : FdT) : Prop := m 72 0 5 = nI (C 2 0) ∧ m 72 0 6 = nI (C 1 0) ∧ m 72 0 7 = nI (C 0 0) ∧ m 72 0 8 = nI (C 3 0) ∧
  ∀ f, f < F 0 0 → m 72 0 f = nI (C 4 f) ∧ ∀ g, g < F 0 0 → m 73 0 (5 * f + g) = nI (C (5 + f) g)
theorem LX_cong {m m' : Mem} {F C : FdT} (h : m' 72 = m 72) (h2 : m' 73 = m 73) (hi : LX m F C) : LX m' F C := by
  unfold LX at hi ⊢
  rw [h, h2]
  exact hi
def LFr (m m' : Mem) : Prop := ∀ t, t ≠ 72 → t ≠ 73 → m' t = m t
theorem LFr.rf {m : Mem} : LFr m m := fun _ _ _ => rfl
theorem LFr.tr {a b c : Mem} (h : LFr a b) (h' : LFr b c) : LFr a c := fun t h1 h2 => (h' t h1 h2).trans (h t h1 h2)
theorem LFr.s72 {m m' : Mem} {i j : Nat} {v : Int32} (h : LFr m m') : LFr m (mset m' 72 i j v) := fun t h1 h2 => (mset_ne h1).trans (h t h1 h2)
theorem LFr.s73 {m m' : Mem} {i j : Nat} {v : Int32} (h : LFr m m') : LFr m (mset m' 73 i j v) := fun t h1 h2 => (mset_ne h2).trans (h t h1 h2)
theorem LFr.g {m m' : Mem} {F : FdT} (h : LFr m m') (hi : GI m F) : GI m' F := GI_cong (h 70 (by decide) (by decide)) hi
theorem LFr.ci {m m' : Mem} {Sh : ShT} {F : FdT} (h : LFr m m') (hi : CI m Sh F) : CI m' Sh F := CI_cong (fun t ht => h t (by omega) (by omega)) hi
theorem b9 {k : Nat} (h : k < 9) : inB (nI k) 9 = true ∧ ix (nI k) = k := ⟨inB_nI h (by decide), ix_nI (by omega)⟩
theorem x9 : (inB 5 9 = true ∧ ix 5 = 5) ∧ (inB 6 9 = true ∧ ix 6 = 6) ∧ (inB 7 9 = true ∧ ix 7 = 7) ∧ inB 8 9 = true ∧ ix 8 = 8 := by decide
theorem x28 : (inB 0 28 = true ∧ ix 0 = 0) ∧ (inB 1 28 = true ∧ ix 1 = 1) ∧ inB 2 28 = true ∧ ix 2 = 2 := by decide
theorem share_l {m : Mem} {F : FdT} {f : Nat} (hG : GI m F) (hW : WC F) (hf : f < F 0 0) : f_L_share L xsc (nI f) m = some (nI (shareS F f), m) := by
  have hn := hW.1
  obtain ⟨w1, w2, w3, -⟩ := hW.2.2.2 f hf
  obtain ⟨p1, p2, -⟩ := hG.2.2.2 f hf
  obtain ⟨a1, a2⟩ := gx 3 (d := 3) rfl (f := f) (by omega)
  obtain ⟨a3, a4⟩ := gx 8 (d := 8) rfl (f := f) (by omega)
  have e0 : (nI (F 3 f) = 0) ↔ F 3 f = 0 := nI_z (by omega)
  have e1 : (nI (F 3 f) = 1) ↔ F 3 f = 1 := nI_eq (b := 1) (by omega) (by decide)
  have s1 : nI (F 4 f) - 1 = nI (F 4 f - 1) := pk_sub (b := 1) w2
  have d2 : nI (F 4 f - 1) / 2 = nI ((F 4 f - 1) / 2) := pk_div (d := 2) (by omega) (by decide) (by decide)
  unfold f_L_share shareS
  rw [if_pos a1, a2, p1]
  by_cases c0 : F 3 f = 0
  · rw [if_pos (e0.mpr c0), if_pos a3, a4, p2, if_pos c0]
  rw [if_neg (fun q => c0 (e0.mp q)), if_pos a1, if_neg c0]
  by_cases c1 : F 3 f = 1
  · rw [if_pos (e1.mpr c1), if_pos a3, a4, p2, s1, if_pos c1]
  · rw [if_neg (fun q => c1 (e1.mp q)), if_pos a3, if_pos (by decide), a4, p2, s1, d2, if_neg c1]
    rfl
theorem toll_l {m : Mem} {F C : FdT} {f g : Nat} (hG : GI m F) (hX : LX m F C) (hW : WC F) (hB : CB C g) (hf : f < F 0 0) : f_L_toll L xsc (nI f) m = some (nI (tollS F C f), m) := by
  have hn := hW.1
  have hb := (bit_1 (s := C 1 0) (k := f) (by have := hB.2.1; omega) (by omega)).1
  have hb2 := (bit_1 (s := C 2 0) (k := f) (by have := hB.2.2.1; omega) (by omega)).2
  obtain ⟨⟨x1, x2⟩, ⟨x3, x4⟩, -⟩ := x9
  obtain ⟨⟨y1, y2⟩, -⟩ := x28
  have e2 : nI (shareS F f) + nI (F 1 0) = nI (shareS F f + F 1 0) := nI_add _ _
  have e3 : ∀ a, nI a + nI a = nI (2 * a) := fun a => by rw [nI_add]; congr 1; omega
  have tail : ∀ a, f_L_toll_j22 L xsc (nI f) (nI a) m = some (nI (if (C 1 0).testBit f = true then 2 * a else a), m) := fun a => by
    unfold f_L_toll_j22
    rw [if_pos x3, x4, hX.2.1]
    by_cases d : (C 1 0).testBit f = true
    · rw [if_pos (hb.mpr d), if_pos d, e3]
    · rw [if_neg (fun q => d (hb.mp q)), if_neg d]
  unfold f_L_toll tollS
  rw [share_l hG hW hf, bnd_some, if_pos x1, x2, hX.1]
  dsimp only
  by_cases c : (C 2 0).testBit f = true
  · rw [if_neg (fun q => by rw [hb2.mp q] at c; cases c), tail, if_pos c, Nat.add_zero]
  · rw [if_pos (hb2.mpr (by simpa using c)), if_pos y1, y2, hG.1, e2, tail, if_neg c]
/-! ===== the lender ===== -/
def lcode : Option Nat → Int32
  | some x => nI x
  | none => -1
theorem lend_l {m : Mem} {F C : FdT} {f toll g : Nat} {x2 : Int32} (hG : GI m F) (hX : LX m F C) (hW : WC F) (hB : CB C g) (hf : f < F 0 0) (ht : toll < 2 ^ 31) (K : Int32 × Mem → Option (Int32 × Mem)) :
    ∀ k i fu, k + i = F 0 0 → k < fu → lpk (f_L_pass_b31 L xsc (nI f) x2 (nI toll)) fu (lcode (lendS F C f toll k i), nI k - 1, m) K = K (lcode (lendS F C f toll 0 (F 0 0)), m) := by
  have hn := hW.1
  intro k
  induction k with
  | zero =>
    intro i fu hi hfu
    obtain ⟨fu, rfl⟩ : ∃ n', fu = n' + 1 := ⟨fu - 1, by omega⟩
    have e : i = F 0 0 := by omega
    subst e
    rw [lpk_s]
    unfold f_L_pass_b31
    dsimp only
    rw [if_pos (show nI 0 - 1 < 0 from by decide)]
  | succ k ih =>
    intro i fu hi hfu
    obtain ⟨fu, rfl⟩ : ∃ n', fu = n' + 1 := ⟨fu - 1, by omega⟩
    obtain ⟨a1, a2⟩ := gx 3 (d := 3) rfl (f := k) (by omega)
    obtain ⟨b1, b2⟩ := b9 (k := k) (by omega)
    obtain ⟨p1, -⟩ := hG.2.2.2 k (by omega)
    have p2 := (hX.2.2.2.2 k (by omega)).1
    have wk := (hW.2.2.2 k (by omega)).1
    have c4 := hB.2.2.2.2.1 k (by omega)
    have e0 : (m 70 0 (3 + k) ≤ 0) ↔ F 3 k = 0 := by
      have : (nI (F 3 k) ≤ nI 0) ↔ F 3 k ≤ 0 := nI_leI (by omega) (by decide)
      rw [nI_0] at this
      rw [p1, this]; omega
    have e1 : (nI k = nI f) ↔ k = f := nI_eq (by omega) (by omega)
    have e2 : (m 72 0 k < nI toll) ↔ C 4 k < toll := by rw [p2]; exact nI_ltI (by omega) ht
    have em : nI k + (-1 : Int32) = nI k - 1 := (Int32.sub_eq_add_neg (nI k) 1).symm
    have st : ∀ by0 next, f_L_pass_b31 L xsc (nI f) x2 (nI toll) next K (by0, nI k, m) = next (if k ≠ f ∧ F 3 k ≠ 0 ∧ toll ≤ C 4 k then nI k else by0, nI k - 1, m) := fun by0 next => by
      unfold f_L_pass_b31 f_L_pass_j64
      dsimp only
      rw [if_neg (nI_pos (by omega)), em]
      by_cases c1 : k = f
      · rw [if_pos (e1.mpr c1), if_neg (show ¬ (k ≠ f ∧ F 3 k ≠ 0 ∧ toll ≤ C 4 k) from fun q => q.1 c1)]
      rw [if_neg (fun q => c1 (e1.mp q)), if_pos a1, a2]
      by_cases c2 : F 3 k = 0
      · rw [if_pos (e0.mpr c2), if_neg (show ¬ (k ≠ f ∧ F 3 k ≠ 0 ∧ toll ≤ C 4 k) from fun q => q.2.1 c2)]
      rw [if_neg (fun q => c2 (e0.mp q)), if_pos b1, b2]
      by_cases c3 : C 4 k < toll
      · rw [if_pos (e2.mpr c3), if_neg (show ¬ (k ≠ f ∧ F 3 k ≠ 0 ∧ toll ≤ C 4 k) from fun q => by have := q.2.2; omega)]
      · rw [if_neg (fun q => c3 (e2.mp q)), if_pos (show k ≠ f ∧ F 3 k ≠ 0 ∧ toll ≤ C 4 k from ⟨c1, c2, by omega⟩)]
    have ih := ih (i + 1) fu (by omega) (by omega)
    rw [← ih, lpk_s, nI_pred, st, lendS_s]
    by_cases c : k ≠ f ∧ F 3 k ≠ 0 ∧ toll ≤ C 4 k
    · rw [if_pos c, if_pos c]; rfl
    · rw [if_neg c, if_neg c]
end LNUM
