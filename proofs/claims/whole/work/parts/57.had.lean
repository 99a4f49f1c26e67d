/-! ===== do the readings hold? ===== -/
theorem wv_r {p : Nat} (h : p < 20) : ¬ wv (.inr p) = -9 := m9' h
def soB (C : FdT) (rn : Nat) (rf rs : Nat → Nat) : Bool := (List.range rn).all (fun q => C 4 (rf q) == rs q)
theorem soB_iff {C : FdT} {rn : Nat} {rf rs : Nat → Nat} : soB C rn rf rs = true ↔ ∀ q, q < rn → C 4 (rf q) = rs q := by simp [soB]
theorem so_c {m : Mem} {F C : FdT} {rn g : Nat} {rf rs : Nat → Nat} (hX : XR m 0 F C) (hR : RC m rn rf rs) (hB : CB C g) (hn : F 0 0 ≤ 5) (hr : rn ≤ 8) (hv : ∀ q, q < rn → rf q < F 0 0 ∧ rs q ≤ 99) : f_X2_areSo 0 m = some (if soB C rn rf rs = true then 1 else 0, m) := by
  unfold f_X2_areSo
  refine lpk_ind (fun k s => ∃ i, i + k = rn ∧ s = (nI i, m) ∧ ∀ q, q < i → C 4 (rf q) = rs q) ?_ rn fuelN _ (by unfold fuelN; omega) ⟨0, by omega, rfl, fun q hq => by omega⟩
  rintro k s ⟨i, hi, rfl, hq⟩
  unfold f_X2_areSo_b2
  cases k with
  | zero =>
    refine Or.inr fun next => ?_
    have e : i = rn := by omega
    subst e
    have hle : nI i ≤ nI i := nI_le (Nat.le_refl _) (by omega)
    simp [hR.1, hle, soB_iff.mpr hq]
  | succ k =>
    have hge : ¬ nI rn ≤ nI i := nI_ge (by omega) (by omega)
    obtain ⟨r1, r2⟩ := hR.2 i (by omega)
    obtain ⟨v1, v2⟩ := hv i (by omega)
    obtain ⟨b1, b2⟩ := i5 v1 hn
    have p3 := (hX.2.2.2.2.2.2 _ v1).2.2.1
    have c4 := hB.2.2.2.2.1 (rf i) (by omega)
    have b3 : inB (nI i) 8 = true := inB_nI (by omega) (by decide)
    have b4 : ix (nI i) = i := ix_nI (by omega)
    have e1 : (nI (C 4 (rf i)) = nI (rs i)) ↔ C 4 (rf i) = rs i := nI_eq (by omega) (by omega)
    by_cases c : C 4 (rf i) = rs i
    · refine Or.inl ⟨k, (nI (i + 1), m), rfl, ⟨i + 1, by omega, rfl, fun q hq' => ?_⟩, fun next => ?_⟩
      · by_cases e : q = i
        · rw [e]; exact c
        · exact hq q (by omega)
      · simp [hR.1, hge, b3, b4, r1, b1, b2, p3, r2, c, nI_succ]
    · have hb : ¬ soB C rn rf rs = true := fun q => c (soB_iff.mp q i (by omega))
      refine Or.inr fun next => ?_
      simp [hR.1, hge, b3, b4, r1, b1, b2, p3, r2, e1, c, hb]
theorem so_r {m : Mem} {F C : FdT} {rn g : Nat} {rf rs : Nat → Nat} (hX : RX m F C) (hR : RR m rn rf rs) (hB : CB C g) (hn : F 0 0 ≤ 5) (hr : rn ≤ 8) (hv : ∀ q, q < rn → rf q < F 0 0 ∧ rs q ≤ 99) : lpk f_X7_areSo_b13 fuelN ((0 : Int32), m) (fun t13 => some ((1 : Int32), t13)) = some (if soB C rn rf rs = true then 1 else 0, m) := by
  refine lpk_ind (fun k s => ∃ i, i + k = rn ∧ s = (nI i, m) ∧ ∀ q, q < i → C 4 (rf q) = rs q) ?_ rn fuelN _ (by unfold fuelN; omega) ⟨0, by omega, rfl, fun q hq => by omega⟩
  rintro k s ⟨i, hi, rfl, hq⟩
  unfold f_X7_areSo_b13
  cases k with
  | zero =>
    refine Or.inr fun next => ?_
    have e : i = rn := by omega
    subst e
    have hle : nI i ≤ nI i := nI_le (Nat.le_refl _) (by omega)
    simp [hR.1, hle, soB_iff.mpr hq]
  | succ k =>
    have hge : ¬ nI rn ≤ nI i := nI_ge (by omega) (by omega)
    obtain ⟨r1, r2⟩ := hR.2 i (by omega)
    obtain ⟨v1, v2⟩ := hv i (by omega)
    obtain ⟨b1, b2⟩ := i5 v1 hn
    have p3 := (hX.2.2.2.2 _ v1).1
    have c4 := hB.2.2.2.2.1 (rf i) (by omega)
    have b3 : inB (nI i) 8 = true := inB_nI (by omega) (by decide)
    have b4 : ix (nI i) = i := ix_nI (by omega)
    have e1 : (nI (C 4 (rf i)) = nI (rs i)) ↔ C 4 (rf i) = rs i := nI_eq (by omega) (by omega)
    by_cases c : C 4 (rf i) = rs i
    · refine Or.inl ⟨k, (nI (i + 1), m), rfl, ⟨i + 1, by omega, rfl, fun q hq' => ?_⟩, fun next => ?_⟩
      · by_cases e : q = i
        · rw [e]; exact c
        · exact hq q (by omega)
      · simp [hR.1, hge, b3, b4, r1, b1, b2, p3, r2, c, nI_succ]
    · have hb : ¬ soB C rn rf rs = true := fun q => c (soB_iff.mp q i (by omega))
      refine Or.inr fun next => ?_
      simp [hR.1, hge, b3, b4, r1, b1, b2, p3, r2, e1, c, hb]
def fitB (F : FdT) (fs hs : Nat → Nat) (q : Nat) (rn : Nat) (rf rs : Nat → Nat) : Bool := match walkS F fs hs q 0 (startS F) with
  | .inl C => soB C rn rf rs
  | .inr _ => false
theorem fits_c {m : Mem} {k a q la len : Nat} {c : Nat → Int32} {F : FdT} {fs hs : Nat → Nat} {rn : Nat} {rf rs : Nat → Nat} (hk : k < 4) (hq : q ≤ 20) (hX : XR m 0 F (startS F)) (hW : WC F) (hS : SC m k (some (la, len, c))) (hl : len ≤ 60) (hal : a + 2 * q ≤ len) (hR : Row F c a q fs hs) (hRC : RC m rn rf rs) (hr : rn ≤ 8) (hv : ∀ q, q < rn → rf q < F 0 0 ∧ rs q ≤ 99) :
    ∃ m3, f_X6_fits (nI k) (nI a) (nI q) m = some (if fitB F fs hs q rn rf rs = true then 1 else 0, m3) ∧ XF m m3 := by
  have b1 : inB (nI k) 4 = true := inB_nI hk (by decide)
  have b2 : ix (nI k) = k := ix_nI (by omega)
  obtain ⟨m3, w1, w2, w3⟩ := try_c hX hW hS hl hal hR
  refine ⟨m3, ?_, w2⟩
  unfold f_X6_fits
  rw [if_pos b1, b2, w1, bnd_some]
  unfold fitB
  cases hw : walkS F fs hs q 0 (startS F) with
  | inl C =>
    have hR3 : RC m3 rn rf rs := by
      unfold RC at hRC ⊢
      rw [w2 20 (by decide), w2 21 (by decide), w2 22 (by decide)]
      exact hRC
    rw [if_pos wv_l, so_c (w3 C hw) hR3 (walkS_CB hW q 0 0 (startS F) C (fun z hz => (hR z (by omega)).1) (CB_start hW) hw) hW.1 hr hv, bnd_some]
    dsimp only
    by_cases z : soB C rn rf rs = true
    · rw [if_pos z, if_neg (by decide)]
    · rw [if_neg z, if_pos rfl]
  | inr p =>
    have := walkS_lt q 0 (startS F) p hw
    rw [if_neg (wv_r (show p < 20 by omega))]
    simp
theorem fits_r {m : Mem} {q : Nat} {F : FdT} {fs hs : Nat → Nat} {rn : Nat} {rf rs : Nat → Nat} (hT : TR m F) (hW : WC F) (hL : Laid m q fs hs) (hq : q ≤ 20) (hR : ∀ p, p < q → fs p < F 0 0 ∧ hs p < 4) (hRR : RR m rn rf rs) (hr : rn ≤ 8) (hv : ∀ q, q < rn → rf q < F 0 0 ∧ rs q ≤ 99) :
    ∃ m3, f_X7_areSo m = some (if fitB F fs hs q rn rf rs = true then 1 else 0, m3) ∧ RFr m m3 := by
  obtain ⟨m3, w1, w2, w3⟩ := try_r hT hW hL hq hR
  refine ⟨m3, ?_, w2⟩
  unfold f_X7_areSo
  rw [w1, bnd_some]
  unfold fitB
  cases hw : walkS F fs hs q 0 (startS F) with
  | inl C =>
    have hR3 : RR m3 rn rf rs := by
      unfold RR at hRR ⊢
      rw [w2.1 47 (by decide) (by decide) (by decide), w2.1 48 (by decide) (by decide) (by decide), w2.2 32 (by decide)]
      exact hRR
    rw [if_pos wv_l, so_r (w3 C hw) hR3 (walkS_CB hW q 0 0 (startS F) C (fun z hz => (hR z (by omega)).1) (CB_start hW) hw) hW.1 hr hv]
  | inr p =>
    have := walkS_lt q 0 (startS F) p hw
    rw [if_neg (wv_r (show p < 20 by omega))]
    simp
def bitS (b : Bool) (acc : Int32) (v : Nat) : Int32 := acc ||| (if b = true then (1 : Int32) <<< (nI v &&& 31) else 0)
theorem bit_if {b : Bool} {x : Int32} {m : Mem} : f_X6_bitIf (if b = true then 1 else 0) x m = some (if b = true then (1 : Int32) <<< (x &&& 31) else 0, m) := by
  cases b <;> simp [f_X6_bitIf]
/-- a row told by any numbers, for the words that lay it -/
theorem lay_all {ft tr : Int32} {Sh : ShT} {F : FdT} {rn : Nat} {rf rs : Nat → Nat} (hv : VI Sh F rn rf rs) (x1 x2 x3 x4 : Int32) :
    (∃ r ft', r ≠ 0 ∧ CStep (f_X6_refusalOf x1 x2 x3 x4 1) r (fun m => CI m ft tr Sh F rn rf rs) (fun m => CI m ft' tr Sh F rn rf rs) ∧ RStep (f_X7_lay x1 x2 x3 x4) r (fun m => RI m 0 tr Sh F rn rf rs) (fun m => RI m ft' tr Sh F rn rf rs)) ∨
    (∃ k la q len c a fs hs, k < 4 ∧ q ≤ 20 ∧ x1 = nI k ∧ x3 = nI a ∧ x4 = nI q ∧ Sh k = some (la, len, c) ∧ a + 2 * q ≤ len ∧ len ≤ 60 ∧ 1 ≤ F 0 0 ∧ Row F c a q fs hs ∧
      (∀ m, CI m ft tr Sh F rn rf rs → f_X6_refusalOf x1 x2 x3 x4 1 m = some (0, mset m 0 0 6 0)) ∧
      ∀ m, RI m 0 tr Sh F rn rf rs → ∃ m', f_X7_lay x1 x2 x3 x4 m = some (0, m') ∧ RI m' 0 tr Sh F rn rf rs ∧ Laid m' q fs hs ∧ ∀ t, t < 30 → m' t = m t) := by
  rcases refuse_head x1 x2 x4 with ⟨h1, h2⟩ | ⟨h1, h2, h3⟩ | ⟨k, la, q, hk, hla, hq, rfl, rfl, rfl, h1, h2, h3⟩
  · exact Or.inl ⟨-1, 0, by decide, fun m h => ⟨mset m 0 0 6 0, h1 _ _ _, CI_ft h, fun t ht => mset_t ht (by decide)⟩, fun m h => ⟨m, by simp [f_X7_lay, h2, bnd], h, fun t ht => rfl⟩⟩
  · exact Or.inl ⟨-2, 0, by decide, fun m h => ⟨mset m 0 0 6 0, h1 _ _ _, CI_ft h, fun t ht => mset_t ht (by decide)⟩, fun m h => ⟨m, by simp [f_X7_lay, h2, h3, bnd], h, fun t ht => rfl⟩⟩
  have hd : ∀ m, f_X7_lay (nI k) (nI la) x3 (nI q) m = f_X7_layPasses (nI k) (nI la) x3 (nI q) m := fun m => by
    unfold f_X7_lay
    rw [h2, bnd_some, if_neg (by decide), h3, bnd_some, if_neg (by decide)]
    cases f_X7_layPasses (nI k) (nI la) x3 (nI q) m <;> rfl
  rcases lay_cases (ft := ft) (tr := tr) hv x3 hk hla hq with ⟨r, ft', hr, c1, c2⟩ | ⟨len, c, a, fs, hs, e, rfl, hal, hl, h1', hR, hc, hr⟩
  · exact Or.inl ⟨r, ft', hr, c1, fun m h => by
      obtain ⟨m1, e1, e2, e3⟩ := c2 m h
      exact ⟨m1, by rw [hd]; exact e1, e2, e3⟩⟩
  · exact Or.inr ⟨k, la, q, len, c, a, fs, hs, hk, hq, rfl, rfl, rfl, e, hal, hl, h1', hR, hc, fun m h => by
      obtain ⟨m1, e1, e2⟩ := hr m h
      exact ⟨m1, by rw [hd]; exact e1, e2⟩⟩
