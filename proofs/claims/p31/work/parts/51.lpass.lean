/-! ===== the law's pass ===== -/
section LPASS
variable {L : Nat} {xsc : Nat → Int32}
theorem up_l {m : Mem} {F C : FdT} {f g : Nat} (hX : LX m F C) (hB : CB C g) (hn : F 0 0 ≤ 5) (hf : f < F 0 0) : ∃ m', f_L_pass_j239 L xsc (nI f) m = some (1, m') ∧ LFr m m' ∧ LX m' F (upS C f) := by
  obtain ⟨⟨x1, x2⟩, -⟩ := x9
  obtain ⟨q0, q1, q2, q3, q4⟩ := hX
  have e := (bit_x (C 2 0) (by have := hB.2.2.1; omega) f (by omega)).1
  refine ⟨mset m 72 0 5 (nI (C 2 0 ^^^ 2 ^ f)), ?_, LFr.rf.s72, ?_⟩
  · unfold f_L_pass_j239
    rw [if_pos x1, if_pos x1, x2, q0, e]
  · refine ⟨by simp [mset, upS, fset], by simpa [mset, upS, fset] using q1, by simpa [mset, upS, fset] using q2, by simpa [mset, upS, fset] using q3, fun x hx => ?_⟩
    have h5 : ¬ x = 5 := by omega
    have := q4 x hx
    simpa [mset, upS, fset, o5, h5] using this
/-- p's scales go to the heron -/
theorem pay_l {m : Mem} {F C : FdT} {p t : Nat} (hX : LX m F C) (hn : F 0 0 ≤ 5) (hp : p < F 0 0) (ht : t ≤ C 4 p) : LX (mset (mset m 72 0 p (nI (C 4 p - t))) 72 0 8 (nI (C 3 0 + t))) F (fset (fset C 4 p (C 4 p - t)) 3 0 (C 3 0 + t)) := by
  obtain ⟨q0, q1, q2, q3, q4⟩ := hX
  have n5 : ¬ 5 = p := by omega
  have n6 : ¬ 6 = p := by omega
  have n7 : ¬ 7 = p := by omega
  refine ⟨by simpa [mset, fset, n5] using q0, by simpa [mset, fset, n6] using q1, by simpa [mset, fset, n7] using q2, by simp [mset, fset], fun x hx => ⟨?_, fun y hy => by simpa [mset, fset, o5] using (q4 x hx).2 y hy⟩⟩
  have n8 : ¬ x = 8 := by omega
  by_cases e : x = p
  · subst e; simp [mset, fset, n8]
  · simpa [mset, fset, n8, e] using (q4 x hx).1
/-- behind the ways: scales move, the fish turns -/
theorem j197_n {m : Mem} {F C : FdT} {f g toll : Nat} {x2 : Int32} (h3 : ¬ x2 = 3) (hX : LX m F C) (hB : CB C g) (hn : F 0 0 ≤ 5) (hf : f < F 0 0) : ∃ m', f_L_pass_j197 L xsc (nI f) x2 (nI toll) (-1) m = some (1, m') ∧ LFr m m' ∧ LX m' F (upS C f) := by
  obtain ⟨m', e1, e2, e3⟩ := up_l (L := L) (xsc := xsc) hX hB hn hf
  refine ⟨m', ?_, e2, e3⟩
  unfold f_L_pass_j197
  rw [if_pos (by decide)]
  unfold f_L_pass_j220
  rw [if_neg h3, e1]
theorem j197_p {m : Mem} {F C : FdT} {f p toll : Nat} {x2 : Int32} (hX : LX m F C) (hn : F 0 0 ≤ 5) (hp : p < F 0 0) (ht : toll ≤ C 4 p) : f_L_pass_j197 L xsc (nI f) x2 (nI toll) (nI p) m = f_L_pass_j220 L xsc (nI f) x2 (nI toll) (nI p) (mset (mset m 72 0 p (nI (C 4 p - toll))) 72 0 8 (nI (C 3 0 + toll))) := by
  obtain ⟨-, -, -, y1, y2⟩ := x9
  obtain ⟨b1, b2⟩ := b9 (k := p) (by omega)
  have e1 : nI (C 4 p) - nI toll = nI (C 4 p - toll) := pk_sub ht
  have p2 := (hX.2.2.2.2 p hp).1
  have p8 : mset m 72 0 p (nI (C 4 p - toll)) 72 0 8 = nI (C 3 0) := by
    have : ¬ 8 = p := by omega
    simpa [mset, this] using hX.2.2.2.1
  unfold f_L_pass_j197
  rw [if_neg (nI_pos (by omega)), if_pos b1, if_pos b1, if_pos y1, if_pos y1, b2, y2, p2, e1, p8, nI_add]
/-- the lender gets it written down -/
theorem credit_l {m : Mem} {F C : FdT} {f p v : Nat} (hX : LX m F C) (hn : F 0 0 ≤ 5) (hf : f < F 0 0) (hp : p < F 0 0) : LX (mset m 73 0 (5 * f + p) (nI v)) F (fset C (5 + f) p v) := by
  obtain ⟨q0, q1, q2, q3, q4⟩ := hX
  refine ⟨by simpa [mset, fset, o5] using q0, by simpa [mset, fset, o5] using q1, by simpa [mset, fset, o5] using q2, by simpa [mset, fset, o5] using q3, fun x hx => ⟨by simpa [mset, fset, o5] using (q4 x hx).1, fun y hy => ?_⟩⟩
  have := (q4 x hx).2 y hy
  by_cases ex : x = f ∧ y = p
  · obtain ⟨rfl, rfl⟩ := ex
    simp [mset, fset]
  · have ex2 : ¬ 5 * x + y = 5 * f + p := fun z => ex (by omega)
    have ex3 : ¬ (5 + x = 5 + f ∧ y = p) := fun z => ex ⟨by omega, z.2⟩
    simp only [mset, fset, if_neg ex3, eq_false ex2, and_false, if_false]
    exact this
theorem song_l {m : Mem} {F C : FdT} {s : Nat} (hX : LX m F C) (hn : F 0 0 ≤ 5) : LX (mset m 72 0 7 (nI (C 0 0 ^^^ 2 ^ s))) F (fset C 0 0 (C 0 0 ^^^ 2 ^ s)) := by
  obtain ⟨q0, q1, q2, q3, q4⟩ := hX
  refine ⟨by simpa [mset, fset] using q0, by simpa [mset, fset] using q1, by simp [mset, fset], by simpa [mset, fset] using q3, fun x hx => ?_⟩
  have h7 : ¬ x = 7 := by omega
  have := q4 x hx
  simpa [mset, fset, o5, h7] using this
theorem secret_l {m : Mem} {F C : FdT} {s : Nat} (hX : LX m F C) (hn : F 0 0 ≤ 5) : LX (mset m 72 0 6 (nI (C 1 0 ^^^ 2 ^ s))) F (fset C 1 0 (C 1 0 ^^^ 2 ^ s)) := by
  obtain ⟨q0, q1, q2, q3, q4⟩ := hX
  refine ⟨by simpa [mset, fset] using q0, by simp [mset, fset], by simpa [mset, fset] using q2, by simpa [mset, fset] using q3, fun x hx => ?_⟩
  have h7 : ¬ x = 6 := by omega
  have := q4 x hx
  simpa [mset, fset, o5, h7] using this
theorem pass_l {m : Mem} {F C : FdT} {f how g : Nat} (hG : GI m F) (hX : LX m F C) (hW : WC F) (hB : CB C g) (hf : f < F 0 0) (hh : how < 4) : match passS F C f how with
    | some q => ∃ m', f_L_pass L xsc (nI f) (nI how) m = some (1, m') ∧ LFr m m' ∧ LX m' F q.1
    | none => f_L_pass L xsc (nI f) (nI how) m = some (0, m) := by
  have hn := hW.1
  have ht := tollS_le hW C hf
  have htoll := toll_l (L := L) (xsc := xsc) hG hX hW hB hf
  obtain ⟨⟨x1, x2⟩, ⟨x3, x4⟩, ⟨x5, x6⟩, -⟩ := x9
  obtain ⟨⟨y1, y2⟩, ⟨y3, y4⟩, -⟩ := x28
  obtain ⟨w1, w2, w3, w4, w5, w6⟩ := hW.2.2.2 f hf
  have p4 := (hX.2.2.2.2 f hf).1
  obtain ⟨g1, g2, g3, g4, g5⟩ := hG.2.2.2 f hf
  unfold passS
  by_cases k0 : how = 0
  · subst k0
    have e2 : (m 72 0 f < nI (tollS F C f)) ↔ C 4 f < tollS F C f := by rw [p4]; exact nI_ltI (by have := hB.2.2.2.2.1 f (by omega); omega) (by omega)
    obtain ⟨b1, b2⟩ := b9 (k := f) (by omega)
    have hd : f_L_pass L xsc (nI f) (nI 0) m = if C 4 f < tollS F C f then some (0, m) else f_L_pass_j197 L xsc (nI f) (nI 0) (nI (tollS F C f)) (nI f) m := by
      unfold f_L_pass
      rw [htoll, bnd_some, if_pos (show nI 0 = 0 from rfl)]
      unfold f_L_pass_j17
      rw [if_neg (by decide)]
      unfold f_L_pass_j70
      rw [if_pos (show nI 0 = 0 from rfl), if_pos b1, b2]
      by_cases c : C 4 f < tollS F C f
      · rw [if_pos (e2.mpr c), if_pos c]
      · rw [if_neg (fun q => c (e2.mp q)), if_neg c]
        unfold f_L_pass_j82
        rw [if_neg (by decide)]
        unfold f_L_pass_j94
        rw [if_neg (by decide)]
        unfold f_L_pass_j144
        rw [if_neg (by decide)]
    rw [if_pos rfl]
    by_cases c : tollS F C f ≤ C 4 f
    · rw [if_pos c]
      obtain ⟨m', e1, e2', e3⟩ := up_l (L := L) (xsc := xsc) (pay_l hX hn hf c) (CB_pay0 hB hW hf) hn hf
      refine ⟨m', ?_, LFr.tr (LFr.rf.s72.s72) e2', e3⟩
      rw [hd, if_neg (by omega), j197_p hX hn hf c]
      unfold f_L_pass_j220
      rw [if_neg (by decide), e1]
    · rw [if_neg c]
      show f_L_pass L xsc (nI f) (nI 0) m = some (0, m)
      rw [hd, if_pos (by omega)]
  rw [if_neg k0]
  have kz : ¬ nI how = 0 := fun q => k0 ((nI_z (by omega)).mp q)
  by_cases k1 : how = 1
  · subst k1
    obtain ⟨a1, a2⟩ := gx 18 (d := 18) rfl (f := f) (by omega)
    have e6 : (m 70 0 (18 + f) = 6) ↔ F 6 f = 6 := by rw [g4]; exact nI_eq (b := 6) (by omega) (by decide)
    have hd : f_L_pass L xsc (nI f) (nI 1) m = f_L_pass_j94 L xsc (nI f) (nI 1) (nI (tollS F C f)) (-1) m := by
      unfold f_L_pass
      rw [htoll, bnd_some, if_neg kz]
      unfold f_L_pass_j17
      rw [if_neg (by decide)]
      unfold f_L_pass_j70
      rw [if_neg kz]
      unfold f_L_pass_j82
      rw [if_neg (by decide)]
    rw [if_pos rfl]
    by_cases c : F 6 f < 6 ∧ (C 0 0).testBit (F 6 f) = false
    · rw [if_pos c]
      have hb := bit_1 (s := C 0 0) (k := F 6 f) hB.1 c.1
      have eb : ¬ ((m 72 0 7 >>> (m 70 0 (18 + f) &&& 31)) &&& 1) = 1 := by rw [hX.2.2.1, g4]; exact fun q => by rw [hb.1.mp q] at c; cases c.2
      have eo : (m 72 0 7 ||| ((1 : Int32) <<< (m 70 0 (18 + f) &&& 31))) = nI (C 0 0 ^^^ 2 ^ F 6 f) := by rw [hX.2.2.1, g4]; exact bit_o _ hB.1 _ c.1 c.2
      obtain ⟨m', e1, e2, e3⟩ := j197_n (L := L) (xsc := xsc) (x2 := nI 1) (toll := tollS F C f) (by decide) (song_l (s := F 6 f) hX hn) (CB_song hB c.1) hn hf
      refine ⟨m', ?_, LFr.tr LFr.rf.s72 e2, e3⟩
      rw [hd]
      unfold f_L_pass_j94
      rw [if_pos (by decide), if_pos a1, a2, if_neg (fun q => by have := e6.mp q; omega), if_pos x5, if_pos a1, x6, if_neg eb, if_pos x5, if_pos a1, if_pos x5, eo]
      unfold f_L_pass_j144
      rw [if_neg (by decide), e1]
    · rw [if_neg c]
      show f_L_pass L xsc (nI f) (nI 1) m = some (0, m)
      rw [hd]
      unfold f_L_pass_j94
      rw [if_pos (by decide), if_pos a1, a2]
      by_cases c6 : F 6 f = 6
      · rw [if_pos (e6.mpr c6)]
      · have c7 : F 6 f < 6 := by omega
        have hb := bit_1 (s := C 0 0) (k := F 6 f) hB.1 c7
        have eb : ((m 72 0 7 >>> (m 70 0 (18 + f) &&& 31)) &&& 1) = 1 := by
          rw [hX.2.2.1, g4]
          refine hb.1.mpr ?_
          by_cases z : (C 0 0).testBit (F 6 f) = true
          · exact z
          · exact absurd ⟨c7, by simpa using z⟩ c
        rw [if_neg (fun q => c6 (e6.mp q)), if_pos x5, if_pos a1, x6, if_pos eb]
  rw [if_neg k1]
  by_cases k2 : how = 2
  · subst k2
    obtain ⟨a1, a2⟩ := gx 23 (d := 23) rfl (f := f) (by omega)
    have en : (m 70 0 1 ≤ m 70 0 (23 + f)) ↔ F 0 0 ≤ F 7 f := by rw [hG.2.1, g5]; exact nI_leI (by omega) (by omega)
    have ef : (m 70 0 (23 + f) = nI f) ↔ F 7 f = f := by rw [g5]; exact nI_eq (by omega) (by omega)
    have hd : f_L_pass L xsc (nI f) (nI 2) m = f_L_pass_j144 L xsc (nI f) (nI 2) (nI (tollS F C f)) (-1) m := by
      unfold f_L_pass
      rw [htoll, bnd_some, if_neg kz]
      unfold f_L_pass_j17
      rw [if_neg (by decide)]
      unfold f_L_pass_j70
      rw [if_neg kz]
      unfold f_L_pass_j82
      rw [if_neg (by decide)]
      unfold f_L_pass_j94
      rw [if_neg (by decide)]
    rw [if_pos rfl]
    by_cases c : F 7 f ≠ f ∧ F 7 f < F 0 0 ∧ (C 1 0).testBit (F 7 f) = false
    · rw [if_pos c]
      have hb := bit_1 (s := C 1 0) (k := F 7 f) (by have := hB.2.1; omega) (by omega)
      have eb : ¬ ((m 72 0 6 >>> (m 70 0 (23 + f) &&& 31)) &&& 1) = 1 := by rw [hX.2.1, g5]; exact fun q => by rw [hb.1.mp q] at c; cases c.2.2
      have eo : (m 72 0 6 ||| ((1 : Int32) <<< (m 70 0 (23 + f) &&& 31))) = nI (C 1 0 ^^^ 2 ^ F 7 f) := by rw [hX.2.1, g5]; exact bit_o _ (by have := hB.2.1; omega) _ (by omega) c.2.2
      obtain ⟨m', e1, e2, e3⟩ := j197_n (L := L) (xsc := xsc) (x2 := nI 2) (toll := tollS F C f) (by decide) (secret_l (s := F 7 f) hX hn) (CB_secret hB (by omega)) hn hf
      refine ⟨m', ?_, LFr.tr LFr.rf.s72 e2, e3⟩
      rw [hd]
      unfold f_L_pass_j144
      rw [if_pos (by decide), if_pos a1, if_pos y3, y4, a2, if_neg (fun q => by have := en.mp q; omega), if_neg (fun q => c.1 (ef.mp q)), if_pos x3, x4, if_neg eb, if_pos x3, if_pos x3, eo, e1]
    · rw [if_neg c]
      show f_L_pass L xsc (nI f) (nI 2) m = some (0, m)
      rw [hd]
      unfold f_L_pass_j144
      rw [if_pos (by decide), if_pos a1, if_pos y3, y4, a2]
      by_cases c1 : F 0 0 ≤ F 7 f
      · rw [if_pos (en.mpr c1)]
      rw [if_neg (fun q => c1 (en.mp q))]
      by_cases c2 : F 7 f = f
      · rw [if_pos (ef.mpr c2)]
      rw [if_neg (fun q => c2 (ef.mp q)), if_pos x3, x4]
      have hb := bit_1 (s := C 1 0) (k := F 7 f) (by have := hB.2.1; omega) (by omega)
      have eb : ((m 72 0 6 >>> (m 70 0 (23 + f) &&& 31)) &&& 1) = 1 := by
        rw [hX.2.1, g5]
        refine hb.1.mpr ?_
        by_cases z : (C 1 0).testBit (F 7 f) = true
        · exact z
        · exact absurd ⟨c2, by omega, by simpa using z⟩ c
      rw [if_pos eb]
  rw [if_neg k2]
  have k3 : how = 3 := by omega
  subst k3
  have hl := lend_l (L := L) (xsc := xsc) (x2 := nI 3) (toll := tollS F C f) hG hX hW hB hf (by omega)
  have hd : f_L_pass L xsc (nI f) (nI 3) m = f_L_pass_j70 L xsc (nI f) (nI 3) (nI (tollS F C f)) (lcode (lendS F C f (tollS F C f) 0 (F 0 0))) m := by
    unfold f_L_pass
    rw [htoll, bnd_some, if_neg kz]
    unfold f_L_pass_j17
    rw [if_pos (show nI 3 = 3 from rfl), if_pos y3, y4, hG.2.1]
    exact hl (fun t31 => f_L_pass_j70 L xsc (nI f) (nI 3) (nI (tollS F C f)) t31.1 t31.2) (F 0 0) 0 fuelN (by omega) (by unfold fuelN; omega)
  cases hx : lendS F C f (tollS F C f) 0 (F 0 0) with
  | none =>
    rw [hx] at hd
    show f_L_pass L xsc (nI f) (nI 3) m = some (0, m)
    rw [hd]
    unfold f_L_pass_j70
    rw [if_neg kz]
    unfold f_L_pass_j82
    rw [if_pos (show nI 3 = 3 from rfl), if_neg (show ¬ 0 ≤ lcode none from by decide)]
  | some x =>
    rw [hx] at hd
    obtain ⟨l1, l2, l3, l4, l5⟩ := lendS_at _ _ _ hx
    have hp : x < F 0 0 := by omega
    have hX2 := pay_l hX hn hp l5
    have e5 : (5 : Int32) * nI f + nI x = nI (5 * f + x) := by rw [show (5 : Int32) = nI 5 from rfl, pk_mul, nI_add]
    have i1 : inB (nI (5 * f + x)) 25 = true := inB_nI (by omega) (by decide)
    have i2 : ix (nI (5 * f + x)) = 5 * f + x := ix_nI (by omega)
    have ew : mset (mset m 72 0 x (nI (C 4 x - tollS F C f))) 72 0 8 (nI (C 3 0 + tollS F C f)) 73 0 (5 * f + x) = nI (C (5 + f) x) := by
      rw [mset_ne (by decide), mset_ne (by decide)]
      exact (hX.2.2.2.2 f hf).2 x hp
    have hX3 := credit_l (v := C (5 + f) x + tollS F C f) hX2 hn hf hp
    obtain ⟨m', e1, e2, e3⟩ := up_l (L := L) (xsc := xsc) hX3 (CB_pay3 hB hW hf) hn hf
    refine ⟨m', ?_, LFr.tr (LFr.rf.s72.s72.s73) e2, e3⟩
    rw [hd]
    unfold f_L_pass_j70
    rw [if_neg kz]
    unfold f_L_pass_j82
    rw [if_pos (show nI 3 = 3 from rfl), if_pos (show 0 ≤ lcode (some x) from nI_pos' (by omega))]
    unfold f_L_pass_j94
    rw [if_neg (by decide)]
    unfold f_L_pass_j144
    rw [if_neg (by decide)]
    show f_L_pass_j197 L xsc (nI f) (nI 3) (nI (tollS F C f)) (nI x) m = some (1, m')
    rw [j197_p hX hn hp l5]
    unfold f_L_pass_j220
    rw [if_pos (show nI 3 = 3 from rfl), e5, if_pos i1, if_pos i1, i2, ew, nI_add, e1]
end LPASS
