/-! ===== the law's ford, out of the script ===== -/
def lyS (L : Nat) (xsc : Nat → Int32) (f : Nat) : Int32 := cellS L xsc (1 + f % 3) >>> ((nI (f / 3) * (9 : Int32)) &&& 31)
def lawF (L : Nat) (xsc : Nat → Int32) : FdT := fun i f =>
  if i = 0 then 1 + someS (cellS L xsc 0 >>> ((3 : Int32) &&& 31)) 5
  else if i = 1 then someS (cellS L xsc 0) (if someS (cellS L xsc 0 >>> ((7 : Int32) &&& 31)) 2 = 0 then 10 else 3)
  else if i = 2 then 0
  else if i = 3 then (if someS (lyS L xsc f) 4 = 3 then 1 else someS (lyS L xsc f) 4)
  else if i = 4 then 1 + someS (lyS L xsc f >>> ((1 : Int32) &&& 31)) (if someS (cellS L xsc 0 >>> ((8 : Int32) &&& 31)) 2 = 0 then 9 else 4)
  else if i = 5 then someS (lyS L xsc f >>> ((3 : Int32) &&& 31)) 10
  else if i = 6 then someS (lyS L xsc f >>> ((5 : Int32) &&& 31)) 7
  else someS (lyS L xsc f >>> ((6 : Int32) &&& 31)) 6
theorem lawF_WF (L : Nat) (xsc : Nat → Int32) : WF (lawF L xsc) ∧ 1 ≤ lawF L xsc 0 0 := by
  refine ⟨⟨?_, ?_, ?_, fun f hf => ⟨?_, ?_, ?_, ?_, ?_, ?_⟩⟩, ?_⟩
  · have := someS_lt (cellS L xsc 0 >>> ((3 : Int32) &&& 31)) (n := 5) (by decide)
    simp [lawF]; omega
  · simp only [lawF, if_neg (show ¬ 1 = 0 by decide), if_true]
    split
    · have := someS_lt (cellS L xsc 0) (n := 10) (by decide); omega
    · have := someS_lt (cellS L xsc 0) (n := 3) (by decide); omega
  · simp [lawF]
  · have := someS_lt (lyS L xsc f) (n := 4) (by decide)
    simp only [lawF, if_neg (show ¬ 3 = 0 by decide), if_neg (show ¬ 3 = 1 by decide), if_neg (show ¬ 3 = 2 by decide), if_true]
    split <;> omega
  · simp [lawF]
  · simp only [lawF, if_neg (show ¬ 4 = 0 by decide), if_neg (show ¬ 4 = 1 by decide), if_neg (show ¬ 4 = 2 by decide), if_neg (show ¬ 4 = 3 by decide), if_true]
    split
    · have := someS_lt (lyS L xsc f >>> ((1 : Int32) &&& 31)) (n := 9) (by decide); omega
    · have := someS_lt (lyS L xsc f >>> ((1 : Int32) &&& 31)) (n := 4) (by decide); omega
  · have := someS_lt (lyS L xsc f >>> ((3 : Int32) &&& 31)) (n := 10) (by decide)
    simp [lawF]; omega
  · have := someS_lt (lyS L xsc f >>> ((5 : Int32) &&& 31)) (n := 7) (by decide)
    simp [lawF]; omega
  · have := someS_lt (lyS L xsc f >>> ((6 : Int32) &&& 31)) (n := 6) (by decide)
    simp [lawF]; omega
  · simp [lawF]
/-- the text of a ford, by places -/
def letC (k : Nat) : Nat := if k = 0 then 102 else if k = 1 then 101 else 112
def rowN (F : FdT) (j : Nat) : Nat := if j = 0 then 104 else if j = 1 then 48 + F 1 0 else if (j - 2) % 6 = 0 then 59 else if (j - 2) % 6 = 1 then letC (F 3 ((j - 2) / 6)) else 48 + F ((j - 2) % 6 + 2) ((j - 2) / 6)
theorem rowN_0 (F : FdT) : rowN F 0 = 104 := rfl
theorem rowN_1 (F : FdT) : rowN F 1 = 48 + F 1 0 := rfl
theorem rowN_s (F : FdT) (f : Nat) : rowN F (2 + 6 * f) = 59 := by
  unfold rowN
  rw [if_neg (by omega), if_neg (by omega), if_pos (by omega)]
theorem rowN_k (F : FdT) (f : Nat) : rowN F (3 + 6 * f) = letC (F 3 f) := by
  unfold rowN
  rw [if_neg (by omega), if_neg (by omega), if_neg (by omega), if_pos (by omega), show (3 + 6 * f - 2) / 6 = f by omega]
theorem rowN_d (F : FdT) (f : Nat) {c : Nat} (h1 : 1 ≤ c) (h4 : c < 5) : rowN F (3 + 6 * f + c) = 48 + F (3 + c) f := by
  unfold rowN
  rw [if_neg (by omega), if_neg (by omega), if_neg (by omega), if_neg (by omega), show (3 + 6 * f + c - 2) / 6 = f by omega, show (3 + 6 * f + c - 2) % 6 + 2 = 3 + c by omega]
theorem upS_upS {Sh : ShT} {k : Nat} {v w : Option (Nat × Nat × (Nat → Int32))} : upS_ (upS_ Sh k v) k w = upS_ Sh k w := by
  funext j
  unfold upS_
  split <;> rfl
theorem upS_at {Sh : ShT} {k : Nat} {v : Option (Nat × Nat × (Nat → Int32))} : upS_ Sh k v k = v := if_pos rfl
theorem upS_ne {Sh : ShT} {k j : Nat} {v : Option (Nat × Nat × (Nat → Int32))} (h : j ≠ k) : upS_ Sh k v j = Sh j := if_neg h
/-- sheet 0 holds the text's first n places -/
def PS (m : Mem) (Sh : ShT) (F0 F : FdT) (n : Nat) : Prop := ∃ c, CI m (upS_ Sh 0 (some (0, 60, c))) F0 ∧ ∀ j, j < n → c j = nI (rowN F j)
theorem PS_g {m : Mem} {Sh : ShT} {F0 F : FdT} {n i j : Nat} {v : Int32} (h : PS m Sh F0 F n) : PS (mset m 70 i j v) Sh F0 F n := by
  obtain ⟨c, h1, h2⟩ := h
  exact ⟨c, CI_cong (fun t ht => mset_ne (by omega)) h1, h2⟩
theorem put_s {m : Mem} {Sh : ShT} {F0 F : FdT} {n v : Nat} (h : PS m Sh F0 F n) (hn : n < 60) (hv : rowN F n = v) (h8 : v < 128) : ∃ m', f_X6_put 0 (nI n) (nI v) m = some (1, m') ∧ PS m' Sh F0 F (n + 1) ∧ CF m m' := by
  subst hv
  obtain ⟨c, h1, h2⟩ := h
  obtain ⟨m', e1, e2, e3⟩ := c_put (k := 0) (j := n) (nI (rowN F n)) h1 (by decide) upS_at (by decide) hn
  rw [upS_upS, cut_nI h8] at e2
  refine ⟨m', e1, ⟨_, e2, fun j hj => ?_⟩, e3⟩
  by_cases e : j = n
  · rw [if_pos e, e]
  · rw [if_neg e]
    exact h2 j (by omega)
section LPUT
variable {L : Nat} {xsc : Nat → Int32}
theorem dig_l {Sh : ShT} {F0 F : FdT} {f : Nat} {x2 x5 : Int32} (hf : f < 5) (hd : ∀ c, 1 ≤ c → c < 5 → F (3 + c) f ≤ 9) :
    ∀ t c, c + t = 5 → 1 ≤ c → ∀ m, PS m Sh F0 F (3 + 6 * f + c) → (∀ d, 1 ≤ d → d < 5 → m 70 0 (3 + 5 * d + f) = nI (F (3 + d) f)) →
      ∃ m', PS m' Sh F0 F (8 + 6 * f) ∧ CF m m' ∧ ∀ (K : Int32 × Mem → Option (Int32 × Mem)) fu, t < fu → lpk (f_L_put_b317 L xsc x2 x5 (nI f)) fu (nI (3 + 6 * f + c), nI c, m) K = K (nI (8 + 6 * f), m') := by
  intro t
  induction t with
  | zero =>
    intro c hc h1 m hP hg
    have e : c = 5 := by omega
    subst e
    rw [show 3 + 6 * f + 5 = 8 + 6 * f by omega] at hP ⊢
    refine ⟨m, hP, CF.rf, fun K fu hfu => ?_⟩
    obtain ⟨fu, rfl⟩ : ∃ n', fu = n' + 1 := ⟨fu - 1, by omega⟩
    rw [lpk_s]
    unfold f_L_put_b317
    dsimp only
    rw [if_pos (show (5 : Int32) ≤ nI 5 from by decide)]
  | succ t ih =>
    intro c hc h1 m hP hg
    have hge : ¬ (5 : Int32) ≤ nI c := nI_ge (b := 5) (by omega) (by decide)
    have ei : (3 : Int32) + (5 : Int32) * nI c + nI f = nI (3 + 5 * c + f) := by
      rw [show (5 : Int32) * nI c = nI (5 * c) from pk_mul 5 c, show (3 : Int32) + nI (5 * c) = nI (3 + 5 * c) from nI_add 3 (5 * c), nI_add]
    have b1 : inB (nI (3 + 5 * c + f)) 28 = true := inB_nI (by omega) (by decide)
    have b2 : ix (nI (3 + 5 * c + f)) = 3 + 5 * c + f := ix_nI (by omega)
    have hdc := hd c h1 (by omega)
    obtain ⟨m1, e1, e2, e3⟩ := put_s (v := 48 + F (3 + c) f) hP (by omega) (rowN_d F f h1 (by omega)) (by omega)
    have ev : (48 : Int32) + m 70 0 (3 + 5 * c + f) = nI (48 + F (3 + c) f) := by
      rw [hg c h1 (by omega)]
      exact nI_add 48 _
    obtain ⟨m', a2, a3, a1⟩ := ih (c + 1) (by omega) (by omega) m1 e2 (fun d d1 d4 => by rw [e3 70 (by decide)]; exact hg d d1 d4)
    refine ⟨m', a2, e3.tr a3, fun K fu hfu => ?_⟩
    obtain ⟨fu, rfl⟩ : ∃ n', fu = n' + 1 := ⟨fu - 1, by omega⟩
    have st : ∀ nx, f_L_put_b317 L xsc x2 x5 (nI f) nx K (nI (3 + 6 * f + c), nI c, m) = nx (nI (3 + 6 * f + (c + 1)), nI (c + 1), m1) := fun nx => by
      unfold f_L_put_b317
      dsimp only
      rw [if_neg hge, ei, if_pos b1, b2, ev, e1, bnd_some, if_pos rfl, nI_1, nI_1, Nat.add_assoc]
    rw [lpk_s, st]
    exact a1 K fu (by omega)
/-- fish f's five numbers in g -/
def GF (m : Mem) (F : FdT) (f : Nat) : Prop := ∀ d, d < 5 → m 70 0 (3 + 5 * d + f) = nI (F (3 + d) f)
/-- g and the text, with f fish done -/
def PI (m : Mem) (Sh : ShT) (F0 F : FdT) (f : Nat) : Prop := PS m Sh F0 F (2 + 6 * f) ∧ m 70 0 0 = nI (F 1 0) ∧ m 70 0 1 = nI (F 0 0) ∧ m 70 0 2 = nI (F 2 0) ∧ ∀ x, x < f → GF m F x
theorem fish_l {m : Mem} {Sh : ShT} {F0 : FdT} {f : Nat} (hL : L ≤ 260) (hP : PI m Sh F0 (lawF L xsc) f) (hf : f < lawF L xsc 0 0) :
    ∃ m', PI m' Sh F0 (lawF L xsc) (f + 1) ∧ ∀ nx K, f_L_put_b103 L xsc (nI 0) (cellS L xsc 0) nx K (nI (2 + 6 * f), nI f, m) = nx (nI (2 + 6 * (f + 1)), nI (f + 1), m') := by
  obtain ⟨hW, hn1⟩ := lawF_WF L xsc
  have hn := hW.1
  obtain ⟨w1, w2, w3, w4, w5, w6⟩ := hW.2.2.2 f hf
  obtain ⟨h1, h2, h3, h4, h5⟩ := hP
  obtain ⟨-, ⟨y3, y4⟩, -⟩ := x28
  obtain ⟨a3, c3⟩ := gx 3 (d := 3) rfl (f := f) (by omega)
  obtain ⟨a8, c8⟩ := gx 8 (d := 8) rfl (f := f) (by omega)
  obtain ⟨a13, c13⟩ := gx 13 (d := 13) rfl (f := f) (by omega)
  obtain ⟨a18, c18⟩ := gx 18 (d := 18) rfl (f := f) (by omega)
  obtain ⟨a23, c23⟩ := gx 23 (d := 23) rfl (f := f) (by omega)
  have hge : ¬ m 70 0 1 ≤ nI f := by rw [h3]; exact nI_ge hf (by omega)
  have er : nI f - nI f / 3 * 3 = nI (f % 3) := pk_rem (a := f) (d := 3) (by omega) (by decide) (by decide)
  have ed : nI f / 3 = nI (f / 3) := pk_div (a := f) (d := 3) (by omega) (by decide) (by decide)
  have ec : nI 0 + (1 : Int32) + nI (f % 3) = nI (1 + f % 3) := by
    rw [show nI 0 + (1 : Int32) = nI 1 from by decide, nI_add]
  have s4 : ∀ m, f_L_some L xsc (lyS L xsc f) 4 m = some (nI (someS (lyS L xsc f) 4), m) := fun m => some_l (n := 4) _ (by decide) (by decide) m
  have s2 : ∀ m, f_L_some L xsc (cellS L xsc 0 >>> ((8 : Int32) &&& 31)) 2 m = some (nI (someS (cellS L xsc 0 >>> ((8 : Int32) &&& 31)) 2), m) := fun m => some_l (n := 2) _ (by decide) (by decide) m
  have l4 := someS_lt (lyS L xsc f) (n := 4) (by decide)
  have l2 := someS_lt (cellS L xsc 0 >>> ((8 : Int32) &&& 31)) (n := 2) (by decide)
  -- the five numbers, then the text
  let m1 := mset (mset (mset (mset (mset m 70 0 (3 + f) (nI (lawF L xsc 3 f))) 70 0 (8 + f) (nI (lawF L xsc 4 f))) 70 0 (13 + f) (nI (lawF L xsc 5 f))) 70 0 (18 + f) (nI (lawF L xsc 6 f))) 70 0 (23 + f) (nI (lawF L xsc 7 f))
  have hPS1 : PS m1 Sh F0 (lawF L xsc) (2 + 6 * f) := PS_g (PS_g (PS_g (PS_g (PS_g h1))))
  have hGF : GF m1 (lawF L xsc) f := fun d hd => by
    have : d = 0 ∨ d = 1 ∨ d = 2 ∨ d = 3 ∨ d = 4 := by omega
    rcases this with rfl | rfl | rfl | rfl | rfl
    · simp [m1, mset]
    · simp [m1, mset]
    · simp [m1, mset]
    · simp [m1, mset]
    · simp [m1, mset]
  have hold : ∀ j, j < 28 → (∀ d, d < 5 → j ≠ 3 + 5 * d + f) → m1 70 0 j = m 70 0 j := fun j hj hne => by
    have n0 : ¬ j = 3 + f := fun q => hne 0 (by decide) (by omega)
    have n1 : ¬ j = 8 + f := fun q => hne 1 (by decide) (by omega)
    have n2 : ¬ j = 13 + f := fun q => hne 2 (by decide) (by omega)
    have n3 : ¬ j = 18 + f := fun q => hne 3 (by decide) (by omega)
    have n4 : ¬ j = 23 + f := fun q => hne 4 (by decide) (by omega)
    simp [m1, mset, n0, n1, n2, n3, n4]
  obtain ⟨m2, p1, p2, p3⟩ := put_s (v := 59) hPS1 (by omega) (rowN_s _ f) (by decide)
  have p2' : PS m2 Sh F0 (lawF L xsc) (3 + 6 * f) := by rw [show 3 + 6 * f = 2 + 6 * f + 1 by omega]; exact p2
  have hl8 : letC (lawF L xsc 3 f) < 128 := by unfold letC; split <;> (try split) <;> omega
  obtain ⟨m3, q1, q2, q3⟩ := put_s (v := letC (lawF L xsc 3 f)) p2' (by omega) (rowN_k _ f) hl8
  have hg3 : ∀ d, 1 ≤ d → d < 5 → m3 70 0 (3 + 5 * d + f) = nI (lawF L xsc (3 + d) f) := fun d _ d5 => by rw [q3 70 (by decide), p3 70 (by decide)]; exact hGF d d5
  have hd9 : ∀ c, 1 ≤ c → c < 5 → lawF L xsc (3 + c) f ≤ 9 := fun c c1 c5 => by
    have : c = 1 ∨ c = 2 ∨ c = 3 ∨ c = 4 := by omega
    rcases this with rfl | rfl | rfl | rfl
    · exact w3
    · have := someS_lt (lyS L xsc f >>> ((3 : Int32) &&& 31)) (n := 10) (by decide)
      show lawF L xsc 5 f ≤ 9
      simp [lawF]; omega
    · show lawF L xsc 6 f ≤ 9; omega
    · show lawF L xsc 7 f ≤ 9; omega
  obtain ⟨m4, r2, r3, r1⟩ := dig_l (L := L) (xsc := xsc) (x2 := nI 0) (x5 := cellS L xsc 0) (show f < 5 by omega) hd9 4 1 (by omega) (by omega) m3 q2 hg3
  have h28 : ∀ j, m4 70 0 j = m1 70 0 j := fun j => by rw [r3 70 (by decide), q3 70 (by decide), p3 70 (by decide)]
  refine ⟨m4, ⟨by rw [show 2 + 6 * (f + 1) = 8 + 6 * f by omega]; exact r2, ?_, ?_, ?_, fun x hx d hd => ?_⟩, fun nx K => ?_⟩
  · rw [h28, hold 0 (by decide) (fun d hd => by omega)]; exact h2
  · rw [h28, hold 1 (by decide) (fun d hd => by omega)]; exact h3
  · rw [h28, hold 2 (by decide) (fun d hd => by omega)]; exact h4
  · rw [h28]
    by_cases e : x = f
    · subst e; exact hGF d hd
    · rw [hold _ (by omega) (fun d' hd' => by omega)]; exact h5 x (by omega) d hd
  -- the digits, from the letter on
  have k1 : ∀ nx : Int32 × Int32 × Mem → Option (Int32 × Mem), f_L_put_j304 L xsc nx K (nI (letC (lawF L xsc 3 f))) (nI (2 + 6 * f) + (1 : Int32)) 0 (nI 0) (cellS L xsc 0) ((nI (2 + 6 * f) + (1 : Int32)) + (1 : Int32)) (nI f) m2 = nx (nI (2 + 6 * (f + 1)), nI (f + 1), m4) := fun nx => by
    unfold f_L_put_j304
    rw [nI_1, nI_1, show 2 + 6 * f + 1 = 3 + 6 * f by omega, q1, bnd_some, if_pos rfl]
    rw [show (nI (3 + 6 * f + 1), (1 : Int32), m3) = (nI (3 + 6 * f + 1), nI 1, m3) from rfl, r1 _ fuelN (by decide)]
    dsimp only
    rw [nI_1, show 8 + 6 * f = 2 + 6 * (f + 1) by omega]
  have eK : m2 70 0 (3 + f) = nI (lawF L xsc 3 f) := by rw [p3 70 (by decide)]; exact hGF 0 (by decide)
  have z0 : (m2 70 0 (3 + f) = 0) ↔ lawF L xsc 3 f = 0 := by rw [eK]; exact nI_z (by omega)
  have z1 : (m2 70 0 (3 + f) = 1) ↔ lawF L xsc 3 f = 1 := by rw [eK]; exact nI_eq (b := 1) (by omega) (by decide)
  have s10 : ∀ m, f_L_some L xsc (lyS L xsc f >>> ((3 : Int32) &&& 31)) 10 m = some (nI (lawF L xsc 5 f), m) := fun m => some_l (n := 10) _ (by decide) (by decide) m
  have s7 : ∀ m, f_L_some L xsc (lyS L xsc f >>> ((5 : Int32) &&& 31)) 7 m = some (nI (lawF L xsc 6 f), m) := fun m => some_l (n := 7) _ (by decide) (by decide) m
  have s6 : ∀ m, f_L_some L xsc (lyS L xsc f >>> ((6 : Int32) &&& 31)) 6 m = some (nI (lawF L xsc 7 f), m) := fun m => some_l (n := 6) _ (by decide) (by decide) m
  have k2 : ∀ (s0 : Int32) (nx : Int32 × Int32 × Mem → Option (Int32 × Mem)), (∀ m, f_L_some L xsc (lyS L xsc f >>> ((1 : Int32) &&& 31)) s0 m = some (nI (lawF L xsc 4 f - 1), m)) →
      f_L_put_j191 L xsc nx K s0 (lyS L xsc f >>> ((1 : Int32) &&& 31)) (1 : Int32) ((8 : Int32) + nI f) (nI 0) (cellS L xsc 0) (nI (2 + 6 * f)) (nI f) (lyS L xsc f) (mset m 70 0 (3 + f) (nI (lawF L xsc 3 f))) = nx (nI (2 + 6 * (f + 1)), nI (f + 1), m4) := fun s0 nx hs => by
    have e4 : (1 : Int32) + nI (lawF L xsc 4 f - 1) = nI (lawF L xsc 4 f) := by
      rw [show (1 : Int32) + nI (lawF L xsc 4 f - 1) = nI (1 + (lawF L xsc 4 f - 1)) from nI_add 1 _, show 1 + (lawF L xsc 4 f - 1) = lawF L xsc 4 f by omega]
    unfold f_L_put_j191
    rw [hs, bnd_some, if_pos a8, c8, e4, s10, bnd_some, if_pos a13, c13, s7, bnd_some, if_pos a18, c18, s6, bnd_some, if_pos a23, c23]
    have p1' : f_X6_put 0 (nI (2 + 6 * f)) 59 m1 = some (1, m2) := p1
    rw [show (mset (mset (mset (mset (mset m 70 0 (3 + f) (nI (lawF L xsc 3 f))) 70 0 (8 + f) (nI (lawF L xsc 4 f))) 70 0 (13 + f) (nI (lawF L xsc 5 f))) 70 0 (18 + f) (nI (lawF L xsc 6 f))) 70 0 (23 + f) (nI (lawF L xsc 7 f))) = m1 from rfl, p1', bnd_some, if_pos rfl, if_pos a3, c3]
    by_cases t0 : lawF L xsc 3 f = 0
    · rw [if_pos (z0.mpr t0)]
      have : nI (letC (lawF L xsc 3 f)) = 102 := by unfold letC; rw [if_pos t0]; rfl
      rw [← this, k1]
    rw [if_neg (fun q => t0 (z0.mp q)), if_pos a3]
    by_cases t1 : lawF L xsc 3 f = 1
    · rw [if_pos (z1.mpr t1)]
      have : nI (letC (lawF L xsc 3 f)) = 101 := by unfold letC; rw [if_neg t0, if_pos t1]; rfl
      rw [← this, k1]
    · rw [if_neg (fun q => t1 (z1.mp q))]
      have : nI (letC (lawF L xsc 3 f)) = 112 := by unfold letC; rw [if_neg t0, if_neg t1]; rfl
      rw [← this, k1]
  have k3 : ∀ (nx : Int32 × Int32 × Mem → Option (Int32 × Mem)), f_L_put_j160 L xsc nx K (nI (lawF L xsc 3 f)) ((3 : Int32) + nI f) (nI 0) (cellS L xsc 0) (nI (2 + 6 * f)) (nI f) (lyS L xsc f) m = nx (nI (2 + 6 * (f + 1)), nI (f + 1), m4) := fun nx => by
    unfold f_L_put_j160
    rw [if_pos a3, c3, s2, bnd_some]
    by_cases t : someS (cellS L xsc 0 >>> ((8 : Int32) &&& 31)) 2 = 0
    · rw [if_pos ((nI_z (by omega)).mpr t)]
      refine k2 9 nx (fun m => ?_)
      have := some_l (L := L) (xsc := xsc) (n := 9) (lyS L xsc f >>> ((1 : Int32) &&& 31)) (by decide) (by decide) m
      refine Eq.trans this ?_
      simp [lawF, t]
    · rw [if_neg (fun q => t ((nI_z (by omega)).mp q))]
      refine k2 4 nx (fun m => ?_)
      have := some_l (L := L) (xsc := xsc) (n := 4) (lyS L xsc f >>> ((1 : Int32) &&& 31)) (by decide) (by decide) m
      refine Eq.trans this ?_
      simp [lawF, t]
  unfold f_L_put_b103
  dsimp only
  rw [if_pos y3, y4, if_neg hge, if_pos (by decide), er]
  unfold dv
  dsimp only
  rw [ec, cell_l hL (by omega), bnd_some, if_pos (by decide), ed]
  rw [show cellS L xsc (1 + f % 3) >>> ((nI (f / 3) * (9 : Int32)) &&& 31) = lyS L xsc f from rfl, s4, bnd_some]
  by_cases t3 : someS (lyS L xsc f) 4 = 3
  · rw [if_pos (show nI (someS (lyS L xsc f) 4) = 3 from by rw [t3]; rfl)]
    have : nI (lawF L xsc 3 f) = 1 := by simp [lawF, t3]; rfl
    rw [← this]
    exact k3 nx
  · have t3' : ¬ nI (someS (lyS L xsc f) 4) = (3 : Int32) := fun q => t3 ((nI_eq (b := 3) (by omega) (by decide)).mp q)
    rw [if_neg t3', s4, bnd_some]
    have : lawF L xsc 3 f = someS (lyS L xsc f) 4 := by simp [lawF, t3]
    rw [← this]
    exact k3 nx
theorem fishes_l {Sh : ShT} {F0 : FdT} (hL : L ≤ 260) (K : Int32 × Mem → Option (Int32 × Mem)) : ∀ t f, f + t = lawF L xsc 0 0 → ∀ m fu, t < fu → PI m Sh F0 (lawF L xsc) f →
    ∃ m', lpk (f_L_put_b103 L xsc (nI 0) (cellS L xsc 0)) fu (nI (2 + 6 * f), nI f, m) K = K (nI (2 + 6 * lawF L xsc 0 0), m') ∧ PI m' Sh F0 (lawF L xsc) (lawF L xsc 0 0) := by
  have hn := (lawF_WF L xsc).1.1
  intro t
  induction t with
  | zero =>
    intro f hf m fu hfu hP
    obtain ⟨fu, rfl⟩ : ∃ n', fu = n' + 1 := ⟨fu - 1, by omega⟩
    have e : f = lawF L xsc 0 0 := by omega
    rw [e] at hP ⊢
    obtain ⟨-, ⟨y3, y4⟩, -⟩ := x28
    have hge : m 70 0 1 ≤ nI (lawF L xsc 0 0) := by rw [hP.2.2.1]; exact nI_le (Nat.le_refl _) (by omega)
    refine ⟨m, ?_, hP⟩
    rw [lpk_s]
    unfold f_L_put_b103
    dsimp only
    rw [if_pos y3, y4, if_pos hge]
  | succ t ih =>
    intro f hf m fu hfu hP
    obtain ⟨fu, rfl⟩ : ∃ n', fu = n' + 1 := ⟨fu - 1, by omega⟩
    obtain ⟨m1, h1, st⟩ := fish_l hL hP (by omega)
    obtain ⟨m', a1, a2⟩ := ih (f + 1) (by omega) m1 fu (by omega) h1
    exact ⟨m', by rw [lpk_s, st]; exact a1, a2⟩
theorem put_l {m : Mem} {Sh : ShT} {F0 : FdT} (hL : L ≤ 260) (h : CI m Sh F0) : ∃ m', f_L_put L xsc 0 5 m = some (nI (2 + 6 * lawF L xsc 0 0), m') ∧ PI m' Sh F0 (lawF L xsc) (lawF L xsc 0 0) := by
  obtain ⟨hW, hn1⟩ := lawF_WF L xsc
  obtain ⟨⟨y1, y2⟩, ⟨y3, y4⟩, y5, y6⟩ := x28
  have hc : f_L_cell L xsc 0 m = some (cellS L xsc 0, m) := cell_l (k := 0) hL (by decide) m
  have s2 : ∀ m, f_L_some L xsc (cellS L xsc 0 >>> ((7 : Int32) &&& 31)) 2 m = some (nI (someS (cellS L xsc 0 >>> ((7 : Int32) &&& 31)) 2), m) := fun m => some_l (n := 2) _ (by decide) (by decide) m
  have l2 := someS_lt (cellS L xsc 0 >>> ((7 : Int32) &&& 31)) (n := 2) (by decide)
  have s5 : ∀ m, f_L_some L xsc (cellS L xsc 0 >>> ((3 : Int32) &&& 31)) 5 m = some (nI (lawF L xsc 0 0 - 1), m) := fun m => by
    have e : lawF L xsc 0 0 - 1 = someS (cellS L xsc 0 >>> ((3 : Int32) &&& 31)) 5 := by simp [lawF]
    rw [e]
    exact some_l (n := 5) _ (by decide) (by decide) m
  have e1 : (1 : Int32) + nI (lawF L xsc 0 0 - 1) = nI (lawF L xsc 0 0) := by
    rw [show (1 : Int32) + nI (lawF L xsc 0 0 - 1) = nI (1 + (lawF L xsc 0 0 - 1)) from nI_add 1 _, show 1 + (lawF L xsc 0 0 - 1) = lawF L xsc 0 0 by omega]
  have h1 : CI (mset (mset (mset m 70 0 0 (nI (lawF L xsc 1 0))) 70 0 1 (nI (lawF L xsc 0 0))) 70 0 2 0) Sh F0 := CI_cong (fun t ht => by rw [mset_ne (by omega), mset_ne (by omega), mset_ne (by omega)]) h
  obtain ⟨m2, a1, a2, a3⟩ := c_sheet (k := 0) (len := 60) h1 (by decide) (by decide)
  have a1 : f_X6_sheet 0 0 60 (mset (mset (mset m 70 0 0 (nI (lawF L xsc 1 0))) 70 0 1 (nI (lawF L xsc 0 0))) 70 0 2 0) = some (1, m2) := a1
  have hP0 : PS m2 Sh F0 (lawF L xsc) 0 := ⟨_, a2, fun j hj => by omega⟩
  obtain ⟨m3, b1, b2, b3⟩ := put_s (v := 104) hP0 (by decide) (rowN_0 _) (by decide)
  have b1 : f_X6_put 0 0 104 m2 = some (1, m3) := b1
  have hd := hW.2.1
  obtain ⟨m4, c1, c2, c3⟩ := put_s (v := 48 + lawF L xsc 1 0) b2 (by decide) (rowN_1 _) (by omega)
  have g0 : ∀ j, m4 70 0 j = mset (mset (mset m 70 0 0 (nI (lawF L xsc 1 0))) 70 0 1 (nI (lawF L xsc 0 0))) 70 0 2 0 70 0 j := fun j => by rw [c3 70 (by decide), b3 70 (by decide), a3 70 (by decide)]
  have g3 : m3 70 0 0 = nI (lawF L xsc 1 0) := by rw [b3 70 (by decide), a3 70 (by decide)]; simp [mset]
  have ev : (48 : Int32) + nI (lawF L xsc 1 0) = nI (48 + lawF L xsc 1 0) := nI_add 48 _
  have c1 : f_X6_put 0 1 (nI (48 + lawF L xsc 1 0)) m3 = some (1, m4) := c1
  have hP4 : PI m4 Sh F0 (lawF L xsc) 0 := ⟨c2, by rw [g0]; simp [mset], by rw [g0]; simp [mset], by rw [g0]; simp [mset, lawF, nI_0], fun x hx => by omega⟩
  obtain ⟨m', d1, d2⟩ := fishes_l hL (fun t103 => some (t103.1, t103.2)) (lawF L xsc 0 0) 0 (by omega) m4 fuelN (by have := hW.1; unfold fuelN; omega) hP4
  refine ⟨m', ?_, d2⟩
  have key : ∀ s0, (∀ m, f_L_some L xsc (cellS L xsc 0) s0 m = some (nI (lawF L xsc 1 0), m)) → f_L_put_j30 L xsc s0 (cellS L xsc 0) 0 0 5 (cellS L xsc 0) m = some (nI (2 + 6 * lawF L xsc 0 0), m') := fun s0 hs => by
    unfold f_L_put_j30
    rw [hs, bnd_some, if_pos y1, y2, s5, bnd_some, if_pos y3, if_pos y5, y4, y6, e1, a1, bnd_some, if_pos rfl, b1, bnd_some, if_pos rfl, if_pos y1, g3, ev, c1, bnd_some, if_pos rfl]
    exact d1
  unfold f_L_put
  rw [hc, bnd_some, s2, bnd_some]
  by_cases t : someS (cellS L xsc 0 >>> ((7 : Int32) &&& 31)) 2 = 0
  · rw [if_pos ((nI_z (by omega)).mpr t)]
    refine key 10 (fun m => ?_)
    have := some_l (L := L) (xsc := xsc) (n := 10) (cellS L xsc 0) (by decide) (by decide) m
    refine Eq.trans this ?_
    simp [lawF, t]
  · rw [if_neg (fun q => t ((nI_z (by omega)).mp q))]
    refine key 3 (fun m => ?_)
    have := some_l (L := L) (xsc := xsc) (n := 3) (cellS L xsc 0) (by decide) (by decide) m
    refine Eq.trans this ?_
    simp [lawF, t]
/-! the text is a ford's, and it is this ford -/
theorem dg_nI {v : Nat} (h : v < 1000) : dg (nI (48 + v)) = v := by
  unfold dg
  rw [show nI (48 + v) - 48 = nI (48 + v - 48) from pk_sub (b := 48) (by omega), ix_nI (by omega)]
  omega
theorem dgB_nI {l h v : Nat} (hl : l ≤ v) (hh : v ≤ h) (h9 : h ≤ 9) : dgB (nI l) (nI h) (nI (48 + v)) = true := by
  unfold dgB
  rw [show (48 : Int32) + nI l = nI (48 + l) from nI_add 48 l, show (48 : Int32) + nI h = nI (48 + h) from nI_add 48 h, if_neg (nI_nlt (by omega) (by omega)), if_neg (nI_nlt (by omega) (by omega))]
theorem okto_row {F : FdT} (hW : WF F) (h5 : ∀ f, f < F 0 0 → F 5 f ≤ 9) {c : Nat → Int32} (hc : ∀ j, j < 2 + 6 * F 0 0 → c j = nI (rowN F j)) : Okto c 0 (2 + 6 * F 0 0) := by
  have hn := hW.1
  intro j hj
  rw [Nat.zero_add, hc j hj]
  by_cases j0 : j = 0
  · subst j0
    show fitc 0 (nI 104) = true
    decide
  by_cases j1 : j = 1
  · subst j1
    exact dgB_nI (l := 0) (h := 9) (by omega) hW.2.1 (by decide)
  obtain ⟨f, r, hr, rfl⟩ : ∃ f r, r < 6 ∧ j = 2 + 6 * f + r := ⟨(j - 2) / 6, (j - 2) % 6, Nat.mod_lt _ (by decide), by omega⟩
  have hf : f < F 0 0 := by omega
  obtain ⟨w1, w2, w3, w4, w5, w6⟩ := hW.2.2.2 f hf
  have q5 := h5 f hf
  unfold fitc
  rw [if_neg (by omega), if_neg (by omega), if_neg (by omega)]
  have : r = 0 ∨ r = 1 ∨ r = 2 ∨ r = 3 ∨ r = 4 ∨ r = 5 := by omega
  rcases this with rfl | rfl | rfl | rfl | rfl | rfl
  · rw [if_pos (by omega), Nat.add_zero, rowN_s]; decide
  · rw [if_neg (by omega), if_pos (by omega), show 2 + 6 * f + 1 = 3 + 6 * f by omega, rowN_k]
    unfold letC
    split
    · decide
    · split <;> decide
  · rw [if_neg (by omega), if_neg (by omega), if_pos (by omega), show 2 + 6 * f + 2 = 3 + 6 * f + 1 by omega, rowN_d F f (by decide) (by decide)]
    exact dgB_nI (l := 1) (h := 9) w2 w3 (by decide)
  · rw [if_neg (by omega), if_neg (by omega), if_neg (by omega), if_pos (by omega), show 2 + 6 * f + 3 = 3 + 6 * f + 2 by omega, rowN_d F f (by decide) (by decide)]
    exact dgB_nI (l := 0) (h := 9) (by omega) q5 (by decide)
  · rw [if_neg (by omega), if_neg (by omega), if_neg (by omega), if_neg (by omega), if_pos (by omega), show 2 + 6 * f + 4 = 3 + 6 * f + 3 by omega, rowN_d F f (by decide) (by decide)]
    exact dgB_nI (l := 0) (h := 6) (by omega) w5 (by decide)
  · rw [if_neg (by omega), if_neg (by omega), if_neg (by omega), if_neg (by omega), if_neg (by omega), show 2 + 6 * f + 5 = 3 + 6 * f + 4 by omega, rowN_d F f (by decide) (by decide)]
    exact dgB_nI (l := 0) (h := 5) (by omega) w6 (by decide)
/-- the ford of the text is F, where it counts -/
theorem TC_row {m : Mem} {F : FdT} (hW : WF F) (hn1 : 1 ≤ F 0 0) (h2 : F 2 0 = 0) (h5 : ∀ f, f < F 0 0 → F 5 f ≤ 9) {c : Nat → Int32} (hc : ∀ j, j < 2 + 6 * F 0 0 → c j = nI (rowN F j)) (h : TC m (fordF c 0 (F 0 0))) : TC m F := by
  have hn := hW.1
  obtain ⟨t0, t1, t2, t3⟩ := h
  have hd := hW.2.1
  refine ⟨t0, ?_, ?_, fun f hf => ?_⟩
  · have e : fordF c 0 (F 0 0) 1 0 = F 1 0 := by
      simp only [fordF, if_neg (show ¬ 1 = 0 by decide), if_true, Nat.zero_add]
      rw [hc 1 (by omega), rowN_1]
      exact dg_nI (by omega)
    rw [t1, e]
  · rw [t2, h2]; rfl
  · obtain ⟨w1, w2, w3, w4, w5, w6⟩ := hW.2.2.2 f hf
    obtain ⟨s0, s1, s2, s3, s4⟩ := t3 f hf
    have q5 := h5 f hf
    have dv : ∀ d, 1 ≤ d → d < 5 → F (3 + d) f ≤ 9 → dg (c (3 + 6 * f + d)) = F (3 + d) f := fun d d1 d5 hd9 => by
      rw [hc _ (by omega), rowN_d F f d1 d5]
      exact dg_nI (by omega)
    have e0 : fordF c 0 (F 0 0) 3 f = F 3 f := by
      simp only [fordF, if_neg (show ¬ 3 = 0 by decide), if_neg (show ¬ 3 = 1 by decide), if_neg (show ¬ 3 = 2 by decide), if_true, Nat.zero_add]
      rw [hc _ (by omega), rowN_k]
      have : F 3 f = 0 ∨ F 3 f = 1 ∨ F 3 f = 2 := by omega
      rcases this with e | e | e <;> rw [e] <;> decide
    have e1 : fordF c 0 (F 0 0) 4 f = F 4 f := by
      have := dv 1 (by decide) (by decide) w3
      rw [show 3 + 6 * f + 1 = 0 + (4 + 6 * f) by omega] at this
      simpa [fordF] using this
    have e2 : fordF c 0 (F 0 0) 5 f = F 5 f := by
      have := dv 2 (by decide) (by decide) q5
      rw [show 3 + 6 * f + 2 = 0 + (5 + 6 * f) by omega] at this
      simpa [fordF] using this
    have e3 : fordF c 0 (F 0 0) 6 f = F 6 f := by
      have := dv 3 (by decide) (by decide) (by show F 6 f ≤ 9; omega)
      rw [show 3 + 6 * f + 3 = 0 + (6 + 6 * f) by omega] at this
      simpa [fordF] using this
    have e4 : fordF c 0 (F 0 0) 7 f = F 7 f := by
      have := dv 4 (by decide) (by decide) (by show F 7 f ≤ 9; omega)
      rw [show 3 + 6 * f + 4 = 0 + (7 + 6 * f) by omega] at this
      simpa [fordF] using this
    exact ⟨by rw [s0, e0], by rw [s1, e1], by rw [s2, e2], by rw [s3, e3], by rw [s4, e4]⟩
end LPUT
