/-! ===== the law's first piece; what it changes between turns ===== -/
section LA
variable {L : Nat} {xsc : Nat → Int32}
theorem PI_GI {m : Mem} {Sh : ShT} {F0 F : FdT} (h : PI m Sh F0 F (F 0 0)) : GI m F := by
  obtain ⟨-, h2, h3, h4, h5⟩ := h
  refine ⟨h2, h3, h4, fun f hf => ?_⟩
  have := h5 f hf
  exact ⟨this 0 (by decide), this 1 (by decide), this 2 (by decide), this 3 (by decide), this 4 (by decide)⟩
theorem lawA_l {m : Mem} {Sh : ShT} {F0 : FdT} (hL : L ≤ 260) (h : CI m Sh F0) : ∃ c m', f_L_lawA L xsc m = some ((nI (2 + 6 * lawF L xsc 0 0), nI (lawF L xsc 0 0)), m') ∧ CI m' (upS_ Sh 0 (some (0, 60, c))) (lawF L xsc) ∧ GI m' (lawF L xsc) := by
  obtain ⟨hW, hn1⟩ := lawF_WF L xsc
  have hn := hW.1
  obtain ⟨⟨y1, y2⟩, ⟨y3, y4⟩, -⟩ := x28
  obtain ⟨m1, e1, e2⟩ := put_l (L := L) (xsc := xsc) hL h
  have hG := PI_GI e2
  obtain ⟨⟨c, c1, c2⟩, -⟩ := e2
  have h5 : ∀ f, f < lawF L xsc 0 0 → lawF L xsc 5 f ≤ 9 := fun f _ => by
    have := someS_lt (lyS L xsc f >>> ((3 : Int32) &&& 31)) (n := 10) (by decide)
    simp [lawF]; omega
  obtain ⟨m2, f1, f2, f3⟩ := c_ford c1 upS_at (by decide) (show 2 + 6 * lawF L xsc 0 0 ≤ 60 by omega) hn hn1 (okto_row hW h5 c2)
  have f2 : CI m2 (upS_ Sh 0 (some (0, 60, c))) (lawF L xsc) := ⟨f2.1, TC_row hW hn1 (by simp [lawF]) h5 c2 f2.2⟩
  have hG2 : GI m2 (lawF L xsc) := GI_cong (f3 70 (by decide)) hG
  refine ⟨c, m2, ?_, f2, hG2⟩
  have e8 : ¬ nI (2 + 6 * lawF L xsc 0 0) < 8 := nI_nlt (b := 8) (by omega) (by omega)
  unfold f_L_lawA
  rw [e1, bnd_some, if_pos y3, if_neg e8, f1, bnd_some, y4, hG.2.1, if_pos rfl, c_many1 f2, bnd_some, if_pos y1, y2, hG2.1, if_pos rfl]
theorem WF_5 {F : FdT} (h : WF F) {f v : Nat} (hv : v ≤ 99) : WF (fset F 5 f v) := ⟨h.1, h.2.1, h.2.2.1, fun x hx => by
  obtain ⟨p1, p2, p3, p4, p5, p6⟩ := h.2.2.2 x hx
  refine ⟨p1, p2, p3, ?_, p5, p6⟩
  by_cases e : x = f
  · simp [fset, e, hv]
  · simpa [fset, e] using p4⟩
theorem WF_1 {F : FdT} (h : WF F) {v : Nat} (hv : v ≤ 9) : WF (fset F 1 0 v) := ⟨h.1, by simpa [fset] using hv, h.2.2.1, fun x hx => h.2.2.2 x hx⟩
theorem WF_2 {F : FdT} (h : WF F) {v : Nat} (hv : v < 64) : WF (fset F 2 0 v) := ⟨h.1, h.2.1, by simpa [fset] using hv, fun x hx => h.2.2.2 x hx⟩
theorem GI_5 {m : Mem} {F : FdT} {f v : Nat} (hn : F 0 0 ≤ 5) (hf : f < F 0 0) (h : GI m F) : GI (mset m 70 0 (13 + f) (nI v)) (fset F 5 f v) := by
  obtain ⟨h1, h2, h3, h4⟩ := h
  have n0 : ¬ 0 = 13 + f := by omega
  have n1 : ¬ 1 = 13 + f := by omega
  have n2 : ¬ 2 = 13 + f := by omega
  refine ⟨by simpa [mset, fset, n0] using h1, by simpa [mset, fset, n1] using h2, by simpa [mset, fset, n2] using h3, fun x hx => ?_⟩
  have hx' : x < F 0 0 := hx
  obtain ⟨p1, p2, p3, p4, p5⟩ := h4 x hx'
  have a1 : ¬ 3 + x = 13 + f := by omega
  have a2 : ¬ 8 + x = 13 + f := by omega
  have a4 : ¬ 18 + x = 13 + f := by omega
  have a5 : ¬ 23 + x = 13 + f := by omega
  refine ⟨by simpa [mset, fset, a1] using p1, by simpa [mset, fset, a2] using p2, ?_, by simpa [mset, fset, a4] using p4, by simpa [mset, fset, a5] using p5⟩
  by_cases e : x = f
  · subst e; simp [mset, fset]
  · have a3 : ¬ 13 + x = 13 + f := by omega
    simpa [mset, fset, a3, e] using p3
theorem GI_2 {m : Mem} {F : FdT} {v : Nat} (h : GI m F) : GI (mset m 70 0 2 (nI v)) (fset F 2 0 v) := by
  obtain ⟨h1, h2, h3, h4⟩ := h
  refine ⟨by simpa [mset, fset] using h1, by simpa [mset, fset] using h2, by simp [mset, fset], fun x hx => ?_⟩
  have := h4 x hx
  have a1 : ¬ 3 + x = 2 := by omega
  have a2 : ¬ 8 + x = 2 := by omega
  have a3 : ¬ 13 + x = 2 := by omega
  have a4 : ¬ 18 + x = 2 := by omega
  have a5 : ¬ 23 + x = 2 := by omega
  simpa [mset, fset, a1, a2, a3, a4, a5] using this
theorem GI_1 {m : Mem} {F : FdT} {v : Nat} (h : GI m F) : GI (mset m 70 0 0 (nI v)) (fset F 1 0 v) := by
  obtain ⟨h1, h2, h3, h4⟩ := h
  refine ⟨by simp [mset, fset], by simpa [mset, fset] using h2, by simpa [mset, fset] using h3, fun x hx => ?_⟩
  have := h4 x hx
  have a1 : ¬ 3 + x = 0 := by omega
  have a2 : ¬ 8 + x = 0 := by omega
  have a3 : ¬ 13 + x = 0 := by omega
  have a4 : ¬ 18 + x = 0 := by omega
  have a5 : ¬ 23 + x = 0 := by omega
  simpa [mset, fset, a1, a2, a3, a4, a5] using this
/-- a ford's state, in the class and in g -/
def JI (m : Mem) (Sh : ShT) (F : FdT) : Prop := CI m Sh F ∧ GI m F ∧ WF F
theorem chg_l {m : Mem} {Sh : ShT} {F : FdT} {f v d h : Nat} {s0 s1 : Int32} (hJ : JI m Sh F) (hf : f < F 0 0) (hv : v ≤ 99) (hh : h < 64) (hd : d ≤ 9) (hs : ∀ m, f_L_some L xsc s1 s0 m = some (nI d, m)) :
    ∃ m', f_L_change_j81 L xsc s0 s1 (nI f) (nI v) (nI h) m = some (1, m') ∧ JI m' Sh (fset (fset (fset F 5 f v) 2 0 h) 1 0 d) := by
  obtain ⟨hC, hG, hW⟩ := hJ
  have hn := hW.1
  obtain ⟨⟨y1, y2⟩, ⟨y3, y4⟩, y5, y6⟩ := x28
  obtain ⟨a1, a2⟩ := gx 13 (d := 13) rfl (f := f) (by omega)
  obtain ⟨m1, e1, e2, e3⟩ := c_scales hC hf hn hv
  obtain ⟨m2, f1, f2, f3⟩ := c_hear (v := h) e2 (show 1 ≤ F 0 0 by omega) hn hh
  obtain ⟨m3, g1, g2, g3⟩ := c_dear (v := d) f2 (show 1 ≤ F 0 0 by omega) hn hd
  have G1 := GI_cong (e3 70 (by decide)) hG
  have G2 := GI_cong (f3 70 (by decide)) G1
  have G3 := GI_cong (g3 70 (by decide)) G2
  have q1 : m1 70 0 (13 + f) = nI (F 5 f) := (G1.2.2.2 f hf).2.2.1
  have q2 : m2 70 0 2 = nI (fset F 5 f v 2 0) := G2.2.2.1
  have q3 : m3 70 0 0 = nI (fset (fset F 5 f v) 2 0 h 1 0) := G3.1
  refine ⟨mset (mset (mset m3 70 0 (13 + f) (nI v)) 70 0 2 (nI h)) 70 0 0 (nI d), ?_, CI_cong (fun t ht => by rw [mset_ne (by omega), mset_ne (by omega), mset_ne (by omega)]) g2, GI_1 (GI_2 (GI_5 hn hf G3)), WF_1 (WF_2 (WF_5 hW hv) hh) hd⟩
  unfold f_L_change_j81
  rw [hs, bnd_some, e1, bnd_some, if_pos a1, a2, if_pos q1.symm, f1, bnd_some, if_pos y5, y6, if_pos q2.symm, g1, bnd_some, if_pos y1, y2, if_pos q3.symm, if_pos a1, if_pos y5, if_pos y1]
theorem change_l {m : Mem} {Sh : ShT} {F : FdT} (x1 : Int32) (hJ : JI m Sh F) (hn1 : 1 ≤ F 0 0) : ∃ F' m', f_L_change L xsc x1 m = some (1, m') ∧ JI m' Sh F' ∧ F' 0 0 = F 0 0 := by
  have hn := hJ.2.2.1
  obtain ⟨⟨y1, y2⟩, ⟨y3, y4⟩, y5, y6⟩ := x28
  have hf := someS_lt x1 (n := F 0 0) (by omega)
  have k1 : ∀ (v h : Nat), v ≤ 99 → h < 64 → ∃ F' m', f_L_change_j58 L xsc (nI h) x1 (nI (someS x1 (F 0 0))) (nI v) m = some (1, m') ∧ JI m' Sh F' ∧ F' 0 0 = F 0 0 := fun v h hv hh => by
    have s2 : ∀ m, f_L_some L xsc (x1 >>> ((13 : Int32) &&& 31)) 2 m = some (nI (someS (x1 >>> ((13 : Int32) &&& 31)) 2), m) := fun m => some_l (n := 2) _ (by decide) (by decide) m
    have l2 := someS_lt (x1 >>> ((13 : Int32) &&& 31)) (n := 2) (by decide)
    unfold f_L_change_j58
    rw [s2, bnd_some]
    by_cases t : someS (x1 >>> ((13 : Int32) &&& 31)) 2 = 0
    · rw [if_pos ((nI_z (by omega)).mpr t)]
      have l10 := someS_lt (x1 >>> ((9 : Int32) &&& 31)) (n := 10) (by decide)
      obtain ⟨m', a1, a2⟩ := chg_l (L := L) (xsc := xsc) (s0 := 10) (s1 := x1 >>> ((9 : Int32) &&& 31)) hJ hf hv hh (show someS (x1 >>> ((9 : Int32) &&& 31)) 10 ≤ 9 by omega) (fun m => some_l (n := 10) _ (by decide) (by decide) m)
      exact ⟨_, m', a1, a2, rfl⟩
    · rw [if_neg (fun q => t ((nI_z (by omega)).mp q))]
      have l3 := someS_lt (x1 >>> ((9 : Int32) &&& 31)) (n := 3) (by decide)
      obtain ⟨m', a1, a2⟩ := chg_l (L := L) (xsc := xsc) (s0 := 3) (s1 := x1 >>> ((9 : Int32) &&& 31)) hJ hf hv hh (show someS (x1 >>> ((9 : Int32) &&& 31)) 3 ≤ 9 by omega) (fun m => some_l (n := 3) _ (by decide) (by decide) m)
      exact ⟨_, m', a1, a2, rfl⟩
  have k2 : ∀ (s0 : Int32) (v : Nat), v ≤ 99 → (∀ m, f_L_some L xsc (x1 >>> ((2 : Int32) &&& 31)) s0 m = some (nI v, m)) → ∃ F' m', f_L_change_j29 L xsc s0 (x1 >>> ((2 : Int32) &&& 31)) x1 (nI (someS x1 (F 0 0))) m = some (1, m') ∧ JI m' Sh F' ∧ F' 0 0 = F 0 0 := fun s0 v hv hs => by
    have s2 : ∀ m, f_L_some L xsc (x1 >>> ((6 : Int32) &&& 31)) 2 m = some (nI (someS (x1 >>> ((6 : Int32) &&& 31)) 2), m) := fun m => some_l (n := 2) _ (by decide) (by decide) m
    have l2 := someS_lt (x1 >>> ((6 : Int32) &&& 31)) (n := 2) (by decide)
    have s64 : ∀ m, f_L_some L xsc (x1 >>> ((7 : Int32) &&& 31)) 64 m = some (nI (someS (x1 >>> ((7 : Int32) &&& 31)) 64), m) := fun m => some_l (n := 64) _ (by decide) (by decide) m
    have l64 := someS_lt (x1 >>> ((7 : Int32) &&& 31)) (n := 64) (by decide)
    unfold f_L_change_j29
    rw [hs, bnd_some, s2, bnd_some]
    by_cases t : someS (x1 >>> ((6 : Int32) &&& 31)) 2 = 0
    · rw [if_pos ((nI_z (by omega)).mpr t), s64, bnd_some]
      exact k1 v _ hv l64
    · rw [if_neg (fun q => t ((nI_z (by omega)).mp q))]
      exact k1 v 0 hv (by decide)
  have s3 : ∀ m, f_L_some L xsc (x1 >>> ((12 : Int32) &&& 31)) 3 m = some (nI (someS (x1 >>> ((12 : Int32) &&& 31)) 3), m) := fun m => some_l (n := 3) _ (by decide) (by decide) m
  have l3 := someS_lt (x1 >>> ((12 : Int32) &&& 31)) (n := 3) (by decide)
  unfold f_L_change
  rw [if_pos y3, y4, hJ.2.1.2.1, some_l x1 (by omega) (by omega), bnd_some, s3, bnd_some]
  by_cases t : someS (x1 >>> ((12 : Int32) &&& 31)) 3 = 0
  · rw [if_pos ((nI_z (by omega)).mpr t)]
    have l100 := someS_lt (x1 >>> ((2 : Int32) &&& 31)) (n := 100) (by decide)
    exact k2 100 (someS (x1 >>> ((2 : Int32) &&& 31)) 100) (by omega) (fun m => some_l (n := 100) _ (by decide) (by decide) m)
  · rw [if_neg (fun q => t ((nI_z (by omega)).mp q))]
    have l16 := someS_lt (x1 >>> ((2 : Int32) &&& 31)) (n := 16) (by decide)
    exact k2 16 (someS (x1 >>> ((2 : Int32) &&& 31)) 16) (by omega) (fun m => some_l (n := 16) _ (by decide) (by decide) m)
end LA
