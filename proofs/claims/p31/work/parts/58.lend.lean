/-! ===== the law's last calls ===== -/
section LEND
variable {m : Mem} {Sh : ShT} {F : FdT} {c : Nat → Int32}
theorem z_sheet (h : CI m Sh F) : ∃ m', f_X6_passes 4 0 2 0 0 m = some (-1, m') ∧ CI m' Sh F :=
  ⟨_, (pf_1 (y := 0) (by omega) 4 0 2 0 m).trans (pass_ref (ref_sheet 0 2 0 1 m) (by decide)), CI_ft h⟩
theorem z_lane (h : CI m Sh F) : ∃ m', f_X6_passes 1 3 2 0 0 m = some (-2, m') ∧ CI m' Sh F :=
  ⟨_, (pf_1 (y := 0) (by omega) 1 3 2 0 m).trans (pass_ref (ref_lane (k := 1) (by decide) 2 0 1 m) (by decide)), CI_ft h⟩
theorem z_n21 (h : CI m Sh F) : ∃ m', f_X6_passes 1 0 2 21 0 m = some (-2, m') ∧ CI m' Sh F :=
  ⟨_, (pf_1 (y := 0) (by omega) 1 0 2 21 m).trans (pass_ref (ref_n (k := 1) (la := 0) (by decide) (by decide) 2 1 m).1 (by decide)), CI_ft h⟩
theorem z_nm1 (h : CI m Sh F) : ∃ m', f_X6_passes 1 0 2 (-1) 0 m = some (-2, m') ∧ CI m' Sh F :=
  ⟨_, (pf_1 (y := 0) (by omega) 1 0 2 (-1) m).trans (pass_ref (ref_n (k := 1) (la := 0) (by decide) (by decide) 2 1 m).2 (by decide)), CI_ft h⟩
theorem z_w5 (h : CI m Sh F) : ∃ m', f_X6_passes 1 0 2 0 5 m = some (-2, m') ∧ CI m' Sh F :=
  ⟨_, (pf_0 1 0 2 0 m).1.trans (pass_ref (ref_what (k := 1) (la := 0) (q := 0) (by decide) (by decide) (by decide) 2 m) (by decide)), CI_ft h⟩
theorem z_w15 (h : CI m Sh F) : ∃ m', f_X6_passes 1 0 2 0 15 m = some (-2, m') ∧ CI m' Sh F :=
  ⟨_, (pf_0 1 0 2 0 m).2.trans (pass_ref (ref_what (k := 1) (la := 0) (q := 0) (by decide) (by decide) (by decide) 2 m) (by decide)), CI_ft h⟩
/-- a lane that sheet 1 hasn't -/
theorem z_cast (h : CI m Sh F) (h1 : Sh 1 = some (0, 44, c)) : f_X6_refusalOf 1 1 2 0 1 m = some (-12, mset m 0 0 6 2) := by
  have hS := (CI_ft (ft := 0) h).1 1 (by decide)
  rw [h1] at hS
  exact ref_fault (k := 1) (la := 1) (q := 0) (v := 2) (x3 := 2) (by decide) (by decide) (by decide) (by decide) (by decide) (fault_2 (la := 0) (lb := 1) 2 (nI (2 * 0)) hS (by decide) (by decide) (by decide))
theorem z_cast_p (h : CI m Sh F) (h1 : Sh 1 = some (0, 44, c)) : ∃ m', f_X6_passes 1 1 2 0 0 m = some (-12, m') ∧ CI m' Sh F :=
  ⟨_, (pf_1 (y := 0) (by omega) 1 1 2 0 m).trans (pass_ref (z_cast h h1) (by decide)), CI_ft h⟩
theorem z_null (h : CI m Sh F) (h2 : Sh 2 = none) : ∃ m', f_X6_passes 2 2 2 0 0 m = some (-11, m') ∧ CI m' Sh F := by
  have hS := (CI_ft (ft := 0) h).1 2 (by decide)
  rw [h2] at hS
  have e : f_X6_refusalOf 2 2 2 0 1 m = some (-11, mset m 0 0 6 1) := ref_fault (k := 2) (la := 2) (q := 0) (v := 1) (x3 := 2) (by decide) (by decide) (by decide) (by decide) (by decide) (fault_1 (nI 2) 2 (nI (2 * 0)) hS)
  exact ⟨_, (pf_1 (y := 0) (by omega) 2 2 2 0 m).trans (pass_ref e (by decide)), CI_ft h⟩
/-- cells that sheet 1 hasn't -/
theorem z_index (h : CI m Sh F) (h1 : Sh 1 = some (0, 44, c)) : f_X6_refusalOf 1 0 5 20 1 m = some (-13, mset m 0 0 6 3) := by
  have hS := (CI_ft (ft := 0) h).1 1 (by decide)
  rw [h1] at hS
  exact ref_fault (k := 1) (la := 0) (q := 20) (v := 3) (x3 := 5) (by decide) (by decide) (by decide) (by decide) (by decide) (fault_3 (a := 5) (n := 2 * 20) hS (by decide) (by decide) (by decide) (by decide))
theorem z_index_p (h : CI m Sh F) (h1 : Sh 1 = some (0, 44, c)) : ∃ m', f_X6_passes 1 0 5 20 0 m = some (-13, m') ∧ CI m' Sh F :=
  ⟨_, (pf_1 (y := 0) (by omega) 1 0 5 20 m).trans (pass_ref (z_index h h1) (by decide)), CI_ft h⟩
theorem row0 : Row F c 2 0 (fun _ => 0) (fun _ => 0) := fun p hp => absurd hp (Nat.not_lt_zero p)
theorem z_empty0 (h : CI m Sh F) (hW : WF F) (hn : 1 ≤ F 0 0) (h1 : Sh 1 = some (0, 44, c)) : ∃ m', f_X6_passes 1 0 2 0 0 m = some (0, m') ∧ CI m' Sh F := by
  obtain ⟨m', e1, e2, -⟩ := c_passes (k := 1) (la := 0) (a := 2) (q := 0) (y := 0) (by omega) h hW hn h1 (by decide) (by decide) (by decide) (by decide) (by decide) (row0 (F := F) (c := c))
  exact ⟨m', e1, e2⟩
theorem z_empty1 (h : CI m Sh F) (hW : WF F) (hn : 1 ≤ F 0 0) (h1 : Sh 1 = some (0, 44, c)) : ∃ m', f_X6_passes 1 0 2 0 1 m = some (-9, m') ∧ CI m' Sh F := by
  obtain ⟨m', e1, e2, -⟩ := c_passes1 (k := 1) (la := 0) (a := 2) (q := 0) h hW hn h1 (by decide) (by decide) (by decide) (by decide) (by decide) (row0 (F := F) (c := c))
  exact ⟨m', e1, e2⟩
theorem z_has0 (h : CI m Sh F) (hn : 1 ≤ F 0 0) (h5 : F 0 0 ≤ 5) : f_X5_has 0 m = some (1, m) := has_in (f := 0) (n := F 0 0) (by omega) (by omega) h.th.1
theorem z_hasn (h : CI m Sh F) (h5 : F 0 0 ≤ 5) : f_X5_has (nI (F 0 0)) m = some (0, m) := has_out (Nat.le_refl _) (by omega) h.th.1
theorem z_owes_n (h : CI m Sh F) (hn : 1 ≤ F 0 0) (h5 : F 0 0 ≤ 5) : ∃ m', f_X6_owes (nI (F 0 0)) 0 1 0 2 0 m = some (-1, m') ∧ CI m' Sh F := ⟨_, owes_unk (Or.inr ⟨z_has0 h hn h5, z_hasn h h5⟩), CI_ft h⟩
theorem z_owes_n' (h : CI m Sh F) (h5 : F 0 0 ≤ 5) : ∃ m', f_X6_owes 0 (nI (F 0 0)) 1 0 2 0 m = some (-1, m') ∧ CI m' Sh F := ⟨_, owes_unk (Or.inl (z_hasn h h5)), CI_ft h⟩
theorem z_owes_s (h : CI m Sh F) (hn : 1 ≤ F 0 0) (h5 : F 0 0 ≤ 5) : ∃ m', f_X6_owes 0 0 4 0 2 0 m = some (-1, m') ∧ CI m' Sh F := ⟨_, owes_ref (z_has0 h hn h5) (z_has0 h hn h5) (ref_sheet 0 2 0 1 m) (by decide), CI_ft h⟩
theorem z_owes_l (h : CI m Sh F) (hn : 1 ≤ F 0 0) (h5 : F 0 0 ≤ 5) : ∃ m', f_X6_owes 0 0 1 3 2 0 m = some (-2, m') ∧ CI m' Sh F := ⟨_, owes_ref (z_has0 h hn h5) (z_has0 h hn h5) (ref_lane (k := 1) (by decide) 2 0 1 m) (by decide), CI_ft h⟩
theorem z_toll_n (h : CI m Sh F) (h5 : F 0 0 ≤ 5) : ∃ m', f_X6_toll (nI (F 0 0)) 1 0 2 0 m = some (-1, m') ∧ CI m' Sh F := ⟨_, toll_unk (z_hasn h h5), CI_ft h⟩
theorem z_toll_c (h : CI m Sh F) (hn : 1 ≤ F 0 0) (h5 : F 0 0 ≤ 5) (h1 : Sh 1 = some (0, 44, c)) : ∃ m', f_X6_toll 0 1 1 2 0 m = some (-12, m') ∧ CI m' Sh F := ⟨_, toll_ref (z_has0 h hn h5) (z_cast h h1) (by decide), CI_ft h⟩
theorem z_toll_21 (h : CI m Sh F) (hn : 1 ≤ F 0 0) (h5 : F 0 0 ≤ 5) : ∃ m', f_X6_toll 0 1 0 2 21 m = some (-2, m') ∧ CI m' Sh F := ⟨_, toll_ref (z_has0 h hn h5) (ref_n (k := 1) (la := 0) (by decide) (by decide) 2 1 m).1 (by decide), CI_ft h⟩
theorem z_wants_n (h : CI m Sh F) (h5 : F 0 0 ≤ 5) : ∃ m', f_X6_wants (nI (F 0 0)) 1 0 2 0 m = some (-1, m') ∧ CI m' Sh F := ⟨_, wants_unk (z_hasn h h5), CI_ft h⟩
theorem z_wants_0 (h : CI m Sh F) (hW : WF F) (hn : 1 ≤ F 0 0) (h1 : Sh 1 = some (0, 44, c)) : ∃ m', f_X6_wants 0 1 0 2 0 m = some (0, m') ∧ CI m' Sh F := by
  obtain ⟨m', e1, e2, -⟩ := c_wants (k := 1) (la := 0) (a := 2) (q := 0) (f := 0) (by omega) h hW h1 (by decide) (by decide) (by decide) (by decide) (by decide) (row0 (F := F) (c := c))
  exact ⟨m', e1, e2⟩
theorem z_wants_i (h : CI m Sh F) (hn : 1 ≤ F 0 0) (h5 : F 0 0 ≤ 5) (h1 : Sh 1 = some (0, 44, c)) : ∃ m', f_X6_wants 0 1 0 5 20 m = some (-13, m') ∧ CI m' Sh F := ⟨_, wants_ref (z_has0 h hn h5) (z_index h h1) (by decide), CI_ft h⟩
theorem z_put (v : Int32) {j : Nat} (hj : j < 44) (h : CI m Sh F) (h1 : Sh 1 = some (0, 44, c)) : ∃ m' Sh', f_X6_put 1 (nI j) v m = some (1, m') ∧ CI m' Sh' F ∧ Sh' 1 = some (0, 44, fun i => if i = j then v.toInt8.toInt32 else c i) := by
  obtain ⟨m', e1, e2, -⟩ := c_put (k := 1) (j := j) v h (by decide) h1 (by decide) hj
  exact ⟨m', _, e1, e2, upS_at⟩
theorem z_one (h : CI m Sh F) (hn : 1 ≤ F 0 0) (h5 : F 0 0 ≤ 5) (h1 : Sh 1 = some (0, 44, c)) :
    (c 2 = nI (F 0 0) → f_X6_refusalOf 1 0 2 1 1 m = some (-1, mset m 0 0 6 0)) ∧ (c 2 = 0 → (c 3 = 4 ∨ c 3 = -1) → f_X6_refusalOf 1 0 2 1 1 m = some (-2, mset m 0 0 6 0)) :=
  ref_one (k := 1) (la := 0) (a := 2) h hn h5 h1 (by decide) (by decide) (by decide) (by decide)
end LEND
set_option maxRecDepth 100000 in
set_option maxHeartbeats 4000000 in
theorem lawB_l {L : Nat} {xsc : Nat → Int32} {m : Mem} {Sh : ShT} {F : FdT} (x3 : Int32) (hL : L ≤ 260) (hJ : JI m Sh F) (hn1 : 1 ≤ F 0 0) (h2 : Sh 2 = none) : ∃ m', f_L_lawB L xsc x3 (nI (F 0 0)) m = some (1, m') := by
  obtain ⟨m0, Sh0, F0, c, hJ0, hn0, s2, s1, kk⟩ := turns_l (L := L) (xsc := xsc) hL hn1 5 0 (by omega) m Sh F hJ rfl h2 (fun q => by omega)
  obtain ⟨h0, -, hW⟩ := hJ0
  have h5 := hW.1
  rw [← hn0] at hn1
  have a1 := r_ofFish h0 hn1 h5
  have a2 := r_dear m0
  have a3 := r_scales h0 hn1 h5
  have a4 := r_hear m0
  obtain ⟨m6, e6, h6⟩ := z_sheet h0
  obtain ⟨m7, e7, h7⟩ := z_lane h6
  obtain ⟨m8, e8, h8⟩ := z_n21 h7
  obtain ⟨m9, e9, h9⟩ := z_nm1 h8
  obtain ⟨m10, e10, h10⟩ := z_w5 h9
  obtain ⟨m11, e11, h11⟩ := z_w15 h10
  obtain ⟨m12, e12, h12⟩ := z_cast_p h11 s1
  obtain ⟨m13, e13, h13⟩ := z_null h12 s2
  obtain ⟨m14, e14, h14⟩ := z_index_p h13 s1
  obtain ⟨m15, e15, h15⟩ := z_empty0 h14 hW hn1 s1
  obtain ⟨m16, e16, h16⟩ := z_empty1 h15 hW hn1 s1
  obtain ⟨m17, e17, h17⟩ := z_owes_n h16 hn1 h5
  obtain ⟨m18, e18, h18⟩ := z_owes_n' h17 h5
  obtain ⟨m19, e19, h19⟩ := z_owes_s h18 hn1 h5
  obtain ⟨m20, e20, h20⟩ := z_owes_l h19 hn1 h5
  obtain ⟨m21, e21, h21⟩ := z_toll_n h20 h5
  obtain ⟨m22, e22, h22⟩ := z_toll_c h21 hn1 h5 s1
  obtain ⟨m23, e23, h23⟩ := z_toll_21 h22 hn1 h5
  obtain ⟨m24, e24, h24⟩ := z_wants_n h23 h5
  obtain ⟨m25, e25, h25⟩ := z_wants_0 h24 hW hn1 s1
  obtain ⟨m26, e26, h26⟩ := z_wants_i h25 hn1 h5 s1
  obtain ⟨m27, Sh1, e27, h27, t1⟩ := z_put (nI (F0 0 0)) (j := 2) (by decide) h26 s1
  have e27 : f_X6_put 1 2 (nI (F0 0 0)) m26 = some (1, m27) := e27
  have e28 := (z_one h27 hn1 h5 t1).1 (by rw [if_pos rfl, cut_nI (by omega)])
  have h28 : CI (mset m27 0 0 6 0) Sh1 F0 := CI_ft h27
  have e28 : f_X6_passes 1 0 2 1 0 m27 = some (-1, mset m27 0 0 6 0) := (pf_1 (y := 0) (by omega) 1 0 2 1 m27).trans (pass_ref e28 (by decide))
  obtain ⟨m29, Sh2, e29, h29, t2⟩ := z_put 0 (j := 2) (by decide) h28 t1
  have e29 : f_X6_put 1 2 0 (mset m27 0 0 6 0) = some (1, m29) := e29
  obtain ⟨m30, Sh3, e30, h30, t3⟩ := z_put 4 (j := 3) (by decide) h29 t2
  have e30 : f_X6_put 1 3 4 m29 = some (1, m30) := e30
  have e31 := (z_one h30 hn1 h5 t3).2 (by rw [if_neg (by decide), if_pos rfl]; decide) (Or.inl (by rw [if_pos rfl]; decide))
  have h31 : CI (mset m30 0 0 6 0) Sh3 F0 := CI_ft h30
  have e31 : f_X6_passes 1 0 2 1 0 m30 = some (-2, mset m30 0 0 6 0) := (pf_1 (y := 0) (by omega) 1 0 2 1 m30).trans (pass_ref e31 (by decide))
  have e32 := (z_one h31 hn1 h5 t3).2 (by rw [if_neg (by decide), if_pos rfl]; decide) (Or.inl (by rw [if_pos rfl]; decide))
  have h32 : CI (mset (mset m30 0 0 6 0) 0 0 6 0) Sh3 F0 := CI_ft h31
  have e32 : f_X6_toll 0 1 0 2 1 (mset m30 0 0 6 0) = some (-2, mset (mset m30 0 0 6 0) 0 0 6 0) := toll_ref (z_has0 h31 hn1 h5) e32 (by decide)
  obtain ⟨m33, Sh4, e33, h33, t4⟩ := z_put (-1) (j := 3) (by decide) h32 t3
  have e33 : f_X6_put 1 3 (-1) (mset (mset m30 0 0 6 0) 0 0 6 0) = some (1, m33) := e33
  have e34 := (z_one h33 hn1 h5 t4).2 (by rw [if_neg (by decide), if_neg (by decide), if_pos rfl]; decide) (Or.inr (by rw [if_pos rfl]; decide))
  have e34 : f_X6_owes 0 0 1 0 2 1 m33 = some (-2, mset m33 0 0 6 0) := owes_ref (z_has0 h33 hn1 h5) (z_has0 h33 hn1 h5) e34 (by decide)
  refine ⟨mset m33 0 0 6 0, ?_⟩
  unfold f_L_lawB
  rw [show ((0 : Int32), m) = (nI 0, m) from rfl, kk _ fuelN (by decide), ← hn0]
  rw [a1.1, bnd_some, if_pos rfl, a1.2, bnd_some, if_pos rfl, a2.1, bnd_some, if_pos rfl, a2.2, bnd_some, if_pos rfl, a3.1, bnd_some, if_pos rfl, a3.2.1, bnd_some, if_pos rfl, a3.2.2, bnd_some, if_pos rfl, a4.1, bnd_some, if_pos rfl, a4.2, bnd_some, if_pos rfl]
  rw [e6, bnd_some, if_pos rfl, e7, bnd_some, if_pos rfl, e8, bnd_some, if_pos rfl, e9, bnd_some, if_pos rfl, e10, bnd_some, if_pos rfl, e11, bnd_some, if_pos rfl, e12, bnd_some, if_pos rfl, e13, bnd_some, if_pos rfl, e14, bnd_some, if_pos rfl, e15, bnd_some, if_pos rfl, e16, bnd_some, if_pos rfl]
  rw [e17, bnd_some, if_pos rfl, e18, bnd_some, if_pos rfl, e19, bnd_some, if_pos rfl, e20, bnd_some, if_pos rfl, e21, bnd_some, if_pos rfl, e22, bnd_some, if_pos rfl, e23, bnd_some, if_pos rfl, e24, bnd_some, if_pos rfl, e25, bnd_some, if_pos rfl, e26, bnd_some, if_pos rfl]
  rw [e27, bnd_some, if_pos rfl, e28, bnd_some, if_pos rfl, e29, bnd_some, if_pos rfl, e30, bnd_some, if_pos rfl, e31, bnd_some, if_pos rfl, e32, bnd_some, if_pos rfl, e33, bnd_some, if_pos rfl, e34, bnd_some, if_pos rfl]
