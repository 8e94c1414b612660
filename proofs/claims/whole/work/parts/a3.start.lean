/-! ===== the law's first rows: all cells are made ===== -/
noncomputable def begOk : Bool := rwj 0 37 11 0 0 && rwj 1 28 0 0 0 && rwj 2 33 85 0 0 && rwj 3 3 1 2 0 && rwj 4 37 12 0 0 && rwj 5 28 0 0 0 && rwj 6 33 147 0 0 && rwj 7 3 2 2 0 && rwj 8 0 0 0 0 && rwj 9 3 3 0 0
set_option maxRecDepth 100000 in
theorem beg_ok : begOk = true := by decide +kernel
theorem c85 : callee 85 = i_X_init := rfl
theorem c147 : callee 147 = i_M_init := rfl
theorem r85 : mR i_X_init = none := rfl
theorem r147 : mR i_M_init = none := rfl
theorem push_n {M : MI} (h : mR M = none) (w : Int) (stk : List AV) : pushR M w stk = stk := by
  unfold pushR
  rw [h]
set_option maxRecDepth 100000 in
theorem shp_0 : shp 0 = (11, (clsOf 11).2.2) := by decide +kernel
set_option maxRecDepth 100000 in
theorem shp_356 : shp 356 = (12, (clsOf 12).2.2) := by decide +kernel
theorem la_init {z : Mem} (hz : hz0 z) {K : Int → HS → Prop} (g : AWL 10 [] (LL 0) (sI z) K) : AW i_L_law 25 NC (SS NC) 0 [] [(0, (2, -4))] (XC z (0, [], [])) 0 0 K := by
  have h := beg_ok
  unfold begOk at h
  simp only [Bool.and_eq_true] at h
  obtain ⟨⟨⟨⟨⟨⟨⟨⟨⟨a1, a2⟩, a3⟩, a4⟩, a5⟩, a6⟩, a7⟩, a8⟩, a9⟩, b1⟩ := h
  obtain ⟨_, _, _, r1⟩ := rwj_e a1
  obtain ⟨_, _, _, r2⟩ := rwj_e a2
  obtain ⟨_, _, _, r3⟩ := rwj_e a3
  obtain ⟨_, _, _, r4⟩ := rwj_e a4
  obtain ⟨_, _, _, r5⟩ := rwj_e a5
  obtain ⟨_, _, _, r6⟩ := rwj_e a6
  obtain ⟨_, _, _, r7⟩ := rwj_e a7
  obtain ⟨_, _, _, r8⟩ := rwj_e a8
  obtain ⟨_, _, _, r9⟩ := rwj_e a9
  obtain ⟨_, _, _, s1⟩ := rwj_e b1
  obtain ⟨C1, C2, m1, m2, e1, e2, e3, e4⟩ := made
  obtain ⟨g1, hX⟩ := am_X hz m1
  have hM := am_M hz g1 e1 m2
  have hend := XC_end (z := z) e2 e3 e4
  obtain ⟨n1, L1⟩ := C1
  obtain ⟨n2, L2⟩ := C2
  dsimp only at e1 e2
  subst e1
  subst e2
  dsimp only at hX hM
  have g0 : goodC (0, [], []) := ⟨Nat.zero_le _, fun q hq => by (cases hq), fun q hq => by (cases hq)⟩
  have l1 : SS 1 ≤ SS NC := SS_mono (Nat.le_of_ble_eq_true rfl)
  have l2 : SS 1 ≤ SS 356 := SS_mono (Nat.le_of_ble_eq_true rfl)
  have l3 : SS 357 ≤ SS NC := SS_mono (Nat.le_of_ble_eq_true rfl)
  have l4 : SS 356 ≤ SS NC := SS_mono (Nat.le_of_ble_eq_true rfl)
  have n1 : 356 < NC := nc_big
  have q1 : SS 1 + (SS 356 - SS 1) = SS 356 := Nat.add_sub_cancel' l2
  have q2 : SS 357 + (SS NC - SS 357) = SS NC := Nat.add_sub_cancel' l3
  have p1 : SS 1 = 0 + (shp 0).2 := SS_one 0
  have p2 : SS 357 = SS 356 + (shp 356).2 := SS_one 356
  refine aw_new ck_L_law r1 (by decide) (by show (shp 0).1 = 11; rw [shp_0]) (by show 0 < NC; exact Nat.lt_of_le_of_lt (Nat.zero_le _) n1) (fz_of hz g0 (Nat.le_refl _)) (by show 1 ≤ NC; exact Nat.le_of_lt (Nat.lt_of_le_of_lt (by decide) n1)) (by show 0 + (shp 0).2 ≤ SS NC; rw [← p1]; exact l1) ?_
  show AW i_L_law 25 NC (SS NC) 1 [(2, 0)] [(0, (2, -4))] (XC z (1, [], [])) (0 + 1) (0 + (shp 0).2) K
  rw [← p1]
  refine aw_dup ck_L_law r2 (by decide) ?_
  refine aw_calli (r := 0) (as := []) (mc' := 356 - 1) (ms' := SS 356 - SS 1) (stk := [(2, 0)]) ck_L_law r3 (okA2 85 (by decide)) (by rw [c85]; exact r85) (by decide) rfl (by decide) (by omega) (by rw [q1]; exact l4) (by rw [c85]; exact hX) fun w1 X1 _ hX1 => ?_
  subst hX1
  rw [c85, push_n r85, q1]
  refine aw_store ck_L_law r4 ?_
  refine aw_new ck_L_law r5 (by decide) (by show (shp 356).1 = 12; rw [shp_356]) (by show 356 < NC; exact n1) (fz_of hz g1 (Nat.le_refl _)) (by show 0 + 1 + (356 - 1) + 1 ≤ NC; exact n1) (by show SS 356 + (shp 356).2 ≤ SS NC; rw [← p2]; exact l3) ?_
  show AW i_L_law 25 NC (SS NC) 5 [(2, 356)] [(1, (2, 0)), (0, (2, -4))] (XC z (357, L1)) (0 + 1 + (356 - 1) + 1) (SS 356 + (shp 356).2) K
  rw [← p2]
  refine aw_dup ck_L_law r6 (by decide) ?_
  refine aw_calli (r := 356) (as := []) (mc' := NC - 357) (ms' := SS NC - SS 357) (stk := [(2, 356)]) ck_L_law r7 (okA2 147 (by decide)) (by rw [c147]; exact r147) (by decide) rfl (by decide) (by omega) (by rw [q2]; exact Nat.le_refl _) (by rw [c147]; exact hM) fun w2 X2' _ hX2 => ?_
  subst hX2
  rw [c147, push_n r147, q2, hend]
  have q3 : 0 + 1 + (356 - 1) + 1 + (NC - 357) = NC := by omega
  rw [q3]
  refine aw_store ck_L_law r8 ?_
  refine aw_const ck_L_law r9 ?_
  refine aw_store ck_L_law s1 ?_
  exact g
