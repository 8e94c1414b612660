/-! ===== the case of put: its last argument is a long of two ints ===== -/
def lshlI (x y : Int) : Int := (Int64.ofInt x <<< ((Int32.ofInt y).toInt64 &&& 63)).toInt
section
variable {M : MI} {d mc ms pos pc a b c cells slots : Nat} {v : Int} {tl : List Nat} {stk : List AV} {loc : Lo} {X : HS} {K : Int → HS → Prop}
theorem aw_lshl {x y : Int} (hM : chkM M = true) (hi : (mT M)[pos]? = some (9, pc, a, b, c, v, tl)) (k : AW M d mc ms (pos + 1) ((1, lshlI x y) :: stk) loc X cells slots K) : AW M d mc ms pos ((0, y) :: (1, x) :: stk) loc X cells slots K := by
  intro g p l e s m args below meth c0 Fz H locs ls hF hK hS hB hR hD hs hl hst hlo hc1 hc2
  have hdec := chk_dec hM hi
  have hfal := chk_fall hM hi
  have hpo := chk_pool hM hi
  rw [pcOf_at hi]
  have hst2 := List.forall_mem_cons.mp (List.forall_mem_cons.mp hst).2
  have hr : rgv (1, lshlI x y) := toInt_rl _
  have k := k g p l e s m args below meth c0 Fz H locs ls hF hK hS hB hR hD hs hl (List.forall_mem_cons.mpr ⟨hr, hst2.2⟩) hlo hc1 hc2
  rw [fall1 hfal (by simp)] at k
  refine lv_lshl hF.1 hF.2.1 hdec ?_ k
  exact (emJ (Int64.ofInt x <<< ((Int32.ofInt y).toInt64 &&& 63))).symm
end
noncomputable def lngOk (p : Nat) : Bool := argOk p 3 && rwj (p + 5) 11 0 0 0 && rwj (p + 6) 0 0 0 32 && rwj (p + 7) 9 0 0 0 && argOk (p + 8) 4 && rwj (p + 13) 11 0 0 0 && rwj (p + 14) 1 155 0 4294967295 && rwk (p + 15) 7 0 0 3 0 && rwk (p + 16) 7 0 0 4 0
def lngV (σ : Mem) (i : Int) : Int := binL 4 (lshlI (σ (-4) (i + 3)) 32) (binL 3 (σ (-4) (i + 4)) 4294967295)
theorem la_long {p : Nat} {i : Int} {stk : List AV} {σ : Mem} {K : Int → HS → Prop} (h : lngOk p = true) (h0 : 0 ≤ i) (h1 : i + 4 < σ (-4) (-1)) (h2 : σ (-4) (-1) ≤ 3072) (g : AWL (p + 17) ((1, lngV σ i) :: stk) (LL i) σ K) : AWL p stk (LL i) σ K := by
  unfold lngOk at h
  simp only [Bool.and_eq_true] at h
  obtain ⟨⟨⟨⟨⟨⟨⟨⟨a1, a2⟩, a3⟩, a4⟩, a5⟩, a6⟩, a7⟩, a8⟩, a9⟩ := h
  obtain ⟨_, _, _, r2⟩ := rwj_e a2
  obtain ⟨_, _, _, r3⟩ := rwj_e a3
  obtain ⟨_, _, _, r4⟩ := rwj_e a4
  obtain ⟨_, _, _, r6⟩ := rwj_e a6
  obtain ⟨_, _, _, r7⟩ := rwj_e a7
  obtain ⟨_, _, r8⟩ := rwk_e a8
  obtain ⟨_, _, r9⟩ := rwk_e a9
  refine la_arg a1 h0 (by omega) (by omega) h2 ?_
  refine aw_i2l ck_L_law r2 ?_
  refine aw_const ck_L_law r3 ?_
  refine aw_lshl ck_L_law r4 ?_
  refine la_arg a5 h0 (by omega) (by omega) h2 ?_
  refine aw_i2l ck_L_law r6 ?_
  refine aw_lconst ck_L_law r7 ?_
  refine aw_lbin ck_L_law r8 ?_
  refine aw_lbin ck_L_law r9 ?_
  exact g
noncomputable def putOk : Bool := rwj 1011 2 1 2 0 && (List.range 2).all (fun (m : Nat) => argOk (1012 + 5 * m) (1 + (m : Int))) && lngOk 1022 && rwj 1039 31 120 11 3 && rwj 1040 2 2 2 0 && (List.range 2).all (fun (m : Nat) => argOk (1041 + 5 * m) (1 + (m : Int))) && lngOk 1051 && rwj 1068 31 242 12 3 && rwk 1069 16 1201 0 0 0
theorem put_ok : putOk = true := by decide +kernel
theorem la_put {i : Int} {σ : Mem} {K : Int → HS → Prop} (h0 : 0 ≤ i) (h1 : i + 4 < σ (-4) (-1)) (h2 : σ (-4) (-1) ≤ 3072)
    (hA : AM2 (callee 120) 24 [(2, 0), (0, σ (-4) (i + 1)), (0, σ (-4) (i + 2)), (1, lngV σ i)] σ (fun w1 σ1 => AM2 (callee 242) 24 [(2, 356), (0, σ (-4) (i + 1)), (0, σ (-4) (i + 2)), (1, lngV σ i)] σ1 (fun w2 σ2 => w1 = w2 ∧ (σ2 (-4) (-1) = σ (-4) (-1) → (∀ j : Nat, (j : Int) < σ (-4) (-1) → σ2 (-4) j = σ (-4) j) → AWL 1201 [] (LL i) σ2 K)))) : AWL 1011 [] (LL i) σ K := by
  have h := put_ok
  unfold putOk at h
  simp only [Bool.and_eq_true] at h
  obtain ⟨⟨⟨⟨⟨⟨⟨⟨a1, a2⟩, a3⟩, a4⟩, a5⟩, a6⟩, a7⟩, a8⟩, a9⟩ := h
  obtain ⟨_, _, _, r1⟩ := rwj_e a1
  obtain ⟨_, _, _, r4⟩ := rwj_e a4
  obtain ⟨_, _, _, r5⟩ := rwj_e a5
  obtain ⟨_, _, _, r8⟩ := rwj_e a8
  obtain ⟨_, _, r9⟩ := rwk_e a9
  have eL : ∀ τ : Mem, (argL τ i 2).reverse = [(0, τ (-4) (i + 2)), (0, τ (-4) (i + 1))] := fun τ => by
    rw [argL_succ, argL_succ]
    show [(0, τ (-4) (i + 1 + 1)), (0, τ (-4) (i + 1 + 0))] = _
    rw [show i + 1 + 1 = i + 2 by omega, show i + 1 + 0 = i + 1 by omega]
  refine aw_load (x := 0) ck_L_law r1 rfl ?_
  refine la_args (p := 1012) h0 h2 2 _ (by omega) a2 ?_
  rw [eL]
  refine la_long (p := 1022) a3 h0 h1 h2 ?_
  refine aw_callv (as := [(0, σ (-4) (i + 1)), (0, σ (-4) (i + 2)), (1, lngV σ i)]) (mc' := 0) (ms' := 0) (r := 0) (stk := []) (K' := K2 _) ck_L_law r4 (okA2 120 (by decide)) (by decide) rfl (by have := nc_big; show (0 : Int) < (NC : Nat); omega) rfl (by decide) (Nat.le_of_eq (Nat.add_zero _)) (Nat.le_of_eq (Nat.add_zero _)) (am2_keep hA) fun w1 X1 _ hX => ?_
  obtain ⟨σ1, rfl, hB, q1, q2⟩ := hX
  rw [Nat.add_zero NC, Nat.add_zero (SS NC)]
  have k1 : pushR (callee 120) w1 [] = [(0, w1)] := push_k (k := 0) rfl (by decide) _ _
  rw [k1]
  refine aw_load (x := 356) ck_L_law r5 rfl ?_
  refine la_args (p := 1041) (σ := σ1) h0 (by rw [q1]; exact h2) 2 _ (by rw [q1]; omega) a6 ?_
  rw [eL]
  refine la_long (p := 1051) (σ := σ1) a7 h0 (by rw [q1]; exact h1) (by rw [q1]; exact h2) ?_
  have e1 : ∀ m : Int, 1 ≤ m → m ≤ 4 → σ1 (-4) (i + m) = σ (-4) (i + m) := fun m h3 h4 => by
    have h9 := q2 (i + m).toNat (by omega)
    rw [show ((i + m).toNat : Int) = i + m by omega] at h9
    exact h9
  have e2 : lngV σ1 i = lngV σ i := by unfold lngV; rw [e1 3 (by omega) (by omega), e1 4 (by omega) (by omega)]
  rw [e2, e1 1 (by omega) (by omega), e1 2 (by omega) (by omega)]
  refine aw_callv (as := [(0, σ (-4) (i + 1)), (0, σ (-4) (i + 2)), (1, lngV σ i)]) (mc' := 0) (ms' := 0) (r := 356) (stk := [(0, w1)]) (K' := K2 _) ck_L_law r8 (okA2 242 (by decide)) (by decide) rfl (by have := nc_big; show (356 : Int) < (NC : Nat); omega) rfl (Nat.le_of_ble_eq_true rfl) (Nat.le_of_eq (Nat.add_zero _)) (Nat.le_of_eq (Nat.add_zero _)) (am2_keep hB) fun w2 X2' _ hX => ?_
  obtain ⟨σ2, rfl, ⟨rfl, hC⟩, q3, q4⟩ := hX
  rw [Nat.add_zero NC, Nat.add_zero (SS NC)]
  have k2 : pushR (callee 242) w1 [(0, w1)] = [(0, w1), (0, w1)] := push_k (k := 0) rfl (by decide) _ _
  rw [k2]
  refine aw_icmp ck_L_law r9 ?_
  unfold brc
  rw [if_pos rfl]
  exact ⟨fun _ => hC (q3.trans q1) fun j hj => (q4 j (by rw [q1]; exact hj)).trans (q2 j hj), fun z => absurd rfl z⟩
