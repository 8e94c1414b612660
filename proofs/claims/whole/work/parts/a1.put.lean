/-! ===== the case of put: its last argument is a long of two ints ===== -/
def lshlI (x y : Int) : Int := (Int64.ofInt x <<< ((Int32.ofInt y).toInt64 &&& 63)).toInt
section
variable {M : MI} {d mc ms pos pc a b c cells slots : Nat} {v : Int} {tl : List Nat} {stk : List AV} {loc : Lo} {X : HS} {K : Int → HS → Prop}
theorem aw_lshl {x y : Int} (hM : chkM M = true) (hi : (mT M)[pos]? = some (9, pc, a, b, c, v, tl)) (k : AW M d mc ms (pos + 1) ((1, lshlI x y) :: stk) loc X cells slots K) : AW M d mc ms pos ((0, y) :: (1, x) :: stk) loc X cells slots K := by
  intro g p l e s m args below meth c0 Fz H locs ls hF hK hS hB hR hD hs hl hst hlo hc1 hc2
  have hdec := chk_dec hM hi
  have hfal := chk_fall hM hi
  have hpo := chk_pool hM hi
  rw [pcOf_at hi]
  have hst2 := List.forall_mem_cons.mp (List.forall_mem_cons.mp hst).2
  have hr : rgv (1, lshlI x y) := toInt_rl _
  have k := k g p l e s m args below meth c0 Fz H locs ls hF hK hS hB hR hD hs hl (List.forall_mem_cons.mpr ⟨hr, hst2.2⟩) hlo hc1 hc2
  rw [fall1 hfal (by simp)] at k
  refine lv_lshl hF.1 hF.2.1 hdec ?_ k
  exact (emJ (Int64.ofInt x <<< ((Int32.ofInt y).toInt64 &&& 63))).symm
end
noncomputable def lngOk (p : Nat) : Bool := argOk p 3 && rwj (p + 5) 11 0 0 0 && rwj (p + 6) 0 0 0 32 && rwj (p + 7) 9 0 0 0 && argOk (p + 8) 4 && rwj (p + 13) 11 0 0 0 && rwj (p + 14) 1 155 0 4294967295 && rwk (p + 15) 7 0 0 3 0 && rwk (p + 16) 7 0 0 4 0
def lngV (σ : Mem) (i : Int) : Int := binL 4 (lshlI (σ (-4) (i + 3)) 32) (binL 3 (σ (-4) (i + 4)) 4294967295)
theorem la_long {p : Nat} {i : Int} {stk : List AV} {σ : Mem} {K : Int → HS → Prop} (h : lngOk p = true) (h0 : 0 ≤ i) (h1 : i + 4 < σ (-4) (-1)) (h2 : σ (-4) (-1) ≤ 3072) (g : AWL (p + 17) ((1, lngV σ i) :: stk) (LL i) σ K) : AWL p stk (LL i) σ K := by
  unfold lngOk at h
  simp only [Bool.and_eq_true] at h
  obtain ⟨⟨⟨⟨⟨⟨⟨⟨a1, a2⟩, a3⟩, a4⟩, a5⟩, a6⟩, a7⟩, a8⟩, a9⟩ := h
  obtain ⟨_, _, _, r2⟩ := rwj_e a2
  obtain ⟨_, _, _, r3⟩ := rwj_e a3
  obtain ⟨_, _, _, r4⟩ := rwj_e a4
  obtain ⟨_, _, _, r6⟩ := rwj_e a6
  obtain ⟨_, _, _, r7⟩ := rwj_e a7
  obtain ⟨_, _, r8⟩ := rwk_e a8
  obtain ⟨_, _, r9⟩ := rwk_e a9
  refine la_arg a1 h0 (by omega) (by omega) h2 ?_
  refine aw_i2l ck_L_law r2 ?_
  refine aw_const ck_L_law r3 ?_
  refine aw_lshl ck_L_law r4 ?_
  refine la_arg a5 h0 (by omega) (by omega) h2 ?_
  refine aw_i2l ck_L_law r6 ?_
  refine aw_lconst ck_L_law r7 ?_
  refine aw_lbin ck_L_law r8 ?_
  refine aw_lbin ck_L_law r9 ?_
  exact g
