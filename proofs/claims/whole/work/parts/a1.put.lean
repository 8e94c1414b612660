/-! ===== the case of put: its last argument is a long of two ints ===== -/
def lshlI (x y : Int) : Int := (Int64.ofInt x <<< ((Int32.ofInt y).toInt64 &&& 63)).toInt
section
variable {M : MI} {d mc ms pos pc a b c cells slots : Nat} {v : Int} {tl : List Nat} {stk : List AV} {loc : Lo} {X : HS} {K : Int → HS → Prop}
theorem aw_lshl {x y : Int} (hM : chkM M = true) (hi : (mT M)[pos]? = some (9, pc, a, b, c, v, tl)) (k : AW M d mc ms (pos + 1) ((1, lshlI x y) :: stk) loc X cells slots K) : AW M d mc ms pos ((0, y) :: (1, x) :: stk) loc X cells slots K := by
  intro g p l e s m args below meth c0 Fz H locs ls hF hK hS hB hR hD hs hl hst hlo hc1 hc2
  have hdec := chk_dec hM hi
  have hfal := chk_fall hM hi
  have hpo := chk_pool hM hi
  rw [pcOf_at hi]
  have hst2 := List.forall_mem_cons.mp (List.forall_mem_cons.mp hst).2
  have hr : rgv (1, lshlI x y) := toInt_rl _
  have k := k g p l e s m args below meth c0 Fz H locs ls hF hK hS hB hR hD hs hl (List.forall_mem_cons.mpr ⟨hr, hst2.2⟩) hlo hc1 hc2
  rw [fall1 hfal (by simp)] at k
  refine lv_lshl hF.1 hF.2.1 hdec ?_ k
  exact (emJ (Int64.ofInt x <<< ((Int32.ofInt y).toInt64 &&& 63))).symm
end
