variable {M : MI} {d mc ms pos pc a b c cells slots : Nat} {v : Int} {tl : List Nat} {stk : List AV} {loc : Lo} {X : HS} {K : Int → HS → Prop}
/-- the memory after a part of a row came to another (or the same) one, as it was before -/
def cpy (σ : Mem) (r0 s0 r1 d0 n : Int) : Mem := fun b j => if b = r1 ∧ d0 ≤ j ∧ j < d0 + n then σ r0 (s0 + (j - d0)) else σ b j
theorem cpy_at (σ : Mem) (r0 s0 r1 d0 n b j : Int) : cpy σ r0 s0 r1 d0 n b j = if b = r1 ∧ d0 ≤ j ∧ j < d0 + n then σ r0 (s0 + (j - d0)) else σ b j := rfl
theorem in_nat : Jvm.Cond.native arraycopyName ∈ W0 ∧ Jvm.Cond.static arraycopyName ∈ W0 ∧ Jvm.Cond.initialized "java/lang/System" ∈ W0 := by
  refine ⟨List.mem_filter.mpr ⟨?_, rfl⟩, List.mem_filter.mpr ⟨?_, rfl⟩, List.mem_filter.mpr ⟨?_, rfl⟩⟩
  all_goals decide +kernel
theorem PW_cpy {g : Gx} {σ : Mem} {q0 q1 s0 d0 n : Nat} (h : PW g σ) (hk : ∀ j, kdAt q0 j = kdAt q1 j) (hc : ∀ j j2, kdAt q1 j = kdAt q1 j2) (h0 : q0 < NC) (h1 : q1 < NC) : PW g (cpy σ q0 s0 q1 d0 n) := by
  obtain ⟨p1, p2, p3, p4, p5, p6⟩ := h
  refine ⟨fun k j hk9 => ?_, fun j hj => ?_, fun j hj => ?_, fun j hj => ?_, ?_, p6⟩
  · by_cases c : ((k : Int) = q1 ∧ (d0 : Int) ≤ j ∧ (j : Int) < d0 + n)
    · rw [cpy_at, if_pos c]
      have hkq : k = q1 := by omega
      subst hkq
      have e : (s0 : Int) + (j - d0) = ((s0 + (j - d0) : Nat) : Int) := by omega
      rw [e]
      have := p1 q0 (s0 + (j - d0)) h0
      rw [hk, hc _ j] at this
      exact this
    · rw [cpy_at, if_neg c]
      exact p1 k j hk9
  · rw [cpy_at, if_neg (by omega)]; exact p2 j hj
  · rw [cpy_at, if_neg (by omega)]; exact p3 j hj
  · rw [cpy_at, if_neg (by omega)]; exact p4 j hj
  · rw [cpy_at, if_neg (by omega)]; exact p5
theorem cellE_cpy {g : Gx} {π : Int → Int → Int} {σ : Mem} {q0 s0 q1 d0 n : Int} {k : Nat} (h : (k : Int) ≠ q1) : cellE g π (cpy σ q0 s0 q1 d0 n) k = cellE g π σ k := by
  have e : ∀ j : Int, cpy σ q0 s0 q1 d0 n k j = σ k j := fun j => by rw [cpy_at, if_neg (fun q => h q.1)]
  unfold cellE
  simp only [e]
  have e2 : fldV g π (cpy σ q0 s0 q1 d0 n) k (shp k).1 = fldV g π σ k (shp k).1 := by
    funext j
    unfold fldV
    simp only [e]
  rw [e2]
theorem aw_copy {r0 r1 s0 d0 n : Int} (hM : chkM M = true) (hi : (mT M)[pos]? = some (35, pc, a, b, c, v, tl)) (hk : (sK r0 = 100 ∧ sK r1 = 100) ∨ (sK r0 = 101 ∧ sK r1 = 101)) (hn : X.2.1 = NC) (h1 : 0 ≤ s0) (h2 : 0 ≤ d0) (h3 : 0 ≤ n) (h4 : s0 + n ≤ sN r0) (h5 : d0 + n ≤ sN r1) (hsz : szS stk ≤ 8)
    (k : AW M (d + 1) mc ms (pos + 1) stk loc (X.1, X.2.1, cpy X.2.2 r0 s0 r1 d0 n) cells slots K) : AW M (d + 1) mc ms pos ((0, n) :: (0, d0) :: (2, r1) :: (0, s0) :: (2, r0) :: stk) loc X cells slots K := by
  intro g p l e s m args below meth c0 Fz H locs ls hF hK hS hB hR hD hs hl hst hlo hc1 hc2
  have hdec := chk_dec hM hi
  have hfal := chk_fall hM hi
  have hpo := chk_pool hM hi
  rw [pcOf_at hi]
  have hpo2 : LAC[tl.getD 0 0]? = some (mOi M, c) ∧ c < 1000 := by simpa [poolO] using hpo
  have hw9 := AC_ok _ (List.mem_of_getElem? hpo2.1)
  rw [wAC_copy hpo2.2] at hw9
  have a1 := List.forall_mem_cons.mp hst
  have a2 := List.forall_mem_cons.mp a1.2
  have a3 := List.forall_mem_cons.mp a2.2
  have a4 := List.forall_mem_cons.mp a3.2
  have a5 := List.forall_mem_cons.mp a4.2
  have rn : r32 n := a1.1
  have rd : r32 d0 := a2.1
  have rs : r32 s0 := a4.1
  obtain ⟨jn, rfl⟩ : ∃ j : Nat, n = (j : Int) := ⟨n.toNat, by omega⟩
  obtain ⟨jd, rfl⟩ : ∃ j : Nat, d0 = (j : Int) := ⟨d0.toNat, by omega⟩
  obtain ⟨js, rfl⟩ : ∃ j : Nat, s0 = (j : Int) := ⟨s0.toNat, by omega⟩
  have hts := hF.2.2.2.2.1
  have nlt : ∀ {x : Int}, r32 x → 0 ≤ x → ¬ Int32.ofInt x < 0 := fun {x} hr h0 => by rw [← i32_0, i32_lt hr r32_0]; omega
  have hroom : ((stk.map (emb g)).map fun v => v.category).sum + (nativeFrameWords "java/lang/System" "arraycopy" 5 + 11) ≤ (rmd (d + 1) mc ms).locals := by
    rw [szS_cat]
    have e : nativeFrameWords "java/lang/System" "arraycopy" 5 ≤ 45 := by decide +kernel
    show _ ≤ 64 * (d + 1)
    omega
  obtain ⟨q0, rfl, hq0⟩ := ref_of (r := r0) (a := sK r0) rfl (by omega)
  obtain ⟨q1, rfl, hq1⟩ := ref_of (r := r1) (a := sK r1) rfl (by omega)
  have hN0 := shp_lt hq0 (by omega)
  have hN1 := shp_lt hq1 (by omega)
  have hw0 := wsL_get (g := g) (X := X) (k := q0) (by omega)
  have hw1 := wsL_get (g := g) (X := X) (k := q1) (by omega)
  have hfin : ∀ (H1 : Heap) (locs1 : List Loc), va_P (gD g) cls (wsL g (X.1, X.2.1, cpy X.2.2 q0 js q1 jd jn)) H1 → va_S (AA g) s.heap H1 locs1 → PW g (cpy X.2.2 q0 js q1 jd jn) → W p l e (rmd (d + 1) mc ms) s m args below meth c0 H1 locs1 cells slots Fz (F0 m (pc + 3) ls (stk.map (emb g))) := by
    intro H1 locs1 hP2 hS1 hPW
    have hsz : gB g + X.2.1 ≤ H1.size := by
      have h1 := (hP2 (NC - 1) _ (wsL_get (by show _ < X.2.1; rw [hn]; decide))).lt
      dsimp only at h1
      rw [hn]
      have : 1 ≤ NC := by decide
      omega
    have k := k g p l e s m args below meth c0 Fz H1 locs1 ls hF hK hS hB hR ⟨⟨hsz, fun z => by have z2 : X.2.1 < NC := z; omega⟩, hP2, hPW, hD.2.2.2⟩ hS1 hl a5.2 hlo hc1 hc2
    rw [fall1 hfal (by simp)] at k
    exact k
  have l4 : js + jn ≤ (shp q0).2 := by
    have : (js : Int) + jn ≤ ((shp q0).2 : Int) := h4
    omega
  have l5 : jd + jn ≤ (shp q1).2 := by
    have : (jd : Int) + jn ≤ ((shp q1).2 : Int) := h5
    omega
  rcases hk with ⟨k0, k1⟩ | ⟨k0, k1⟩
  · have k0 : (shp q0).1 = 100 := k0
    have k1 : (shp q1).1 = 100 := k1
    rw [cellE_i k0] at hw0
    rw [cellE_i k1] at hw1
    refine va_copyi (D := gD g) (cl := cls) (tys := tysL g) (ws := wsL g X) (A := AA g) hF.1 hF.2.1 (by rw [hF.2.2.1]; exact hl.1.symm) hF.2.2.2.1 (hts _ hw9) (hts _ in_nat.1) (hts _ in_nat.2.1) (hts _ in_nat.2.2) hK.1 hD.2.1 (wsL_D g X) hs q0 q1 0 0 hw0 hw1 (ty_at g).1 (ty_at g).1 rfl (nlt rs h1) (nlt rd h2) (nlt rn h3) (by rw [i32_clamp rs, i32_clamp rn]; exact l4) (by rw [i32_clamp rd, i32_clamp rn]; exact l5) (fun _ _ => rfl) (Nat.le_add_left _ _) hroom hdec (fun H1 locs1 hP1 _ hS1 => ?_)
    rw [i32_clamp rs, i32_clamp rd, i32_clamp rn] at hP1
    refine hfin H1 locs1 (va_Pset (X' := (X.1, X.2.1, cpy X.2.2 q0 js q1 jd jn)) hP1 rfl ?_ (fun j hj => cellE_cpy (by omega))) hS1 (PW_cpy hD.2.2.1 (fun j => by unfold kdAt; rw [k0, k1]) (fun j j2 => by unfold kdAt; rw [k1]; rfl) hN0 hN1)
    dsimp only
    rw [cellE_i k1]
    congr 3
    congr 1
    funext i
    unfold va_cpy
    rw [cpy_at]
    by_cases e2 : jd ≤ i ∧ i < jd + jn
    · simp only [Int.toNat_natCast]
      have e3 : True ∧ (jd : Int) ≤ (i : Int) ∧ (i : Int) < jd + jn := ⟨trivial, by omega, by omega⟩
      have e4 : (js : Int) + ((i : Int) - jd) = ((js + (i - jd) : Nat) : Int) := by omega
      rw [if_pos e3, if_pos e2, e4]
    · simp only [Int.toNat_natCast]
      have e3 : ¬ (True ∧ (jd : Int) ≤ (i : Int) ∧ (i : Int) < jd + jn) := fun z => e2 (by have := z.2; omega)
      rw [if_neg e3, if_neg e2]
  · have k0 : (shp q0).1 = 101 := k0
    have k1 : (shp q1).1 = 101 := k1
    rw [cellE_l k0] at hw0
    rw [cellE_l k1] at hw1
    refine va_copyl (D := gD g) (cl := cls) (tys := tysL g) (ws := wsL g X) (A := AA g) hF.1 hF.2.1 (by rw [hF.2.2.1]; exact hl.1.symm) hF.2.2.2.1 (hts _ hw9) (hts _ in_nat.1) (hts _ in_nat.2.1) (hts _ in_nat.2.2) hK.1 hD.2.1 (wsL_D g X) hs q0 q1 1 1 hw0 hw1 (ty_at g).2.1 (ty_at g).2.1 rfl (nlt rs h1) (nlt rd h2) (nlt rn h3) (by rw [i32_clamp rs, i32_clamp rn]; exact l4) (by rw [i32_clamp rd, i32_clamp rn]; exact l5) (fun _ _ => rfl) (Nat.le_add_left _ _) hroom hdec (fun H1 locs1 hP1 _ hS1 => ?_)
    rw [i32_clamp rs, i32_clamp rd, i32_clamp rn] at hP1
    refine hfin H1 locs1 (va_Pset (X' := (X.1, X.2.1, cpy X.2.2 q0 js q1 jd jn)) hP1 rfl ?_ (fun j hj => cellE_cpy (by omega))) hS1 (PW_cpy hD.2.2.1 (fun j => by unfold kdAt; rw [k0, k1]) (fun j j2 => by unfold kdAt; rw [k1]; rfl) hN0 hN1)
    dsimp only
    rw [cellE_l k1]
    congr 5
    funext i
    unfold va_cpy
    rw [cpy_at]
    by_cases e2 : jd ≤ i ∧ i < jd + jn
    · simp only [Int.toNat_natCast]
      have e3 : True ∧ (jd : Int) ≤ (i : Int) ∧ (i : Int) < jd + jn := ⟨trivial, by omega, by omega⟩
      have e4 : (js : Int) + ((i : Int) - jd) = ((js + (i - jd) : Nat) : Int) := by omega
      rw [if_pos e3, if_pos e2, e4]
    · simp only [Int.toNat_natCast]
      have e3 : ¬ (True ∧ (jd : Int) ≤ (i : Int) ∧ (i : Int) < jd + jn) := fun z => e2 (by have := z.2; omega)
      rw [if_neg e3, if_neg e2]
-- ===== the library's own max, min, abs
def maxI (x y : Int) : Int := if x < y then y else x
def minI (x y : Int) : Int := if y < x then y else x
def maxL (x y : Int) : Int := if y < x then x else y
def absL (x : Int) : Int := if 0 < x then x else w64 (-x)
theorem ite_emI {P : Prop} {Q : Prop} (hp : Decidable P) (hq : Decidable Q) (h : P ↔ Q) (x y : Int) : (if P then Int32.ofInt x else Int32.ofInt y) = Int32.ofInt (if Q then x else y) := by
  by_cases q : Q
  · rw [if_pos q, if_pos (h.mpr q)]
  · rw [if_neg q, if_neg (fun z => q (h.mp z))]
theorem ite_emJ {P : Prop} {Q : Prop} (hp : Decidable P) (hq : Decidable Q) (h : P ↔ Q) (x y : Int) : (if P then Int64.ofInt x else Int64.ofInt y) = Int64.ofInt (if Q then x else y) := by
  by_cases q : Q
  · rw [if_pos q, if_pos (h.mpr q)]
  · rw [if_neg q, if_neg (fun z => q (h.mp z))]
theorem aw_math2 {x y : Int} (hM : chkM M = true) (hi : (mT M)[pos]? = some (42, pc, a, b, c, v, tl)) (hb : b < 2) (hsz : szS stk ≤ 8) (k : AW M (d + 1) mc ms (pos + 1) ((0, if b = 0 then maxI x y else minI x y) :: stk) loc X cells slots K) : AW M (d + 1) mc ms pos ((0, y) :: (0, x) :: stk) loc X cells slots K := by
  intro g p l e s m args below meth c0 Fz H locs ls hF hK hS hB hR hD hs hl hst hlo hc1 hc2
  have hdec := chk_dec hM hi
  have hfal := chk_fall hM hi
  have hpo := chk_pool hM hi
  rw [pcOf_at hi]
  have hpo2 : LML[tl.getD 0 0]? = some (mOi M, c, a) ∧ mathI a b = true := by simpa [poolO] using hpo
  have w1 := ML_ok _ (List.mem_of_getElem? hpo2.1)
  have hst1 := List.forall_mem_cons.mp hst
  have hst2 := List.forall_mem_cons.mp hst1.2
  have hts := hF.2.2.2.2.1
  have hroom : ((stk.map (emb g)).map fun v => v.category).sum + 13 ≤ (rmd (d + 1) mc ms).locals := by
    rw [szS_cat]
    show _ ≤ 64 * (d + 1)
    omega
  have hml : c0.maxLocals = ls.size := by rw [hF.2.2.1]; exact hl.1.symm
  have rx : r32 x := hst2.1
  have ry : r32 y := hst1.1
  have hrr : r32 (if b = 0 then maxI x y else minI x y) := by unfold maxI minI; (repeat' split) <;> assumption
  have k := k g p l e s m args below meth c0 Fz H locs ls hF hK hS hB hR hD hs hl (List.forall_mem_cons.mpr ⟨hrr, hst2.2⟩) hlo hc1 hc2
  rw [fall1 hfal (by simp)] at k
  unfold wML at w1
  dsimp only at w1
  rcases (by have := mid_at a b hpo2.2; omega : (a = 251 ∧ b = 0) ∨ (a = 253 ∧ b = 1)) with ⟨rfl, rfl⟩ | ⟨rfl, rfl⟩
  · rw [mnm_0] at w1
    refine va_mmax hF.1 hF.2.1 hml hF.2.2.2.1 (hts _ w1) (hts _ mst_0) (hts _ ini_math) (hts _ mco_0) (Nat.le_add_left _ _) hroom hc1 hc2 hdec ?_
    rw [ite_emI inferInstance inferInstance (i32_lt rx ry)]
    exact k
  · rw [mnm_1] at w1
    refine va_mmin hF.1 hF.2.1 hml hF.2.2.2.1 (hts _ w1) (hts _ mst_1) (hts _ ini_math) (hts _ mco_1) (Nat.le_add_left _ _) hroom hc1 hc2 hdec ?_
    rw [ite_emI inferInstance inferInstance (i32_lt ry rx)]
    exact k
theorem aw_math3 {x y : Int} (hM : chkM M = true) (hi : (mT M)[pos]? = some (42, pc, a, b, c, v, tl)) (hb : b = 2 ∨ b = 3) (hsz : szS stk ≤ 8) (k : AW M (d + 1) mc ms (pos + 1) ((1, if b = 2 then maxL x y else minI x y) :: stk) loc X cells slots K) : AW M (d + 1) mc ms pos ((1, y) :: (1, x) :: stk) loc X cells slots K := by
  intro g p l e s m args below meth c0 Fz H locs ls hF hK hS hB hR hD hs hl hst hlo hc1 hc2
  have hdec := chk_dec hM hi
  have hfal := chk_fall hM hi
  have hpo := chk_pool hM hi
  rw [pcOf_at hi]
  have hpo2 : LML[tl.getD 0 0]? = some (mOi M, c, a) ∧ mathI a b = true := by simpa [poolO] using hpo
  have w1 := ML_ok _ (List.mem_of_getElem? hpo2.1)
  have hst1 := List.forall_mem_cons.mp hst
  have hst2 := List.forall_mem_cons.mp hst1.2
  have hts := hF.2.2.2.2.1
  have hroom : ((stk.map (emb g)).map fun v => v.category).sum + 15 ≤ (rmd (d + 1) mc ms).locals := by
    rw [szS_cat]
    show _ ≤ 64 * (d + 1)
    omega
  have hml : c0.maxLocals = ls.size := by rw [hF.2.2.1]; exact hl.1.symm
  have rx : r64 x := hst2.1
  have ry : r64 y := hst1.1
  have hrr : r64 (if b = 2 then maxL x y else minI x y) := by unfold maxL minI; (repeat' split) <;> assumption
  have k := k g p l e s m args below meth c0 Fz H locs ls hF hK hS hB hR hD hs hl (List.forall_mem_cons.mpr ⟨hrr, hst2.2⟩) hlo hc1 hc2
  rw [fall1 hfal (by simp)] at k
  unfold wML at w1
  dsimp only at w1
  rcases (by have := mid_at a b hpo2.2; omega : (a = 252 ∧ b = 2) ∨ (a = 254 ∧ b = 3)) with ⟨rfl, rfl⟩ | ⟨rfl, rfl⟩
  · rw [mnm_2] at w1
    refine va_mmax_long hF.1 hF.2.1 hml hF.2.2.2.1 (hts _ w1) (hts _ mst_2) (hts _ ini_math) (hts _ mco_2) (Nat.le_add_left _ _) hroom hc1 hc2 hdec ?_
    rw [ite_emJ inferInstance inferInstance (i64_lt ry rx)]
    exact k
  · rw [mnm_3] at w1
    refine va_mmin_long hF.1 hF.2.1 hml hF.2.2.2.1 (hts _ w1) (hts _ mst_3) (hts _ ini_math) (hts _ mco_3) (Nat.le_add_left _ _) hroom hc1 hc2 hdec ?_
    rw [ite_emJ inferInstance inferInstance (i64_lt ry rx)]
    exact k
theorem aw_math1 {x : Int} (hM : chkM M = true) (hi : (mT M)[pos]? = some (42, pc, a, b, c, v, tl)) (hb : b = 4) (hsz : szS stk ≤ 8) (k : AW M (d + 1) mc ms (pos + 1) ((1, absL x) :: stk) loc X cells slots K) : AW M (d + 1) mc ms pos ((1, x) :: stk) loc X cells slots K := by
  intro g p l e s m args below meth c0 Fz H locs ls hF hK hS hB hR hD hs hl hst hlo hc1 hc2
  have hdec := chk_dec hM hi
  have hfal := chk_fall hM hi
  have hpo := chk_pool hM hi
  rw [pcOf_at hi]
  have hpo2 : LML[tl.getD 0 0]? = some (mOi M, c, a) ∧ mathI a b = true := by simpa [poolO] using hpo
  have w1 := ML_ok _ (List.mem_of_getElem? hpo2.1)
  have hst2 := List.forall_mem_cons.mp hst
  have hts := hF.2.2.2.2.1
  have hroom : ((stk.map (emb g)).map fun v => v.category).sum + 13 ≤ (rmd (d + 1) mc ms).locals := by
    rw [szS_cat]
    show _ ≤ 64 * (d + 1)
    omega
  have hml : c0.maxLocals = ls.size := by rw [hF.2.2.1]; exact hl.1.symm
  have rx : r64 x := hst2.1
  have r0 : r64 0 := by unfold r64; omega
  have hrr : r64 (absL x) := by
    unfold absL
    split
    · exact rx
    · exact w64_r _
  have k := k g p l e s m args below meth c0 Fz H locs ls hF hK hS hB hR hD hs hl (List.forall_mem_cons.mpr ⟨hrr, hst2.2⟩) hlo hc1 hc2
  rw [fall1 hfal (by simp)] at k
  unfold wML at w1
  dsimp only at w1
  obtain ⟨rfl, rfl⟩ : a = 250 ∧ b = 4 := by have := mid_at a b hpo2.2; omega
  rw [mnm_4] at w1
  refine va_mabs_long hF.1 hF.2.1 hml hF.2.2.2.1 (hts _ w1) (hts _ mst_4) (hts _ ini_math) (hts _ mco_4) (Nat.le_add_left _ _) hroom hc1 hc2 hdec ?_
  have e9 : (if (0 : Int64) < Int64.ofInt x then Int64.ofInt x else -Int64.ofInt x) = Int64.ofInt (absL x) := by
    have h9 : (0 : Int64) < Int64.ofInt x ↔ 0 < x := i64_lt r0 rx
    unfold absL
    by_cases q : 0 < x
    · rw [if_pos q, if_pos (h9.mpr q)]
    · rw [if_neg q, if_neg (fun z => q (h9.mp z)), ofInt_w64, Int64.ofInt_neg]
  rw [e9]
  exact k
