/-! ===== rows that make cells ===== -/
section
variable {p : Program} {l : Launch} {e : Env} {R : Room} {s : State} {m : MethodId} {args : Array Value} {below : List Frame} {meth : Method} {c : Code} {H H0 : Heap} {locs : List Loc} {cells slots : Nat} {Q : State → Prop} {cc : ByteArray} {pc : Nat} {ls : Array Slot} {rest : List Value} {D : va_G} {cl : List vw_C} {A : Nat → Prop} {a : Nat} {tys : List (ClassId × FieldType)} {ws : va_W}
/-- a new object stands behind all cells -/
theorem my_new (hexec : p.tables.exec = Jvm.exec) (hb : c.code = cc) {own C : String} {T : u_T} {N ci index : Nat} {Ts : List Jvm.Cond} (hts : ∀ w ∈ Ts, w.before args s = true) (hin : ∀ w ∈ u_ws C T N, w ∈ Ts) (ty : Nat → FieldType) (hty : ∀ k, k < N → parseFieldDescriptor (T k).2.2.1 = some (ty k)) (hown : s.vm.findClass own = some m.cls) (hcl : (Jvm.Cond.classLink own index C).before args s = true) (hinst : (Jvm.Cond.instantiable C N).before args s = true) (hini : (Jvm.Cond.initialized C).before args s = true)
    (hK : va_K D cl tys s) (hc : cl[ci]? = some (C, T, N)) {fs : List Value} (hfs : ∀ j, j < N → defaultValue (ty j) = vp_V fs j) (hcells : cells + 1 ≤ R.cells) (hslots : slots + N ≤ R.slots) (hdg : decode cc pc = .ok (.new index, 3))
    (kk : ∀ (H1 : Heap), H1.size = H.size + 1 → (∀ q, q < H.size → H1[q]? = H[q]?) → va_at D cl (H.size, .inr (ci, fs)) H1 → W p l e R s m args below meth c H1 locs (cells + 1) (slots + N) Q (F0 m (pc + 3) ls (.ref H.size :: rest))) : W p l e R s m args below meth c H locs cells slots Q (F0 m pc ls rest) := by
  have hKn := hK.1 ci _ hc
  refine W.newcK hexec hb hown hcl hinst hini rfl hdg hcells hslots hKn.2.1 rfl fun H1 kC hkC e1 z1 o1 => ?_
  exact kk H1 z1 o1 ⟨_, hc, (u_born ty hts hin hKn hkC e1 hty).to hfs⟩
/-- a reference written into a row; the heap's size stays -/
theorem my_astq (hexec : p.tables.exec = Jvm.exec) (hb : c.code = cc) (hK : va_K D cl tys s) (hP : va_P D cl ws H) (hD : va_D A ws) (hS : va_S A H0 H locs) (q0 t0 qk ci : Nat) {cA : ClassId} {r : vw_C} {n v : Nat} {vs : List Value} {f : Nat → Option Nat} (ha : ws[q0]? = some (a, .inl (cA, n, .inr (.inr (.inr (.inr f)))))) (ht : tys[t0]? = some (cA, .object r.1)) (hv : ws[qk]? = some (v, .inr (ci, vs))) (hc : cl[ci]? = some r) {i : Int32} (hin : vp_in i n) (hdg : decode cc pc = .ok (.aastore, 1))
    (kk : ∀ (H1 : Heap) (locs1 : List Loc), H1.size = H.size → va_P D cl (ws.set q0 (a, .inl (cA, n, .inr (.inr (.inr (.inr (va_up f i.toNatClampNeg (some v)))))))) H1 → va_S A H0 H1 locs1 → W p l e R s m args below meth c H1 locs1 cells slots Q (F0 m (pc + 1) ls rest)) : W p l e R s m args below meth c H locs cells slots Q (F0 m pc ls (.ref v :: .int i :: .ref a :: rest)) := by
  have hlt : i.toNatClampNeg < n := Nat.not_le.mp fun q => hin (Or.inr q)
  have h0 : ¬ i < 0 := fun q => hin (Or.inl q)
  obtain ⟨r', hr', cellV, g1, g2, g3, -⟩ := hP qk _ hv
  have hcls := (hK.1 ci r hc).2
  obtain ⟨kA, comp, k1, k2, k3, -⟩ := (hK.2 t0 _ ht).2
  have hcomp : comp = D.1 ci := Option.some.inj (k3.symm.trans hcls.1)
  subst hcomp
  obtain ⟨kC, hkC, -⟩ := hcls.2
  refine W.aast hexec hb (hP q0 _ ha) (fun q h => by cases h) (fun h => by cases h) k1 k2 rfl hkC ⟨h0, by show _ < (arrV _ _ _).slots.size; rw [arrV_size]; exact hlt⟩ g1 (fun q h => by rw [g3] at h; cases h) (by rw [g2]; exact hkC) (by rw [g2]; exact va_assign hcls) rfl rfl hdg fun H1 e1 z oq => ?_
  refine kk H1 _ z (hP.set hD ha ?_ oq) (hS.put z oq (hD.2 q0 _ ha))
  show H1[a]? = some (vp_cell _ _)
  rw [e1, vp_cell_q, vp_cell_q, arrV_store]
  congr 2
  funext q
  by_cases hq : q = i.toNatClampNeg
  · subst hq
    simp [updV, va_up, va_rf]
  · simp [updV, va_up, hq]
end
/-- a cell not made yet: its places are as they are born -/
def fz (π : Int → Int → Int) (σ : Mem) (k : Nat) : Prop := (∀ j : Nat, π k j = -1) ∧ ∀ j : Nat, σ k j = if (shp k).1 < 100 ∧ fk (shp k).1 j = 3 then -1 else 0
theorem wsL_succ (g : Gx) (π : Int → Int → Int) (n : Nat) (σ : Mem) : wsL g (π, n + 1, σ) = wsL g (π, n, σ) ++ [(gB g + n, cellE g π σ n)] := by
  unfold wsL
  rw [List.range_succ, List.map_append]
  rfl
theorem va_S_new {A : Nat → Prop} {H0 H H1 : Heap} {locs : List Loc} (h : va_S A H0 H locs) (z : H.size ≤ H1.size) (o : ∀ q, q < H.size → H1[q]? = H[q]?) : va_S A H0 H1 locs :=
  ⟨Nat.le_trans h.1 z, fun x h1 h2 => (o x (Nat.lt_of_lt_of_le h1 h.1)).trans (h.2.1 x h1 h2), h.2.2⟩
/-- one cell more -/
theorem WD_new {g : Gx} {π : Int → Int → Int} {n : Nat} {σ : Mem} {H H1 : Heap} (h : WD g (π, n, σ) H) (hn : n < NC) (z : H1.size = H.size + 1) (o : ∀ q, q < H.size → H1[q]? = H[q]?) (hat : va_at (gD g) cls (gB g + n, cellE g π σ n) H1) : WD g (π, n + 1, σ) H1 := by
  have hs : H.size = gB g + n := h.1.2 hn
  refine ⟨⟨?_, fun _ => ?_⟩, ?_, h.2.2.1, hn⟩
  · show gB g + (n + 1) ≤ _; omega
  · show _ = gB g + (n + 1); omega
  · rw [wsL_succ]
    have hP : va_P (gD g) cls (wsL g (π, n, σ)) H := h.2.1
    refine (hP.kept fun k x hx => o x.1 ((hP k x hx).lt)).app fun k x hx => ?_
    have hz : k < 1 := (List.getElem?_eq_some_iff.mp hx).1
    rw [show k = 0 by omega] at hx
    cases hx
    exact hat
theorem fresh_v {g : Gx} {π : Int → Int → Int} {σ : Mem} {k a j : Nat} (ha : a < 13) (hj : j < (clsOf a).2.2) (h1 : π k j = -1) (h2 : σ k j = if fk a j = 3 then -1 else 0) : defaultValue (tyOf a j) = fldV g π σ k a j := by
  have hk := fk_ok a ha j hj
  unfold fldV
  unfold kdT at hk
  split at hk
  · rename_i e; simp at hk; rw [e, hk] ; rw [h2, hk]; rfl
  · rename_i e; simp at hk; rw [e, hk] ; rw [h2, hk]; rfl
  · rename_i e; simp at hk; rw [e, hk] ; rw [h2, hk]; rfl
  · rename_i e; simp at hk; rw [e]; rcases hk with z | z
    · rw [z, h1]; rfl
    · rw [h2, z]; rfl
  · rename_i e; simp at hk; rw [e]; rcases hk with z | z
    · rw [z, h1]; rfl
    · rw [h2, z]; rfl
  · cases hk
theorem vp_V_map {f : Nat → Value} {n j : Nat} (h : j < n) : vp_V ((List.range n).map f) j = f j := by
  unfold vp_V
  simp [h]
variable {M : MI} {d mc ms pos pc a b c cells slots : Nat} {v : Int} {tl : List Nat} {stk : List AV} {loc : Lo} {X : HS} {K : Int → HS → Prop}
theorem aw_new (hM : chkM M = true) (hi : (mT M)[pos]? = some (37, pc, a, b, c, v, tl)) (ha : a < 13) (hk : (shp X.2.1).1 = a) (hn : X.2.1 < NC) (hz : fz X.1 X.2.2 X.2.1) (h1 : cells + 1 ≤ mc) (h2 : slots + (shp X.2.1).2 ≤ ms) (k : AW M d mc ms (pos + 1) ((2, (X.2.1 : Int)) :: stk) loc (X.1, X.2.1 + 1, X.2.2) (cells + 1) (slots + (shp X.2.1).2) K) : AW M d mc ms pos stk loc X cells slots K := by
  intro g p l e s m args below meth c0 Fz H locs ls hF hK hS hB hR hD hs hl hst hlo hc1 hc2
  have hdec := chk_dec hM hi
  have hfal := chk_fall hM hi
  have hpo := chk_pool hM hi
  rw [pcOf_at hi]
  obtain ⟨π, n, σ⟩ := X
  dsimp only at hk hn hz h2 k
  simp [poolO] at hpo
  have hw := CL_ok _ (List.mem_of_getElem? hpo)
  have hcl : Jvm.Cond.classLink (mO M) c (clsOf a).1 ∈ W0 := by
    have e : wCL (mOi M, c, a) = Jvm.Cond.classLink (mO M) c (clsOf a).1 := by
      unfold wCL
      dsimp only
      rw [if_pos ha, own_cls a ha]
      rfl
    rw [← e]; exact hw
  obtain ⟨h13, hsz⟩ := shp_ok n hn (by omega)
  rw [hk] at hsz
  have hin := inst_ok a ha
  have hts := hF.2.2.2.2.1
  have hsH : H.size = gB g + n := hD.1.2 hn
  have hfs : ∀ j, j < (clsOf a).2.2 → defaultValue (tyOf a j) = vp_V ((List.range (shp n).2).map (fldV g π σ n a)) j := by
    intro j hj
    rw [vp_V_map (by omega)]
    refine fresh_v ha hj (hz.1 j) ?_
    rw [hz.2 j, hk]
    have : a < 100 := by omega
    simp [this]
  refine my_new (D := gD g) (cl := cls) (tys := tysL g) (own := mO M) (C := (clsOf a).1) (T := (clsOf a).2.1) (N := (clsOf a).2.2) (ci := a) (Ts := W0) hF.1 hF.2.1 hts (cls_in a ha) (tyOf a) (cls_ty a ha) hF.2.2.2.1 (hts _ hcl) (hts _ hin.1) (hts _ hin.2) hK.1 (cls_at a ha) hfs (by show cells + 1 ≤ mc; exact h1) (by show slots + _ ≤ ms; omega) hdec (fun H1 z o hat => ?_)
  have hD1 : WD g (π, n + 1, σ) H1 := WD_new hD hn z o (by
    rw [cellE_obj hk (by omega), ← hsH]
    exact hat)
  have k := k g p l e s m args below meth c0 Fz H1 locs ls hF hK hS hB hR hD1 (va_S_new hs (by omega) o) hl (List.forall_mem_cons.mpr ⟨trivial, hst⟩) hlo (by omega) (by omega)
  rw [fall1 hfal (by simp)] at k
  rw [hsH, ← hsz]
  exact k
theorem aw_newp {N : Nat} (hM : chkM M = true) (hi : (mT M)[pos]? = some (38, pc, a, b, c, v, tl)) (ha : a = 100 ∨ a = 101 ∨ a = 102) (hk : shp X.2.1 = (a, N)) (hn : X.2.1 < NC) (hz : fz X.1 X.2.2 X.2.1) (h1 : cells + 1 ≤ mc) (h2 : slots + N ≤ ms) (k : AW M d mc ms (pos + 1) ((2, (X.2.1 : Int)) :: stk) loc (X.1, X.2.1 + 1, X.2.2) (cells + 1) (slots + N) K) : AW M d mc ms pos ((0, (N : Int)) :: stk) loc X cells slots K := by
  intro g p l e s m args below meth c0 Fz H locs ls hF hK hS hB hR hD hs hl hst hlo hc1 hc2
  have hdec := chk_dec hM hi
  have hfal := chk_fall hM hi
  have hpo := chk_pool hM hi
  rw [pcOf_at hi]
  obtain ⟨π, n, σ⟩ := X
  dsimp only at hk hn hz k
  have hst2 := List.forall_mem_cons.mp hst
  have hts := hF.2.2.2.2.1
  have hsH : H.size = gB g + n := hD.1.2 hn
  have hbig : N ≤ 1000 := by
    have h : (List.range NC).all (fun k => decide ((shp k).2 ≤ 1000)) = true := by decide +kernel
    have := of_decide_eq_true (List.all_eq_true.mp h n (List.mem_range.mpr hn))
    rw [hk] at this
    exact this
  have ri : r32 (N : Int) := by unfold r32; omega
  have hneg : ¬ Int32.ofInt (N : Int) < 0 := by rw [← i32_0, i32_lt ri r32_0]; omega
  have hN : (Int32.ofInt (N : Int)).toNatClampNeg = N := i32_clamp ri
  have e1 : (shp n).1 = a := by rw [hk]
  have e2 : (shp n).2 = N := by rw [hk]
  have go : ∀ (H1 : Heap), H1.size = H.size + 1 → (∀ q, q < H.size → H1[q]? = H[q]?) → va_at (gD g) cls (gB g + n, cellE g π σ n) H1 → W p l e (rmd d mc ms) s m args below meth c0 H1 locs (cells + 1) (slots + N) Fz (F0 m (pc + 2) ls (.ref H.size :: stk.map (emb g))) := by
    intro H1 z o hat
    have hD1 : WD g (π, n + 1, σ) H1 := WD_new hD hn z o hat
    have k := k g p l e s m args below meth c0 Fz H1 locs ls hF hK hS hB hR hD1 (va_S_new hs (by omega) o) hl (List.forall_mem_cons.mpr ⟨trivial, hst2.2⟩) hlo (by omega) (by omega)
    rw [fall1 hfal (by simp)] at k
    rw [hsH]
    exact k
  obtain ⟨t0, t1, t2, t3, t4, t5, t6⟩ := ty_at g
  rcases ha with rfl | rfl | rfl
  · refine va_newaK (atype := .int) hF.1 hF.2.1 (hts _ arc_0) rfl hdec rfl hneg hN (by show N * 4 ≤ _; omega) h1 h2 rfl fun H1 cA e3 z o _ hnm => go H1 z o ?_
    have hc : cA = gA g 0 := Option.some.inj (hnm.symm.trans (hK.1.2 0 _ t0).2)
    subst hc
    rw [cellE_i e1, ← hsH]
    show H1[H.size]? = some (vp_cell _ _)
    rw [vp_cell_i, e3, e2]
    congr 2
    funext j
    rw [hz.2 j, e1]
    rfl
  · refine va_newaK (atype := .long) hF.1 hF.2.1 (hts _ arc_1) rfl hdec rfl hneg hN (by show N * 8 ≤ _; omega) h1 h2 rfl fun H1 cA e3 z o _ hnm => go H1 z o ?_
    have hc : cA = gA g 1 := Option.some.inj (hnm.symm.trans (hK.1.2 1 _ t1).2)
    subst hc
    rw [cellE_l e1, ← hsH]
    show H1[H.size]? = some (vp_cell _ _)
    rw [vp_cell_l, e3, e2]
    congr 2
    funext j
    rw [hz.2 j, e1]
    rfl
  · refine va_newaK (atype := .boolean) hF.1 hF.2.1 (hts _ arc_2) rfl hdec rfl hneg hN (by show N * 1 ≤ _; omega) h1 h2 rfl fun H1 cA e3 z o _ hnm => go H1 z o ?_
    have hc : cA = gA g 2 := Option.some.inj (hnm.symm.trans (hK.1.2 2 _ t2).2)
    subst hc
    rw [cellE_z e1, ← hsH]
    show H1[H.size]? = some (vp_cell _ _)
    rw [vp_cell_i, e3, e2]
    congr 2
    funext j
    rw [hz.2 j, e1]
    rfl
/-- the class numbers of what a row of references bears -/
def ciA (a : Nat) : Nat := if a = 103 then 3 else if a = 104 then 8 else 7
theorem aw_newq {N : Nat} (hM : chkM M = true) (hi : (mT M)[pos]? = some (39, pc, a, b, c, v, tl)) (ha : a = 103 ∨ a = 104 ∨ a = 105) (hk : shp X.2.1 = (a, N)) (hn : X.2.1 < NC) (hz : fz X.1 X.2.2 X.2.1) (h1 : cells + 1 ≤ mc) (h2 : slots + N ≤ ms) (k : AW M d mc ms (pos + 1) ((2, (X.2.1 : Int)) :: stk) loc (X.1, X.2.1 + 1, X.2.2) (cells + 1) (slots + N) K) : AW M d mc ms pos ((0, (N : Int)) :: stk) loc X cells slots K := by
  intro g p l e s m args below meth c0 Fz H locs ls hF hK hS hB hR hD hs hl hst hlo hc1 hc2
  have hdec := chk_dec hM hi
  have hfal := chk_fall hM hi
  have hpo := chk_pool hM hi
  rw [pcOf_at hi]
  obtain ⟨π, n, σ⟩ := X
  dsimp only at hk hn hz k
  simp [poolO] at hpo
  have hw := CL_ok _ (List.mem_of_getElem? hpo)
  have hst2 := List.forall_mem_cons.mp hst
  have hts := hF.2.2.2.2.1
  have hsH : H.size = gB g + n := hD.1.2 hn
  have hbig : N ≤ 1000 := by
    have h : (List.range NC).all (fun k => decide ((shp k).2 ≤ 1000)) = true := by decide +kernel
    have := of_decide_eq_true (List.all_eq_true.mp h n (List.mem_range.mpr hn))
    rw [hk] at this
    exact this
  have ri : r32 (N : Int) := by unfold r32; omega
  have hneg : ¬ Int32.ofInt (N : Int) < 0 := by rw [← i32_0, i32_lt ri r32_0]; omega
  have hN : (Int32.ofInt (N : Int)).toNatClampNeg = N := i32_clamp ri
  have e1 : (shp n).1 = a := by rw [hk]
  have e2 : (shp n).2 = N := by rw [hk]
  obtain ⟨t0, t1, t2, t3, t4, t5, t6⟩ := ty_at g
  have go : ∀ (C : String) (t : Nat), a - 100 = t → (tysL g)[t]? = some (gA g t, .object C) → va_AO C s → Jvm.Cond.classLink (mO M) c C ∈ W0 → W p l e (rmd d mc ms) s m args below meth c0 H locs cells slots Fz (F0 m pc ls (emb g (0, (N : Int)) :: stk.map (emb g))) := by
    intro C t et ht hao hcl
    refine W.anew (n := Int32.ofInt (N : Int)) (rest := stk.map (emb g)) hF.1 hF.2.1 hF.2.2.2.1 (hts _ hcl) (va_AO.use hao) rfl hdec rfl hneg (by rw [hN]; omega) h1 (by rw [hN]; exact h2) fun cA kA comp f1 f2 f3 f4 => ?_
    rw [hN]
    generalize hH1 : H.push ({ cls := cA, slots := Array.replicate N .null, vm := .none } : Cell) = H1
    have z1 : H1.size = H.size + 1 := by rw [← hH1, Array.size_push]
    have e3 : H1[H.size]? = some (arrV cA N (fun _ => .null)) := by rw [← hH1, Array.getElem?_push_size, ← arrV_new]
    have o1 : ∀ q : Nat, q < H.size → H1[q]? = H[q]? := fun q hq => by rw [← hH1, Array.getElem?_push, if_neg (Nat.ne_of_lt hq)]
    obtain ⟨_, _, _, _, _, hnm⟩ := (hK.1.2 t _ ht).2
    have hc : cA = gA g t := Option.some.inj (f1.symm.trans hnm)
    subst hc
    have hD1 : WD g (π, n + 1, σ) H1 := WD_new hD hn z1 o1 (by
      rw [cellE_q e1 (by omega), ← hsH, et]
      show H1[H.size]? = some (vp_cell _ _)
      rw [vp_cell_q, e3, e2]
      congr 2
      funext j
      rw [hz.1 j]
      rfl)
    have k := k g p l e s m args below meth c0 Fz H1 locs ls hF hK hS hB hR hD1 (va_S_new hs (by omega) o1) hl (List.forall_mem_cons.mpr ⟨trivial, hst2.2⟩) hlo (by omega) (by omega)
    rw [fall1 hfal (by simp)] at k
    rw [hsH]
    exact k
  rcases ha with rfl | rfl | rfl
  · exact go _ 3 rfl t3 hK.2.2.2.1.1 hw
  · exact go _ 4 rfl t4 hK.2.2.2.1.2.1 hw
  · exact go _ 5 rfl t5 hK.2.2.2.1.2.2 hw
/-- rows of rows -/
theorem aw_newm {N L : Nat} {π : Int → Int → Int} (hM : chkM M = true) (hi : (mT M)[pos]? = some (40, pc, a, b, c, v, tl)) (hk : shp X.2.1 = (106, N)) (hkr : ∀ i, i < N → shp (X.2.1 + 1 + i) = (100, L)) (hL : L ≤ 1000) (hn : X.2.1 + N < NC) (hz : ∀ i, i ≤ N → fz X.1 X.2.2 (X.2.1 + i)) (hp1 : ∀ k : Nat, k < X.2.1 → ∀ j : Nat, π k j = X.1 k j) (hp2 : ∀ i : Nat, i < N → π X.2.1 i = ((X.2.1 + 1 + i : Nat) : Int)) (h1 : cells + (1 + N) ≤ mc) (h2 : slots + (N + N * L) ≤ ms) (k : AW M d mc ms (pos + 1) ((2, (X.2.1 : Int)) :: stk) loc (π, X.2.1 + 1 + N, X.2.2) (cells + 1 + N) (slots + N + N * L) K) : AW M d mc ms pos ((0, (L : Int)) :: (0, (N : Int)) :: stk) loc X cells slots K := by
  intro g p l e s m args below meth c0 Fz H locs ls hF hK hS hB hR hD hs hl hst hlo hc1 hc2
  have hdec := chk_dec hM hi
  have hfal := chk_fall hM hi
  have hpo := chk_pool hM hi
  rw [pcOf_at hi]
  obtain ⟨π0, n, σ⟩ := X
  dsimp only at hk hkr hn hz hp1 hp2 k
  simp [poolO] at hpo
  have hw := CL_ok _ (List.mem_of_getElem? hpo)
  have hst2 := List.forall_mem_cons.mp hst
  have hst3 := List.forall_mem_cons.mp hst2.2
  have hts := hF.2.2.2.2.1
  have hsH : H.size = gB g + n := hD.1.2 (by show n < NC; omega)
  have hbig : N ≤ 1000 := by
    have h : (List.range NC).all (fun k => decide ((shp k).2 ≤ 1000)) = true := by decide +kernel
    have := of_decide_eq_true (List.all_eq_true.mp h n (List.mem_range.mpr (by omega)))
    rw [hk] at this
    exact this
  have ri : r32 (N : Int) := by unfold r32; omega
  have rL : r32 (L : Int) := by unfold r32; omega
  have hneg : ¬ Int32.ofInt (N : Int) < 0 := by rw [← i32_0, i32_lt ri r32_0]; omega
  have hneL : ¬ Int32.ofInt (L : Int) < 0 := by rw [← i32_0, i32_lt rL r32_0]; omega
  have hN : (Int32.ofInt (N : Int)).toNatClampNeg = N := i32_clamp ri
  have hLL : (Int32.ofInt (L : Int)).toNatClampNeg = L := i32_clamp rL
  obtain ⟨t0, t1, t2, t3, t4, t5, t6⟩ := ty_at g
  refine my_multi (N := Int32.ofInt (N : Int)) (M := Int32.ofInt (L : Int)) (rest := stk.map (emb g)) hF.1 hF.2.1 hF.2.2.2.1 (hts _ hw) hK.2.2.2.2 (hts _ arc_0) rfl hdec rfl hneg hneL (by rw [hN]; omega) (by rw [hLL]; exact hL) hs.1 (by rw [hN]; exact h1) (by rw [hN, hLL]; exact h2) fun cA cI H1 f1 f2 z e3 e4 o => ?_
  rw [hN, hLL]
  rw [hN] at z e3 e4
  rw [hLL] at e4
  have hcA : cA = gA g 6 := Option.some.inj (f1.symm.trans (hK.1.2 6 _ t6).2)
  have hcI : cI = gA g 0 := Option.some.inj (f2.symm.trans (hK.1.2 0 _ t0).2)
  subst hcA; subst hcI
  have hP : va_P (gD g) cls (wsL g (π0, n, σ)) H := hD.2.1
  have hD1 : WD g (π, n + 1 + N, σ) H1 := by
    refine ⟨⟨?_, fun _ => ?_⟩, ?_, hD.2.2.1, by show n + 1 + N ≤ NC; omega⟩
    · show gB g + (n + 1 + N) ≤ _; omega
    · show _ = gB g + (n + 1 + N); omega
    · intro q x hx
      obtain ⟨hq, rfl⟩ := wsL_inv hx
      dsimp only at hq ⊢
      have hq : q < n + 1 + N := hq
      by_cases h5 : q < n
      · have ec : cellE g π σ q = cellE g π0 σ q := by
          have e : ∀ j : Nat, π q j = π0 q j := hp1 q h5
          have ef : fldV g π σ q (shp q).1 = fldV g π0 σ q (shp q).1 := by
            funext j
            unfold fldV
            simp only [e]
          unfold cellE
          simp only [e, ef]
        rw [ec]
        have hx0 : (wsL g (π0, n, σ))[q]? = some (gB g + q, cellE g π0 σ q) := wsL_get (X := (π0, n, σ)) h5
        exact (hP q _ hx0).kept (o _ (hP q _ hx0).lt)
      · by_cases h6 : q = n
        · subst h6
          rw [cellE_q (by rw [hk]) (by decide : 103 ≤ 106), hk, ← hsH]
          show H1[H.size]? = some (vp_cell _ _)
          rw [vp_cell_q, e3]
          unfold mgO
          congr 1
          unfold arrV
          congr 1
          apply Array.ext
          · simp
          · intro i hi1 hi2
            simp only [Array.size_ofFn] at hi1
            simp only [Array.getElem_ofFn, hi1, if_true]
            rw [hp2 i hi1, hsH]
            show Value.ref (gB g + q + 1 + i) = Value.ref (gB g + (q + 1 + i))
            rw [show gB g + q + 1 + i = gB g + (q + 1 + i) by omega]
        · obtain ⟨i, rfl⟩ : ∃ i, q = n + 1 + i := ⟨q - n - 1, by omega⟩
          have hi9 : i < N := by omega
          rw [cellE_i (by rw [hkr i hi9]), hkr i hi9, show gB g + (n + 1 + i) = H.size + 1 + i by omega]
          show H1[H.size + 1 + i]? = some (vp_cell _ _)
          rw [vp_cell_i, e4 i hi9]
          unfold mgI
          congr 2
          funext j
          have h7 := (hz (i + 1) (by omega)).2 j
          rw [show n + (i + 1) = n + 1 + i by omega, hkr i hi9] at h7
          rw [h7]
          rfl
  have k := k g p l e s m args below meth c0 Fz H1 locs ls hF hK hS hB hR hD1 (va_S_new hs (by omega) o) hl (List.forall_mem_cons.mpr ⟨trivial, hst3.2⟩) hlo (by omega) (by omega)
  rw [fall1 hfal (by simp)] at k
  rw [hsH]
  exact k
theorem aw_obj {r : Int} (hM : chkM M = true) (hi : (mT M)[pos]? = some (41, pc, a, b, c, v, tl)) (hr : 0 ≤ r) (hsz : szS stk ≤ 8) (k : AW M (d + 1) mc ms (pos + 1) stk loc X cells slots K) : AW M (d + 1) mc ms pos ((2, r) :: stk) loc X cells slots K := by
  intro g p l e s m args below meth c0 Fz H locs ls hF hK hS hB hR hD hs hl hst hlo hc1 hc2
  have hdec := chk_dec hM hi
  have hfal := chk_fall hM hi
  have hpo := chk_pool hM hi
  rw [pcOf_at hi]
  simp [poolO] at hpo
  have hw := AC_ok _ (List.mem_of_getElem? hpo)
  have hlk : Jvm.Cond.methodLink (mO M) c objectInit ∈ W0 := by
    unfold wAC at hw
    dsimp only at hw
    rw [if_neg (by omega), show c + 1000 - 1000 = c by omega] at hw
    exact hw
  have hts := hF.2.2.2.2.1
  have hst2 := List.forall_mem_cons.mp hst
  obtain ⟨q, rfl⟩ : ∃ q : Nat, r = (q : Int) := ⟨r.toNat, by omega⟩
  have k := k g p l e s m args below meth c0 Fz H locs ls hF hK hS hB hR hD hs hl (hst2.2) hlo hc1 hc2
  rw [fall1 hfal (by simp)] at k
  refine W.objInit (a := gB g + q) (rest := stk.map (emb g)) hF.1 hF.2.1 hF.2.2.2.1 (hts _ hlk) (hts _ oin_i) (hts _ oin_c) rfl (by rw [hF.2.2.1]; exact hl.1) rfl hdec (by show 1 ≤ d + 1; omega) ?_ k
  have h := lv_room (m := m) (pc := pc) (ls := ls) (rest := []) (st := stk.map (emb g)) (by rw [szS_cat]; exact hsz)
  show 2 * 0 + _ + 12 ≤ 64 * (d + 1)
  rw [szS_cat]
  omega
theorem aw_aast {r i w : Int} (hM : chkM M = true) (hi : (mT M)[pos]? = some (26, pc, a, b, c, v, tl)) (ha : a = 103 ∨ a = 104 ∨ a = 105) (hr : sK r = a) (hn : r < X.2.1) (h0 : 0 ≤ i) (h1 : i < sN r) (hw : sK w = ciA a) (hwn : w < X.2.1) (k : AW M d mc ms (pos + 1) stk loc (st X.1 r i w, X.2.1, X.2.2) cells slots K) : AW M d mc ms pos ((2, w) :: (0, i) :: (2, r) :: stk) loc X cells slots K := by
  intro g p l e s m args below meth c0 Fz H locs ls hF hK hS hB hR hD hs hl hst hlo hc1 hc2
  have hdec := chk_dec hM hi
  have hfal := chk_fall hM hi
  have hpo := chk_pool hM hi
  rw [pcOf_at hi]
  have hst1 := List.forall_mem_cons.mp hst
  have hst2 := List.forall_mem_cons.mp hst1.2
  have hst3 := List.forall_mem_cons.mp hst2.2
  have ri : r32 i := hst2.1
  obtain ⟨j, rfl⟩ : ∃ j : Nat, i = (j : Int) := ⟨i.toNat, by omega⟩
  have hcl : (Int32.ofInt (j : Int)).toNatClampNeg = j := i32_clamp ri
  obtain ⟨q, rfl, hq⟩ := ref_of hr (by omega)
  have hci : ciA a < 13 := by rcases ha with rfl | rfl | rfl <;> decide
  obtain ⟨z, rfl, hzk⟩ := ref_of hw (by omega)
  have hqn : q < X.2.1 := by omega
  have hzn : z < X.2.1 := by omega
  have hin : vp_in (Int32.ofInt (j : Int)) (shp q).2 := i32_in ri h0 h1
  have hws := wsL_get (g := g) hqn
  rw [cellE_q hq (by omega)] at hws
  have hwz := wsL_get (g := g) hzn
  rw [cellE_obj hzk (by omega)] at hwz
  obtain ⟨t0, t1, t2, t3, t4, t5, t6⟩ := ty_at g
  have ht : (tysL g)[a - 100]? = some (gA g (a - 100), .object (clsOf (ciA a)).1) := by
    rcases ha with rfl | rfl | rfl
    · exact t3
    · exact t4
    · exact t5
  have hop : insO M (26, pc, a, b, c, v, tl) = (.aastore, 1) := by rcases ha with rfl | rfl | rfl <;> rfl
  have hdec : decode (mC M) pc = .ok (.aastore, 1) := by rw [← hop]; exact hdec
  refine my_astq (D := gD g) (cl := cls) (tys := tysL g) (ws := wsL g X) (A := AA g) hF.1 hF.2.1 hK.1 hD.2.1 (wsL_D g X) hs q (a - 100) z (ciA a) hws ht hwz (cls_at _ hci) hin hdec (fun H1 locs1 zz hP1 hS1 => ?_)
  rw [hcl] at hP1
  have hcell : cellE g (st X.1 q j z) X.2.2 q = .inl (gA g (a - 100), (shp q).2, .inr (.inr (.inr (.inr (va_up (fun j => refO g (X.1 q j)) j (some (gB g + z))))))) := by
    rw [cellE_q hq (by omega)]
    congr 7
    funext i2
    unfold va_up
    rw [st_at]
    by_cases e2 : i2 = j
    · subst e2; simp [refO]
    · rw [if_neg (by omega), if_neg e2]
  have k := k g p l e s m args below meth c0 Fz H1 locs1 ls hF hK hS hB hR ⟨⟨by rw [zz]; exact hD.1.1, by rw [zz]; exact hD.1.2⟩, va_Pset (X' := (st X.1 q j z, X.2.1, X.2.2)) hP1 rfl hcell (fun j2 hj2 => cellE_pi hj2), hD.2.2.1, hD.2.2.2⟩ hS1 hl hst3.2 hlo hc1 hc2
  rw [fall1 hfal (by simp), hop] at k
  exact k
