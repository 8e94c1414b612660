variable {M : MI} {d mc ms pos pc a b c cells slots : Nat} {v : Int} {tl : List Nat} {stk : List AV} {loc : Lo} {X : HS} {K : Int → HS → Prop}
theorem aw_last {r i w : Int} (hM : chkM M = true) (hi : (mT M)[pos]? = some (26, pc, 101, b, c, v, tl)) (hr : sK r = 101) (hn : X.2.1 = NC) (h0 : 0 ≤ i) (h1 : i < sN r) (k : AW M d mc ms (pos + 1) stk loc (X.1, X.2.1, st X.2.2 r i w) cells slots K) : AW M d mc ms pos ((1, w) :: (0, i) :: (2, r) :: stk) loc X cells slots K := by
  intro g p l e s m args below meth c0 Fz H locs ls hF hK hS hB hR hD hs hl hst hlo hc1 hc2
  have hdec := chk_dec hM hi
  have hfal := chk_fall hM hi
  have hpo := chk_pool hM hi
  rw [pcOf_at hi]
  have hst1 := List.forall_mem_cons.mp hst
  have hst2 := List.forall_mem_cons.mp hst1.2
  have hst3 := List.forall_mem_cons.mp hst2.2
  have ri : r32 i := hst2.1
  obtain ⟨j, rfl⟩ : ∃ j : Nat, i = (j : Int) := ⟨i.toNat, by omega⟩
  have hcl : (Int32.ofInt (j : Int)).toNatClampNeg = j := i32_clamp ri
  obtain ⟨q, rfl, hq⟩ := ref_of hr (by omega)
  have hNC := shp_lt hq (by omega)
  have hin : vp_in (Int32.ofInt (j : Int)) (shp q).2 := i32_in ri h0 h1
  have hws := wsL_get (g := g) (X := X) (k := q) (by omega)
  rw [cellE_l hq] at hws
  refine va_last (D := gD g) (cl := cls) (tys := tysL g) (ws := wsL g X) (A := AA g) hF.1 hF.2.1 hK.1 hD.2.1 (wsL_D g X) hs q 1 hws (ty_at g).2.1 hin hdec (fun H1 locs1 hP1 _ hS1 => ?_)
  rw [hcl] at hP1
  have hPW : PW g (st X.2.2 q j w) := PW_st hD.2.2.1 (fun j2 _ => by
    have e : kdAt q j2 = 1 := by unfold kdAt; rw [hq]; rfl
    rw [e]; exact hst1.1)
  have hP2 := va_Pset (X' := (X.1, X.2.1, st X.2.2 q j w)) hP1 rfl (cellE_lst hq) (fun j2 hj2 => cellE_st hj2)
  have hsz : gB g + X.2.1 ≤ H1.size := by
    have h1 := (hP2 (NC - 1) _ (wsL_get (by show _ < X.2.1; rw [hn]; decide))).lt
    dsimp only at h1
    rw [hn]
    have : 1 ≤ NC := by decide
    omega
  have k := k g p l e s m args below meth c0 Fz H1 locs1 ls hF hK hS hB hR ⟨⟨hsz, fun z => by have z2 : X.2.1 < NC := z; omega⟩, hP2, hPW, hD.2.2.2⟩ hS1 hl hst3.2 hlo hc1 hc2
  rw [fall1 hfal (by simp)] at k
  exact k
theorem aw_zast {r i w : Int} (hM : chkM M = true) (hi : (mT M)[pos]? = some (26, pc, 102, b, c, v, tl)) (hr : sK r = 102) (hn : X.2.1 = NC) (h0 : 0 ≤ i) (h1 : i < sN r) (hw : w = 0 ∨ w = 1) (k : AW M d mc ms (pos + 1) stk loc (X.1, X.2.1, st X.2.2 r i w) cells slots K) : AW M d mc ms pos ((0, w) :: (0, i) :: (2, r) :: stk) loc X cells slots K := by
  intro g p l e s m args below meth c0 Fz H locs ls hF hK hS hB hR hD hs hl hst hlo hc1 hc2
  have hdec := chk_dec hM hi
  have hfal := chk_fall hM hi
  have hpo := chk_pool hM hi
  rw [pcOf_at hi]
  have hst1 := List.forall_mem_cons.mp hst
  have hst2 := List.forall_mem_cons.mp hst1.2
  have hst3 := List.forall_mem_cons.mp hst2.2
  have ri : r32 i := hst2.1
  obtain ⟨j, rfl⟩ : ∃ j : Nat, i = (j : Int) := ⟨i.toNat, by omega⟩
  have hcl : (Int32.ofInt (j : Int)).toNatClampNeg = j := i32_clamp ri
  obtain ⟨q, rfl, hq⟩ := ref_of hr (by omega)
  have hNC := shp_lt hq (by omega)
  have hin : vp_in (Int32.ofInt (j : Int)) (shp q).2 := i32_in ri h0 h1
  have hws := wsL_get (g := g) (X := X) (k := q) (by omega)
  rw [cellE_z hq] at hws
  refine va_zast (D := gD g) (cl := cls) (tys := tysL g) (ws := wsL g X) (A := AA g) hF.1 hF.2.1 hK.1 hD.2.1 (wsL_D g X) hs q 2 hws (ty_at g).2.2.1 hin hdec (fun H1 locs1 hP1 _ hS1 => ?_)
  rw [hcl] at hP1
  have hPW : PW g (st X.2.2 q j w) := PW_st hD.2.2.1 (fun j2 _ => by
    have e : kdAt q j2 = 4 := by unfold kdAt; rw [hq]; rfl
    rw [e]; exact hw)
  have hcell : cellE g X.1 (st X.2.2 q j w) q = .inl (gA g 2, (shp q).2, .inl (upd (fun i => Int32.ofInt (X.2.2 q i)) j (vp_nar .boolean (Int32.ofInt w)))) := by
    have hnar : vp_nar .boolean (Int32.ofInt w) = Int32.ofInt w := by rcases hw with rfl | rfl <;> rfl
    rw [cellE_z hq, hnar]
    congr 3
    congr 1
    funext i
    unfold upd
    rw [st_at]
    by_cases e2 : i = j
    · subst e2; simp
    · rw [if_neg (by omega), if_neg e2]
  have hP2 := va_Pset (X' := (X.1, X.2.1, st X.2.2 q j w)) hP1 rfl hcell (fun j2 hj2 => cellE_st hj2)
  have hsz : gB g + X.2.1 ≤ H1.size := by
    have h1 := (hP2 (NC - 1) _ (wsL_get (by show _ < X.2.1; rw [hn]; decide))).lt
    dsimp only at h1
    rw [hn]
    have : 1 ≤ NC := by decide
    omega
  have k := k g p l e s m args below meth c0 Fz H1 locs1 ls hF hK hS hB hR ⟨⟨hsz, fun z => by have z2 : X.2.1 < NC := z; omega⟩, hP2, hPW, hD.2.2.2⟩ hS1 hl hst3.2 hlo hc1 hc2
  rw [fall1 hfal (by simp)] at k
  exact k
-- ===== calls
theorem AO.moved {s U : State} (hv : s.vm.Alike U.vm) (h : AO s) : AO U := by
  refine ⟨⟨h.1.1.moved hv, h.1.2.1.moved hv, h.1.2.2.moved hv⟩, ?_⟩
  obtain ⟨comp, c, k, h1, h2, h3, h4, h5⟩ := arrayOverA_spec h.2
  obtain ⟨k', hk', he⟩ := hv.2.2 _ _ h3
  have e0 := va_idx_bare s.vm comp
  have e1 := va_idx_bare U.vm comp
  have hbe : s.vm.bare = U.vm.bare := by first | exact hv.bare_eq | exact hv.bare_eq.symm
  rw [hbe] at e0
  have hi := e1.symm.trans (e0.trans h2)
  have hkind : k'.kind = .array comp (.array .int) := by rw [he]; exact h4
  have f1 : U.vm.findClass (FieldType.array .int).toString = some comp := by rw [hv.findClass]; exact h1
  have f2 : U.vm.findClass ("[" ++ (FieldType.array .int).toString) = some c := by rw [hv.findClass]; exact h5
  unfold va_Nw Jvm.Cond.before Jvm.Cond.holds
  simp only [Jvm.Cond.value]
  rw [f1, Option.bind_some]
  refine (congrArg (fun o : Option Nat => (o.bind (fun c => (U.vm.classes[c]?).map fun (k : Class) => match k.kind with | .array _ ty => decide (ty = FieldType.array .int) && decide (U.vm.findClass ("[" ++ (FieldType.array .int).toString) = some c) | _ => false) == some true)) hi).trans ?_
  simp [hk', hkind, f2]
theorem KD.warm {g : Gx} {s U : State} (hW : s.WarmedH U.vm) (h : KD g s) : KD g U := ⟨va_K.moved hW.alike h.1, fun q hq => va_Nw.warmM hW (h.2.1 q hq), va_Nw.warmF hW h.2.2.1, AO.moved hW.alike h.2.2.2⟩
theorem KD.same {g : Gx} {s U : State} (hv : s.vm = U.vm) (h : KD g s) : KD g U := ⟨va_K.moved (by rw [hv]; exact Vm.Alike.refl _) h.1, fun q hq => va_Nw.same rfl hv (h.2.1 q hq), va_Nw.same rfl hv h.2.2.1, AO.moved (by rw [hv]; exact Vm.Alike.refl _) h.2.2.2⟩
theorem SP.alike {g : Gx} {s U : State} {H : Heap} (hv : s.vm.Alike U.vm) (h : SP g s H) : SP g U H := ⟨⟨h.1.1.moved hv, h.1.2.moved hv⟩, ⟨h.2.1.1.moved hv, h.2.1.2.moved hv⟩, h.2.2.1.moved hv, h.2.2.2⟩
theorem SP.kept {g : Gx} {s : State} {H H1 : Heap} (h : SP g s H) (hB : gB g ≤ H.size) (hq : ∀ a : Nat, a < H.size → ¬ AA g a → H1[a]? = H[a]?) : SP g s H1 :=
  ⟨⟨h.1.1.kept hq, h.1.2.kept hq⟩, ⟨h.2.1.1.kept hq, h.2.1.2.kept hq⟩, h.2.2.1.kept (hq _ (by have := h.2.2.2; omega) (by have := h.2.2.2; show ¬ gB g ≤ gS g 3; omega)), h.2.2.2⟩
theorem push_emb (g : Gx) (M : MI) (v : Int) (stk : List AV) : (pushR M v stk).map (emb g) = (emR g M v).toList ++ stk.map (emb g) := by
  unfold pushR emR
  split <;> rfl
theorem push_rg {M : MI} {v : Int} {stk : List AV} (h : rgR M v) (hst : ∀ w ∈ stk, rgv w) : ∀ w ∈ pushR M v stk, rgv w := by
  unfold rgR at h
  unfold pushR
  split at h
  · exact hst
  · exact List.forall_mem_cons.mpr ⟨h, hst⟩
  · exact List.forall_mem_cons.mpr ⟨(show r32 v by unfold r32; omega), hst⟩
  · exact List.forall_mem_cons.mpr ⟨h, hst⟩
  · exact List.forall_mem_cons.mpr ⟨trivial, hst⟩
def szS (stk : List AV) : Nat := match stk with
  | [] => 0
  | v :: r => (if v.1 = 1 then 2 else 1) + szS r
theorem szS_cat (g : Gx) (stk : List AV) : ((stk.map (emb g)).map fun v => v.category).sum = szS stk := by
  induction stk with
  | nil => rfl
  | cons w r ih =>
    rw [List.map_cons, List.map_cons, List.sum_cons, ih]
    show _ = (if w.1 = 1 then 2 else 1) + szS r
    congr 1
    by_cases h : w.1 = 1
    · rw [if_pos h]
      have h1 := cat_emb g w
      rw [h] at h1
      simpa using h1
    · rw [if_neg h]; exact cat1 h
section
variable {p : Program} {l : Launch} {e : Env} {R : Room} {s : State} {m : MethodId} {args : Array Value} {below : List Frame} {meth : Method} {c0 : Code} {H : Heap} {locs : List Loc} {cells slots mc ms : Nat} {Q : State → Prop} {pc : Nat} {ls : Array Slot} {rest st0 : List Value} {g : Gx} {M : MI} {K : Int → HS → Prop}
theorem call_go (hr : va_Run p l e R s m args below meth c0 H locs cells slots mc ms (F0 m pc ls st0) rest (fun st oc t => (∃ (v : Int) (X' : HS), oc = .returned (emR g M v) ∧ rgR M v ∧ K v X' ∧ WD g X' t.heap) ∧ va_F (AA g) st t) (AA g)) (hS : va_S (AA g) s.heap H locs)
    (kk : ∀ (v : Int) (X' : HS) (H1 : Heap) (locs1 : List Loc), rgR M v → K v X' → WD g X' H1 → va_S (AA g) s.heap H1 locs1 → W p l e R s m args below meth c0 H1 locs1 (cells + mc) (slots + ms) Q (F0 m (pc + 3) ls ((emR g M v).toList ++ rest))) : W p l e R s m args below meth c0 H locs cells slots Q (F0 m pc ls st0) := by
  intro T hT Xs
  obtain ⟨v, st₀, t, T', L, h0, X', hL, e1, e2, ⟨⟨r, X1, hv, hrg, hk, hd⟩, hz, hkp⟩, stp⟩ := hr T hT Xs
  cases hv
  rw [h0] at hz hkp
  obtain ⟨t2, a1, b1⟩ := kk r X1 T'.heap (locs ++ L) hrg hk (by rw [e1]; exact hd)
    ⟨Nat.le_trans hS.1 (by rw [e1]; exact hz), fun q h1 h2 => by rw [e1, hkp q (Nat.lt_of_lt_of_le h1 hS.1) h2]; exact hS.2.1 q h1 h2, fun q hq => by
      rcases List.mem_append.mp hq with h | h
      · exact hS.2.2 q h
      · exact hL q h⟩ T' rfl X'
  exact ⟨t2, stp t2 a1, b1⟩
end
/-- the pieces that a call wants -/
theorem ok_facts {M : MI} (h : okM M) : Jvm.Cond.code (mN M) (mC M) (mL M) (mR M) ∈ W0 ∧ mL M ≤ 45 ∧ ((mN M).cls ≠ "java/lang/invoke/MethodHandle" ∧ (mN M).cls ≠ "java/lang/invoke/VarHandle") ∧ plainName (mN M).cls = true ∧ Jvm.Cond.initialized (mN M).cls ∈ W0 := ⟨h.1, h.2.1, h.2.2.1, h.2.2.2.1, h.2.2.2.2.1⟩
theorem W0_good : GoodIn W0 W0 := fun w hw => ⟨hw, good_of_word (List.mem_filter.mp hw).2⟩
theorem ws_good {M : MI} (h : okM M) : GoodIn W0 (wsM M) := by
  intro w hw
  rcases List.mem_cons.mp hw with rfl | hw
  · exact W0_good _ (ok_facts h).1
  · exact W0_good _ hw
theorem callB_ok {M M' : MI} {d mc ms mc' ms' n idx : Nat} {own : String} {s : State} {args : Array Value} (h : okM M') (hts : ∀ w ∈ W0, w.before args s = true) (hl : (Jvm.Cond.methodLink own idx (mN M')).before args s = true) (hn : mA M' = n) :
    CallB (rmd (d + 1) mc ms) s args own idx (mN M') (mC M') (mL M') (mR M') (wsM M') (rmd d mc' ms') mc' ms' n := by
  have hf := ok_facts h
  exact callB_of n hts (ws_good h) rfl rfl rfl (hts _ hf.2.2.2.2) hl ⟨hf.2.2.1.1, hf.2.2.1.2, by rw [← hn]; exact h.2.2.2.2.2.2.1⟩ ⟨Nat.le_refl _, by have := hf.2.1; show 8 + (mL M' + 11) + 64 * d ≤ 64 * (d + 1); omega⟩
theorem callN_ok {M M' : MI} {d mc ms mc' ms' n idx : Nat} {own host : String} {s : State} {args : Array Value} (h : okM M') (hts : ∀ w ∈ W0, w.before args s = true) (hl : va_Nw (.methodLinkNest own idx (mN M') host) s) (hn : mA M' = n) :
    va_CN (rmd (d + 1) mc ms) s args own idx (mN M') host (mC M') (mL M') (mR M') (wsM M') (rmd d mc' ms') mc' ms' n := by
  have hf := ok_facts h
  exact va_cnB n hts (ws_good h) rfl rfl rfl hl (hts _ hf.2.2.2.2) ⟨hf.2.2.1.1, hf.2.2.1.2, by rw [← hn]; exact h.2.2.2.2.2.2.1⟩ ⟨Nat.le_refl _, by have := hf.2.1; show 8 + (mL M' + 11) + 64 * d ≤ 64 * (d + 1); omega⟩
def PcA (g : Gx) (as : List AV) (X : HS) : Array Value → State → Prop := fun v U => v = (as.map (emb g)).toArray ∧ KD g U ∧ SP g U U.heap ∧ gB g ≤ U.heap.size ∧ WD g X U.heap
theorem PcA_blind (g : Gx) (as : List AV) (X : HS) : FrameBlind (PcA g as X) := by
  intro a U gf mk h
  exact ⟨h.1, KD.same rfl h.2.1, SP.alike (Vm.Alike.refl U.vm) h.2.2.1, h.2.2.2.1, h.2.2.2.2⟩
theorem PcA_at {g : Gx} {as : List AV} {X : HS} {s : State} {H : Heap} {locs : List Loc} (hK : KD g s) (hS : SP g s s.heap) (hB : gB g ≤ s.heap.size) (hD : WD g X H) (hs : va_S (AA g) s.heap H locs) : ∀ U : State, U.heap = H → s.WarmedH U.vm → PcA g as X (as.map (emb g)).toArray U := by
  intro U hU hW
  subst hU
  exact ⟨rfl, KD.warm hW hK, SP.alike hW.alike (SP.kept hS hB hs.2.1), Nat.le_trans hB hs.1, hD⟩
