variable {M : MI} {d mc ms pos pc a b c cells slots : Nat} {v : Int} {tl : List Nat} {stk : List AV} {loc : Lo} {X : HS} {K : Int → HS → Prop}
section
variable {p : Program} {l : Launch} {e : Env} {R : Room} {s : State} {m : MethodId} {args : Array Value} {below : List Frame} {meth : Method} {c : Code} {H H0 : Heap} {locs : List Loc} {cells slots : Nat} {Q : State → Prop} {cc : ByteArray} {pc : Nat} {ls : Array Slot} {rest : List Value} {D : va_G} {cl : List vw_C} {A : Nat → Prop} {a : Nat} {tys : List (ClassId × FieldType)} {ws : va_W}
/-- a field written, final or not; the heap's size stays -/
theorem my_put (hexec : p.tables.exec = Jvm.exec) (hb : c.code = cc) {own C : String} {T : u_T} {N ci index : Nat} {Ts : List Jvm.Cond} (hts : ∀ w ∈ Ts, w.before args s = true) (hin : ∀ w ∈ u_ws C T N, w ∈ Ts) (tyq : Nat → FieldType) (hty : ∀ k, k < N → parseFieldDescriptor (T k).2.2.1 = some (tyq k)) (hnm : ∀ a, a < N → ∀ b, b < N → a ≠ b → (T a).2.1 ≠ (T b).2.1) (hown : s.vm.findClass own = some m.cls) (hK : va_K D cl tys s) (hP : va_P D cl ws H) (hD : va_D A ws) (hS0 : va_S A H0 H locs) (q0 : Nat) {fs : List Value} (he : ws[q0]? = some (a, .inr (ci, fs))) (hc : cl[ci]? = some (C, T, N)) (k : Nat) (hk : k < N) (hlink : (Jvm.Cond.fieldLink own index (T k).1 (T k).2.1 (T k).2.2.1).before args s = true) (hfin : (T k).2.2.2 = false ∨ ((T k).2.2.2 = true ∧ meth.name = "<init>" ∧ (T k).1 = own)) {v : Value} (hn : narrow (tyq k) v = v) (hfit : fits (tyq k) v = true) (hl : k < fs.length)
    (hdg : decode cc pc = .ok (.putfield index, 3)) (kk : ∀ (H1 : Heap) (locs1 : List Loc), H1.size = H.size → va_P D cl (ws.set q0 (a, .inr (ci, fs.set k v))) H1 → va_S A H0 H1 locs1 → W p l e R s m args below meth c H1 locs1 cells slots Q (F0 m (pc + 3) ls rest)) : W p l e R s m args below meth c H locs cells slots Q (F0 m pc ls (v :: .ref a :: rest)) := by
  have hap := va_apart (own := own) hts hin tyq hty hnm hK hc
  obtain ⟨r, h1, cell, q1, q2, q3, q4⟩ := hP q0 _ he
  have hr : r = (C, T, N) := Option.some.inj (h1.symm.trans hc)
  subst hr
  obtain ⟨hS, hfc, kC, hkC, hkind⟩ := hK.1 ci _ hc
  obtain ⟨cf, kf, fi, f, hi, hsl⟩ := hS k hk
  have hst := (u_facts hfc hkC (u_lays hts hin hk) hi).1
  have hlay := hts _ (hin _ (u_in_lay hk))
  unfold u_lay at hlay
  have hgo : ∀ H1 : Heap, H1[a]? = some (cell.setSlot f.slot v) → H1.size = H.size → (∀ q, q ≠ a → H1[q]? = H[q]?) → W p l e R s m args below meth c H1 (locs ++ [⟨a, f.slot⟩]) cells slots Q (F0 m (pc + 3) ls rest) := by
    intro H1 e1 e2 e3
    rw [hsl] at e1 ⊢
    exact kk H1 _ e2 (hP.set hD he ⟨_, hc, t_OB.to (V := updV (vp_V fs) k v) ⟨_, e1, q2, q3, t_set q4 hap hk v⟩ (fun j _ => vp_updV_set hl v j)⟩ e3) (hS0.put e2 e3 (hD.2 q0 _ he))
  rcases hfin with hfin | ⟨hfin, hini, hdecl⟩
  · rw [if_neg (by rw [hfin]; decide)] at hlay
    have h6 := u_store hfc hkC hkind hlay hi (hty k hk) hn hfit
    exact W.putK hexec hb (f := f) ⟨hown, hlink, ⟨_, _, _, hi⟩, hst⟩ (by rw [q2]; exact h6) q1 q3 (by rw [hsl]; exact k2_hasslot (q4 k hk)) rfl rfl hdg hgo
  · rw [if_pos hfin] at hlay
    have hcf : m.cls = cf := by
      obtain ⟨_, _, c', _, _, _, -, -, hf', -, -, -, hown2, -⟩ := Cond.laysFinal_spec hlay
      have e1 : c' = cf := by have := hi.symm.trans hf'; simp at this; exact this.1.symm
      rw [hdecl] at hown2
      rw [← e1]; exact Option.some.inj (hown.symm.trans hown2)
    have h6 := u_fits hfc hkC hkind (Or.inr hlay) hi (hty k hk) hn hfit
    exact W.putFinK hexec hb hown hlink hi hst hcf hini (by rw [q2]; exact h6) q1 q3 (by rw [hsl]; exact k2_hasslot (q4 k hk)) rfl rfl hdg hgo
/-- an int written into a row; the heap's size stays -/
theorem my_iast (hexec : p.tables.exec = Jvm.exec) (hb : c.code = cc) (hK : va_K D cl tys s) (hP : va_P D cl ws H) (hD : va_D A ws) (hS : va_S A H0 H locs) (q0 t0 : Nat) {cA : ClassId} {n : Nat} {f : Nat → Int32} (ha : ws[q0]? = some (a, .inl (cA, n, .inl f))) (ht : tys[t0]? = some (cA, .int)) {i : Int32} {x : Int32} (hin : vp_in i n) (hdg : decode cc pc = .ok (.iastore, 1))
    (kk : ∀ (H1 : Heap) (locs1 : List Loc), H1.size = H.size → va_P D cl (ws.set q0 (a, .inl (cA, n, .inl (fun j => if j = i.toNatClampNeg then x else f j)))) H1 → va_S A H0 H1 locs1 → W p l e R s m args below meth c H1 locs1 cells slots Q (F0 m (pc + 1) ls rest)) : W p l e R s m args below meth c H locs cells slots Q (F0 m pc ls (.int x :: .int i :: .ref a :: rest)) := by
  refine W.iast hexec hb (hP q0 _ ha) ((hK.2 t0 _ ht).1 n (fun j => .int (f j))) (fun q => by cases q) (by show ¬ (i < 0 ∨ (arrV _ _ _).slots.size ≤ _); rw [arrV_size]; exact hin) rfl rfl hdg fun H1 e z oq => ?_
  refine kk H1 _ z (hP.set hD ha ?_ oq) (hS.put z oq (hD.2 q0 _ ha))
  show H1[a]? = some (vp_cell _ _)
  rw [e, vp_cell_i, vp_cell_i, arrV_store]
  congr 2
  funext q
  by_cases hq : q = i.toNatClampNeg
  · subst hq
    simp [updV]
  · simp [updV, hq]
end
/-- the memory after a field is written -/
def pfv (X : HS) (a b : Nat) (r w : Int) : HS := if fk a b = 2 then (st X.1 r b w, X.2.1, X.2.2) else (X.1, X.2.1, st X.2.2 r b w)
/-- the mark that a value for a field must have -/
def pft (a b : Nat) : Nat := if fk a b = 1 then 1 else if fk a b = 2 then 2 else if fk a b = 3 then 2 else 0
theorem map_set {f f' : Nat → Value} {n b : Nat} {w : Value} (hb : f' b = w) (ho : ∀ j, j ≠ b → f' j = f j) : ((List.range n).map f).set b w = (List.range n).map f' := by
  apply List.ext_getElem?
  intro i
  rw [List.getElem?_set, List.getElem?_map, List.getElem?_map, List.length_map, List.length_range]
  by_cases hi : i < n
  · rw [List.getElem?_range hi]
    by_cases e : b = i
    · subst e
      rw [if_pos rfl, if_pos hi]
      simp [hb]
    · rw [if_neg e]
      simp [ho i (fun q => e q.symm)]
  · rw [List.getElem?_eq_none (by rw [List.length_range]; omega)]
    by_cases e : b = i
    · subst e; rw [if_pos rfl, if_neg hi]; rfl
    · rw [if_neg e]; rfl
theorem kd_fit (g : Gx) {t : FieldType} {kd : Nat} {w : Int} (hk : kdT t kd = true) (hbool : kd = 4 → w = 0 ∨ w = 1) :
    narrow t (emb g ((if kd = 1 then 1 else if kd = 2 then 2 else if kd = 3 then 2 else 0), w)) = emb g ((if kd = 1 then 1 else if kd = 2 then 2 else if kd = 3 then 2 else 0), w) ∧ fits t (emb g ((if kd = 1 then 1 else if kd = 2 then 2 else if kd = 3 then 2 else 0), w)) = true := by
  unfold kdT at hk
  split at hk
  · simp at hk; subst hk; exact ⟨rfl, rfl⟩
  · simp at hk; subst hk; exact ⟨rfl, rfl⟩
  · simp at hk; subst hk
    rcases hbool rfl with rfl | rfl
    · exact ⟨rfl, rfl⟩
    · exact ⟨rfl, rfl⟩
  · simp at hk
    have e : (if kd = 1 then 1 else if kd = 2 then 2 else if kd = 3 then 2 else 0) = 2 := by rcases hk with rfl | rfl <;> rfl
    rw [e, emb_2]
    cases refO g w <;> exact ⟨rfl, rfl⟩
  · simp at hk
    have e : (if kd = 1 then 1 else if kd = 2 then 2 else if kd = 3 then 2 else 0) = 2 := by rcases hk with rfl | rfl <;> rfl
    rw [e, emb_2]
    cases refO g w <;> exact ⟨rfl, rfl⟩
  · cases hk
theorem fldV_pi {g : Gx} {π : Int → Int → Int} {σ : Mem} {k c j : Nat} {r i w : Int} (h : ¬ ((k : Int) = r ∧ (j : Int) = i)) : fldV g (st π r i w) σ k c j = fldV g π σ k c j := by unfold fldV; rw [st_ne h]
theorem fldV_si {g : Gx} {π : Int → Int → Int} {σ : Mem} {k c j : Nat} {r i w : Int} (h : ¬ ((k : Int) = r ∧ (j : Int) = i)) : fldV g π (st σ r i w) k c j = fldV g π σ k c j := by unfold fldV; rw [st_ne h]
theorem cellE_pi {g : Gx} {π : Int → Int → Int} {σ : Mem} {r : Nat} {i w : Int} {k : Nat} (h : k ≠ r) : cellE g (st π r i w) σ k = cellE g π σ k := by
  have e : ∀ j : Int, st π r i w k j = π k j := fun j => st_ne (fun q => h (by omega))
  unfold cellE
  simp only [e]
  have e2 : fldV g (st π r i w) σ k (shp k).1 = fldV g π σ k (shp k).1 := by
    funext j
    unfold fldV
    simp only [e]
  rw [e2]
theorem aw_putf {r w : Int} (hM : chkM M = true) (hi : (mT M)[pos]? = some (23, pc, a, b, c, v, tl)) (hr : sK r = a) (ha : a < 100) (hn : r < X.2.1) (hbool : fk a b = 4 → w = 0 ∨ w = 1) (k : AW M d mc ms (pos + 1) stk loc (pfv X a b r w) cells slots K) : AW M d mc ms pos ((pft a b, w) :: (2, r) :: stk) loc X cells slots K := by
  intro g p l e s m args below meth c0 Fz H locs ls hF hK hS hB hR hD hs hl hst hlo hc1 hc2
  have hdec := chk_dec hM hi
  have hfal := chk_fall hM hi
  have hpo := chk_pool hM hi
  rw [pcOf_at hi]
  simp [poolO] at hpo
  obtain ⟨⟨hb, hlk⟩, hfn⟩ := hpo
  have hst1 := List.forall_mem_cons.mp hst
  have hst2 := List.forall_mem_cons.mp hst1.2
  obtain ⟨q, rfl, hq⟩ := ref_of hr (by omega)
  have hqn : q < X.2.1 := by omega
  have hNC := shp_lt hq (by omega)
  obtain ⟨h13, hsz⟩ := shp_ok q hNC (by omega)
  rw [hq] at h13 hsz
  have hkd := fk_ok a h13 b hb
  have hfit := kd_fit g hkd hbool
  have hws := wsL_get (g := g) hqn
  rw [cellE_obj hq ha] at hws
  have hnX : (pfv X a b q w).2.1 = X.2.1 := by unfold pfv; split <;> rfl
  have hset : cellE g (pfv X a b q w).1 (pfv X a b q w).2.2 q = .inr (a, ((List.range (shp q).2).map (fldV g X.1 X.2.2 q a)).set b (emb g (pft a b, w))) := by
    rw [cellE_obj hq ha]
    congr 2
    symm
    apply map_set
    · unfold pfv pft fldV emb
      by_cases h1 : fk a b = 1
      · simp [h1, st_self]
      · by_cases h2 : fk a b = 2
        · simp [h2, st_self]
        · by_cases h3 : fk a b = 3
          · simp [h3, st_self]
          · simp [h1, h2, h3, st_self]
    · intro j hj
      unfold pfv
      split
      · exact fldV_pi (fun z => hj (by omega))
      · exact fldV_si (fun z => hj (by omega))
  have hoth : ∀ j, j ≠ q → cellE g (pfv X a b q w).1 (pfv X a b q w).2.2 j = cellE g X.1 X.2.2 j := by
    intro j hj
    unfold pfv
    split
    · exact cellE_pi hj
    · exact cellE_st hj
  have hPW : PW g (pfv X a b q w).2.2 := by
    unfold pfv
    split
    · exact hD.2.2.1
    · rename_i h2
      refine PW_st hD.2.2.1 (fun j hj => ?_)
      have hjb : j = b := by omega
      subst hjb
      have e : kdAt q j = fk a j := by unfold kdAt; rw [hq, if_pos ha]
      rw [e]
      have hv := hst1.1
      unfold rgk
      unfold rgv pft at hv
      by_cases h1 : fk a j = 1
      · simp [h1] at hv ⊢; exact hv
      · by_cases h3 : fk a j = 3
        · simp [h3]
        · simp [h1, h2, h3] at hv
          by_cases h4 : fk a j = 4
          · simp [h4]; exact hbool h4
          · simp [h1, h4]; intro _; exact hv
  rw [show (List.map (emb g) ((pft a b, w) :: (2, (q : Int)) :: stk)) = emb g (pft a b, w) :: .ref (gB g + q) :: stk.map (emb g) from rfl]
  refine my_put (D := gD g) (cl := cls) (tys := tysL g) (ws := wsL g X) (N := (clsOf a).2.2) (T := (clsOf a).2.1) (C := (clsOf a).1) (ci := a) (Ts := W0) (A := AA g) hF.1 hF.2.1 hF.2.2.2.2.1 (cls_in a h13) (tyOf a) (cls_ty a h13) (cls_nm a h13) hF.2.2.2.1 hK.1 hD.2.1 (wsL_D g X) hs q hws (cls_at a h13) b hb (hF.2.2.2.2.1 _ (FL_ok _ (List.mem_of_getElem? hlk))) ?_ hfit.1 hfit.2 (by simp [hsz, hb]) hdec (fun H1 locs1 z hP1 hS1 => ?_)
  · rcases hfn with z | z
    · exact Or.inl z
    · by_cases y : ((clsOf a).2.1 b).2.2.2 = false
      · exact Or.inl y
      · exact Or.inr ⟨by simpa using y, by rw [hF.2.2.2.2.2.2.2]; exact z.1, by rw [fld_own a h13 b hb, z.2]; rfl⟩
  · have k := k g p l e s m args below meth c0 Fz H1 locs1 ls hF hK hS hB hR ⟨⟨by rw [hnX, z]; exact hD.1.1, by rw [hnX, z]; exact hD.1.2⟩, va_Pset hP1 hnX hset hoth, hPW, by rw [hnX]; exact hD.2.2.2⟩ hS1 hl hst2.2 hlo hc1 hc2
    rw [fall1 hfal (by simp)] at k
    exact k
