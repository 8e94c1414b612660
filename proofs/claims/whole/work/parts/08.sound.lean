variable {M : MI} {d mc ms pos pc a b c cells slots : Nat} {v : Int} {tl : List Nat} {stk : List AV} {loc : Lo} {X : HS} {K : Int → HS → Prop}
def cnd (c : Nat) (x y : Int) : Prop := if c = 0 then x = y else if c = 1 then ¬ x = y else if c = 2 then x < y else if c = 3 then ¬ x < y else if c = 4 then y < x else ¬ y < x
/-- two ways on, by a comparison -/
def brc (c : Nat) (x y : Int) (T F : Prop) : Prop := if c = 0 then (x = y → T) ∧ (¬ x = y → F) else if c = 1 then (x = y → F) ∧ (¬ x = y → T) else if c = 2 then (x < y → T) ∧ (¬ x < y → F) else if c = 3 then (x < y → F) ∧ (¬ x < y → T) else if c = 4 then (y < x → T) ∧ (¬ y < x → F) else (y < x → F) ∧ (¬ y < x → T)
theorem brc_e {c : Nat} {x y : Int} {T F : Prop} (h : brc c x y T F) : (cnd c x y → T) ∧ (¬ cnd c x y → F) := by
  unfold brc at h
  unfold cnd
  repeat' split at h
  all_goals simp_all
theorem brc_mono {c : Nat} {x y : Int} {T F T' F' : Prop} (h : brc c x y T F) (hT : T → T') (hF : F → F') : brc c x y T' F' := by
  unfold brc at h ⊢
  repeat' split at h
  all_goals simp_all
theorem off_at (M : MI) (a pc : Nat) : (pc : Int) + offs M a pc = (pcOf M a : Int) := by unfold offs; omega
section
variable {p : Program} {l : Launch} {e : Env} {R : Room} {s : State} {m : MethodId} {args : Array Value} {below : List Frame} {meth : Method} {c0 : Code} {H : Heap} {locs : List Loc} {cells slots : Nat} {Q : State → Prop} {cc : ByteArray} {pc : Nat} {ls : Array Slot} {rest : List Value}
theorem ic_all {c : Nat} {x y : Int} {off : Int} {tgt : Nat} (hx : p.tables.exec = Jvm.exec) (hb : c0.code = cc) (rx : r32 x) (ry : r32 y) (hdg : decode cc pc = .ok (.if_icmp (cndO c) off, 3)) (ht : (pc : Int) + off = (tgt : Int))
    (kt : cnd c x y → W p l e R s m args below meth c0 H locs cells slots Q (F0 m tgt ls rest)) (kf : ¬ cnd c x y → W p l e R s m args below meth c0 H locs cells slots Q (F0 m (pc + 3) ls rest)) : W p l e R s m args below meth c0 H locs cells slots Q (F0 m pc ls (.int (Int32.ofInt y) :: .int (Int32.ofInt x) :: rest)) := by
  by_cases h0 : c = 0
  · subst h0; exact lv_icmp_eq hx hb hdg ht (fun q => kt ((i32_eq rx ry).mp q)) (fun q => kf (fun z => q ((i32_eq rx ry).mpr z)))
  by_cases h1 : c = 1
  · subst h1; exact lv_icmp_ne hx hb hdg ht (fun q => kt (fun z => q ((i32_eq rx ry).mpr z))) (fun q => kf (fun z => z ((i32_eq rx ry).mp q)))
  by_cases h2 : c = 2
  · subst h2; exact lv_icmp_lt hx hb hdg ht (fun q => kt ((i32_lt rx ry).mp q)) (fun q => kf (fun z => q ((i32_lt rx ry).mpr z)))
  by_cases h3 : c = 3
  · subst h3; exact lv_icmp_ge hx hb hdg ht (fun q => kt (fun z => absurd ((i32_le ry rx).mp q) (by omega))) (fun q => kf (fun z => q ((i32_le ry rx).mpr (by have z : ¬ x < _ := z; omega))))
  by_cases h4 : c = 4
  · subst h4; exact lv_icmp_gt hx hb hdg ht (fun q => kt ((i32_lt ry rx).mp q)) (fun q => kf (fun z => q ((i32_lt ry rx).mpr z)))
  have e1 : cndO c = .le := by simp [cndO, h0, h1, h2, h3, h4]
  have e2 : ∀ y : Int, cnd c x y = ¬ y < x := fun y => by simp [cnd, h0, h1, h2, h3, h4]
  rw [e1] at hdg
  rw [e2] at kt kf
  exact lv_icmp_le hx hb hdg ht (fun q => kt (by have := (i32_le rx ry).mp q; omega)) (fun q => kf (fun z => q ((i32_le rx ry).mpr (by omega))))
theorem if_all {c : Nat} {x : Int} {off : Int} {tgt : Nat} (hx : p.tables.exec = Jvm.exec) (hb : c0.code = cc) (rx : r32 x) (hdg : decode cc pc = .ok (.ifCond (cndO c) off, 3)) (ht : (pc : Int) + off = (tgt : Int))
    (kt : cnd c x 0 → W p l e R s m args below meth c0 H locs cells slots Q (F0 m tgt ls rest)) (kf : ¬ cnd c x 0 → W p l e R s m args below meth c0 H locs cells slots Q (F0 m (pc + 3) ls rest)) : W p l e R s m args below meth c0 H locs cells slots Q (F0 m pc ls (.int (Int32.ofInt x) :: rest)) := by
  have ry := r32_0
  by_cases h0 : c = 0
  · subst h0; exact lv_if_eq hx hb hdg ht (fun q => kt ((i32_eq rx ry).mp q)) (fun q => kf (fun z => q ((i32_eq rx ry).mpr z)))
  by_cases h1 : c = 1
  · subst h1; exact lv_if_ne hx hb hdg ht (fun q => kt (fun z => q ((i32_eq rx ry).mpr z))) (fun q => kf (fun z => z ((i32_eq rx ry).mp q)))
  by_cases h2 : c = 2
  · subst h2; exact lv_if_lt hx hb hdg ht (fun q => kt ((i32_lt rx ry).mp q)) (fun q => kf (fun z => q ((i32_lt rx ry).mpr z)))
  by_cases h3 : c = 3
  · subst h3; exact lv_if_ge hx hb hdg ht (fun q => kt (fun z => absurd ((i32_le ry rx).mp q) (by omega))) (fun q => kf (fun z => q ((i32_le ry rx).mpr (by have z : ¬ x < _ := z; omega))))
  by_cases h4 : c = 4
  · subst h4; exact lv_if_gt hx hb hdg ht (fun q => kt ((i32_lt ry rx).mp q)) (fun q => kf (fun z => q ((i32_lt ry rx).mpr z)))
  have e1 : cndO c = .le := by simp [cndO, h0, h1, h2, h3, h4]
  have e2 : ∀ y : Int, cnd c x y = ¬ y < x := fun y => by simp [cnd, h0, h1, h2, h3, h4]
  rw [e1] at hdg
  rw [e2] at kt kf
  exact lv_if_le hx hb hdg ht (fun q => kt (by have := (i32_le rx ry).mp q; omega)) (fun q => kf (fun z => q ((i32_le rx ry).mpr (by omega))))
theorem lg_all (x y : Int) (rx : r64 x) (ry : r64 y) : ∃ z : Int, r32 z ∧ lg_cmp (Int64.ofInt x) (Int64.ofInt y) = Int32.ofInt z ∧ ∀ c, cnd c z 0 ↔ cnd c x y := by
  refine ⟨if y < x then 1 else if x = y then 0 else -1, ?_, ?_, fun c => ?_⟩
  · repeat' split
    all_goals (unfold r32; omega)
  · unfold lg_cmp
    have h1 : (Int64.ofInt x > Int64.ofInt y) ↔ y < x := i64_lt ry rx
    have h2 := i64_eq rx ry
    by_cases q1 : y < x
    · rw [if_pos (h1.mpr q1), if_pos q1]; rfl
    · rw [if_neg (fun z => q1 (h1.mp z)), if_neg q1]
      by_cases q2 : x = y
      · rw [if_pos (h2.mpr q2), if_pos q2]; rfl
      · rw [if_neg (fun z => q2 (h2.mp z)), if_neg q2]; rfl
  · unfold cnd
    repeat' split
    all_goals omega
end
theorem aw_icmp {x y : Int} (hM : chkM M = true) (hi : (mT M)[pos]? = some (16, pc, a, b, c, v, tl)) (k : brc c x y (AW M d mc ms a stk loc X cells slots K) (AW M d mc ms (pos + 1) stk loc X cells slots K)) : AW M d mc ms pos ((0, y) :: (0, x) :: stk) loc X cells slots K := by
  obtain ⟨k1, k2⟩ := brc_e k
  intro g p l e s m args below meth c0 Fz H locs ls hF hK hS hB hR hD hs hl hst hlo hc1 hc2
  have hdec := chk_dec hM hi
  have hfal := chk_fall hM hi
  have hpo := chk_pool hM hi
  rw [pcOf_at hi]
  have hst1 := List.forall_mem_cons.mp hst
  have hst2 := List.forall_mem_cons.mp hst1.2
  refine ic_all hF.1 hF.2.1 hst2.1 hst1.1 hdec (off_at M a pc) (fun q => ?_) (fun q => ?_)
  · have k := k1 q
    have k := k g p l e s m args below meth c0 Fz H locs ls hF hK hS hB hR hD hs hl (hst2.2) hlo hc1 hc2
    exact k
  · have k := k2 q
    have k := k g p l e s m args below meth c0 Fz H locs ls hF hK hS hB hR hD hs hl (hst2.2) hlo hc1 hc2
    rw [fall1 hfal (by simp)] at k
    exact k
theorem aw_ifc {x : Int} (hM : chkM M = true) (hi : (mT M)[pos]? = some (15, pc, a, b, c, v, tl)) (k : brc c x 0 (AW M d mc ms a stk loc X cells slots K) (AW M d mc ms (pos + 1) stk loc X cells slots K)) : AW M d mc ms pos ((0, x) :: stk) loc X cells slots K := by
  obtain ⟨k1, k2⟩ := brc_e k
  intro g p l e s m args below meth c0 Fz H locs ls hF hK hS hB hR hD hs hl hst hlo hc1 hc2
  have hdec := chk_dec hM hi
  have hfal := chk_fall hM hi
  have hpo := chk_pool hM hi
  rw [pcOf_at hi]
  have hst2 := List.forall_mem_cons.mp hst
  refine if_all hF.1 hF.2.1 hst2.1 hdec (off_at M a pc) (fun q => ?_) (fun q => ?_)
  · have k := k1 q
    have k := k g p l e s m args below meth c0 Fz H locs ls hF hK hS hB hR hD hs hl (hst2.2) hlo hc1 hc2
    exact k
  · have k := k2 q
    have k := k g p l e s m args below meth c0 Fz H locs ls hF hK hS hB hR hD hs hl (hst2.2) hlo hc1 hc2
    rw [fall1 hfal (by simp)] at k
    exact k
theorem aw_lci {x y : Int} (hM : chkM M = true) (hi : (mT M)[pos]? = some (14, pc, a, b, c, v, tl)) (k : brc c x y (AW M d mc ms a stk loc X cells slots K) (AW M d mc ms (pos + 2) stk loc X cells slots K)) : AW M d mc ms pos ((1, y) :: (1, x) :: stk) loc X cells slots K := by
  obtain ⟨k1, k2⟩ := brc_e k
  intro g p l e s m args below meth c0 Fz H locs ls hF hK hS hB hR hD hs hl hst hlo hc1 hc2
  have hdec := chk_dec hM hi
  have hfal := chk_fall hM hi
  have hpo := chk_pool hM hi
  rw [pcOf_at hi]
  have hst1 := List.forall_mem_cons.mp hst
  have hst2 := List.forall_mem_cons.mp hst1.2
  obtain ⟨z, rz, ez, hz⟩ := lg_all x y hst2.1 hst1.1
  simp [fallO] at hfal
  refine W.lcmp hF.1 hF.2.1 hdec ?_
  rw [ez]
  refine if_all hF.1 hF.2.1 rz hfal.2 (off_at M a (pc + 1)) (fun q => ?_) (fun q => ?_)
  · have k := k1 ((hz c).mp q)
    have k := k g p l e s m args below meth c0 Fz H locs ls hF hK hS hB hR hD hs hl (hst2.2) hlo hc1 hc2
    exact k
  · have k := k2 (fun w => q ((hz c).mpr w))
    have k := k g p l e s m args below meth c0 Fz H locs ls hF hK hS hB hR hD hs hl (hst2.2) hlo hc1 hc2
    rw [hfal.1] at k
    exact k
theorem aw_goto (hM : chkM M = true) (hi : (mT M)[pos]? = some (19, pc, a, b, c, v, tl)) (k : AW M d mc ms a stk loc X cells slots K) : AW M d mc ms pos stk loc X cells slots K := by
  intro g p l e s m args below meth c0 Fz H locs ls hF hK hS hB hR hD hs hl hst hlo hc1 hc2
  have hdec := chk_dec hM hi
  have hfal := chk_fall hM hi
  have hpo := chk_pool hM hi
  rw [pcOf_at hi]
  have k := k g p l e s m args below meth c0 Fz H locs ls hF hK hS hB hR hD hs hl (hst) hlo hc1 hc2
  exact lv_goto hF.1 hF.2.1 hdec (off_at M a pc) k
theorem refO_none {g : Gx} {x : Int} : refO g x = none ↔ x = -1 := by
  match x with
  | .ofNat k => exact ⟨(fun h => by cases h), (fun h => by cases h)⟩
  | .negSucc 0 => exact ⟨fun _ => rfl, fun _ => rfl⟩
  | .negSucc (n + 1) => exact ⟨(fun h => by cases h), (fun h => by cases h)⟩
theorem aw_ifnull {x : Int} (hM : chkM M = true) (hi : (mT M)[pos]? = some (17, pc, a, b, c, v, tl)) (k : brc 0 x (-1) (AW M d mc ms a stk loc X cells slots K) (AW M d mc ms (pos + 1) stk loc X cells slots K)) : AW M d mc ms pos ((2, x) :: stk) loc X cells slots K := by
  obtain ⟨k1, k2⟩ := brc_e k
  intro g p l e s m args below meth c0 Fz H locs ls hF hK hS hB hR hD hs hl hst hlo hc1 hc2
  have hdec := chk_dec hM hi
  have hfal := chk_fall hM hi
  have hpo := chk_pool hM hi
  rw [pcOf_at hi]
  have hst2 := List.forall_mem_cons.mp hst
  simp only [List.map_cons, emb_2]
  cases q : refO g x with
  | none =>
    have k := k1 (refO_none.mp q)
    have k := k g p l e s m args below meth c0 Fz H locs ls hF hK hS hB hR hD hs hl (hst2.2) hlo hc1 hc2
    exact lv_ifnullN hF.1 hF.2.1 hdec (off_at M a pc) k
  | some y =>
    have k := k2 (fun z => by rw [refO_none.mpr z] at q; cases q)
    have k := k g p l e s m args below meth c0 Fz H locs ls hF hK hS hB hR hD hs hl (hst2.2) hlo hc1 hc2
    rw [fall1 hfal (by simp)] at k
    exact lv_ifnull hF.1 hF.2.1 hdec k
theorem refO_inj {g : Gx} {x y : Int} (hx : -1 ≤ x) (hy : -1 ≤ y) : refO g x = refO g y ↔ x = y := by
  constructor
  · intro h
    match x, y with
    | .ofNat i, .ofNat j => simp [refO] at h; rw [h]
    | .ofNat i, .negSucc 0 => simp [refO] at h
    | .negSucc 0, .ofNat j => simp [refO] at h
    | .negSucc 0, .negSucc 0 => rfl
    | .negSucc (n + 1), _ => omega
    | _, .negSucc (n + 1) => omega
  · intro h; rw [h]
theorem aw_acmp {x y : Int} (hM : chkM M = true) (hi : (mT M)[pos]? = some (18, pc, a, b, c, v, tl)) (hx : -1 ≤ x) (hy : -1 ≤ y) (k : brc 1 x y (AW M d mc ms a stk loc X cells slots K) (AW M d mc ms (pos + 1) stk loc X cells slots K)) : AW M d mc ms pos ((2, y) :: (2, x) :: stk) loc X cells slots K := by
  obtain ⟨k1, k2⟩ := brc_e k
  intro g p l e s m args below meth c0 Fz H locs ls hF hK hS hB hR hD hs hl hst hlo hc1 hc2
  have hdec := chk_dec hM hi
  have hfal := chk_fall hM hi
  have hpo := chk_pool hM hi
  rw [pcOf_at hi]
  have hst2 := List.forall_mem_cons.mp (List.forall_mem_cons.mp hst).2
  simp only [List.map_cons, emb_2]
  refine lv_acmp_ne hF.1 hF.2.1 hdec (off_at M a pc) (fun q => ?_) (fun q => ?_)
  · have k := k1 (fun z => q ((refO_inj hx hy).mpr z))
    have k := k g p l e s m args below meth c0 Fz H locs ls hF hK hS hB hR hD hs hl (hst2.2) hlo hc1 hc2
    exact k
  · have k := k2 (fun z => z ((refO_inj hx hy).mp q))
    have k := k g p l e s m args below meth c0 Fz H locs ls hF hK hS hB hR hD hs hl (hst2.2) hlo hc1 hc2
    rw [fall1 hfal (by simp)] at k
    exact k
theorem aw_null (hM : chkM M = true) (hi : (mT M)[pos]? = some (36, pc, a, b, c, v, tl)) (k : AW M d mc ms (pos + 1) ((2, -1) :: stk) loc X cells slots K) : AW M d mc ms pos stk loc X cells slots K := by
  intro g p l e s m args below meth c0 Fz H locs ls hF hK hS hB hR hD hs hl hst hlo hc1 hc2
  have hdec := chk_dec hM hi
  have hfal := chk_fall hM hi
  have hpo := chk_pool hM hi
  rw [pcOf_at hi]
  have k := k g p l e s m args below meth c0 Fz H locs ls hF hK hS hB hR hD hs hl (List.forall_mem_cons.mpr ⟨trivial, hst⟩) hlo hc1 hc2
  rw [fall1 hfal (by simp)] at k
  exact lv_null hF.1 hF.2.1 hdec k
theorem cat1 {g : Gx} {w : AV} (h : ¬ w.1 = 1) : (emb g w).category = 1 := by
  have h1 := cat_emb g w
  have h2 : (w.1 == 1) = false := by simp [h]
  rw [h2] at h1
  rcases lv_cat (emb g w) with q | q
  · exact q
  · rw [q] at h1; cases h1
theorem aw_dup {w : AV} (hM : chkM M = true) (hi : (mT M)[pos]? = some (28, pc, a, b, c, v, tl)) (hw : ¬ w.1 = 1) (k : AW M d mc ms (pos + 1) (w :: w :: stk) loc X cells slots K) : AW M d mc ms pos (w :: stk) loc X cells slots K := by
  intro g p l e s m args below meth c0 Fz H locs ls hF hK hS hB hR hD hs hl hst hlo hc1 hc2
  have hdec := chk_dec hM hi
  have hfal := chk_fall hM hi
  have hpo := chk_pool hM hi
  rw [pcOf_at hi]
  have hst2 := List.forall_mem_cons.mp hst
  have k := k g p l e s m args below meth c0 Fz H locs ls hF hK hS hB hR hD hs hl (List.forall_mem_cons.mpr ⟨hst2.1, hst⟩) hlo hc1 hc2
  rw [fall1 hfal (by simp)] at k
  exact lv_dup hF.1 hF.2.1 hdec (cat1 hw) k
theorem aw_dup2 {w u : AV} (hM : chkM M = true) (hi : (mT M)[pos]? = some (29, pc, a, b, c, v, tl)) (hw : ¬ w.1 = 1) (hu : ¬ u.1 = 1) (k : AW M d mc ms (pos + 1) (w :: u :: w :: u :: stk) loc X cells slots K) : AW M d mc ms pos (w :: u :: stk) loc X cells slots K := by
  intro g p l e s m args below meth c0 Fz H locs ls hF hK hS hB hR hD hs hl hst hlo hc1 hc2
  have hdec := chk_dec hM hi
  have hfal := chk_fall hM hi
  have hpo := chk_pool hM hi
  rw [pcOf_at hi]
  have hst1 := List.forall_mem_cons.mp hst
  have hst2 := List.forall_mem_cons.mp hst1.2
  have k := k g p l e s m args below meth c0 Fz H locs ls hF hK hS hB hR hD hs hl (List.forall_mem_cons.mpr ⟨hst1.1, List.forall_mem_cons.mpr ⟨hst2.1, hst⟩⟩) hlo hc1 hc2
  rw [fall1 hfal (by simp)] at k
  exact lv_dup2_11 hF.1 hF.2.1 hdec (cat1 hw) (cat1 hu) k
theorem aw_pop {w : AV} (hM : chkM M = true) (hi : (mT M)[pos]? = some (30, pc, a, b, c, v, tl)) (hw : ¬ w.1 = 1) (k : AW M d mc ms (pos + 1) stk loc X cells slots K) : AW M d mc ms pos (w :: stk) loc X cells slots K := by
  intro g p l e s m args below meth c0 Fz H locs ls hF hK hS hB hR hD hs hl hst hlo hc1 hc2
  have hdec := chk_dec hM hi
  have hfal := chk_fall hM hi
  have hpo := chk_pool hM hi
  rw [pcOf_at hi]
  have hst2 := List.forall_mem_cons.mp hst
  have k := k g p l e s m args below meth c0 Fz H locs ls hF hK hS hB hR hD hs hl (hst2.2) hlo hc1 hc2
  rw [fall1 hfal (by simp)] at k
  exact lv_pop hF.1 hF.2.1 hdec (cat1 hw) k
-- ===== switches
theorem aw_tsw {x : Int} (hM : chkM M = true) (hi : (mT M)[pos]? = some (20, pc, a, b, c, v, tl)) (k : ∀ t : Nat, (if v ≤ x ∧ x < v + tl.length then tl.getD (x - v).toNat 0 else a) = t → AW M d mc ms t stk loc X cells slots K) : AW M d mc ms pos ((0, x) :: stk) loc X cells slots K := by
  have k := k _ rfl
  intro g p l e s m args below meth c0 Fz H locs ls hF hK hS hB hR hD hs hl hst hlo hc1 hc2
  have hdec := chk_dec hM hi
  have hfal := chk_fall hM hi
  have hpo := chk_pool hM hi
  rw [pcOf_at hi]
  have hst2 := List.forall_mem_cons.mp hst
  have k := k g p l e s m args below meth c0 Fz H locs ls hF hK hS hB hR hD hs hl (hst2.2) hlo hc1 hc2
  have ex : (Int32.ofInt x).toInt = x := i32_to hst2.1
  by_cases h : v ≤ x ∧ x < v + tl.length
  · rw [if_pos h] at k
    have hlt : (x - v).toNat < tl.length := by omega
    refine lv_tableIn hF.1 hF.2.1 hdec (by rw [ex]; omega) (by rw [ex]; omega) (off := offs M (tl.getD (x - v).toNat 0) pc) ?_ (off_at M _ pc) k
    rw [ex]
    simp [hlt]
  · rw [if_neg h] at k
    refine lv_tableOut hF.1 hF.2.1 hdec (by rw [ex]; omega) (off_at M a pc) k
def lsw (tl : List Nat) (a : Nat) (x : Int) : Nat := match tl with
  | k :: t :: r => if x = (k : Int) then t else lsw r a x
  | _ => a
theorem lsw_off (M : MI) (pc a : Nat) (x : Int) : ∀ (tl : List Nat) (h : tl.length % 2 = 0), Op.lookupswitch.offset ((List.range (tl.length / 2)).map fun i => ((tl.getD (2 * i) 0 : Int), offs M (tl.getD (2 * i + 1) 0) pc)) (offs M a pc) x = offs M (lsw tl a x) pc
  | [], h => rfl
  | [y], h => by simp at h
  | k :: t :: r, h => by
    have hr : r.length % 2 = 0 := by simp at h; omega
    have ih := lsw_off M pc a x r hr
    have e : (k :: t :: r).length / 2 = r.length / 2 + 1 := by simp; omega
    rw [e, List.range_succ_eq_map, List.map_cons, List.map_map]
    have e2 : ((fun i => (((k :: t :: r).getD (2 * i) 0 : Int), offs M ((k :: t :: r).getD (2 * i + 1) 0) pc)) ∘ Nat.succ) = fun i => ((r.getD (2 * i) 0 : Int), offs M (r.getD (2 * i + 1) 0) pc) := by
      funext i
      simp only [Function.comp]
      have h1 : 2 * (i + 1) = 2 * i + 1 + 1 := by omega
      rw [show Nat.succ i = i + 1 from rfl, h1]
      rfl
    rw [e2]
    show Op.lookupswitch.offset (((k : Int), offs M t pc) :: _) _ x = _
    unfold lsw
    by_cases q : x = (k : Int)
    · rw [if_pos q]
      simp [Op.lookupswitch.offset, q]
    · rw [if_neg q, ← ih]
      simp [Op.lookupswitch.offset, q]
      intro z
      exact absurd z.symm q
theorem aw_lsw {x : Int} (hM : chkM M = true) (hi : (mT M)[pos]? = some (21, pc, a, b, c, v, tl)) (hev : tl.length % 2 = 0) (k : ∀ t : Nat, lsw tl a x = t → AW M d mc ms t stk loc X cells slots K) : AW M d mc ms pos ((0, x) :: stk) loc X cells slots K := by
  have k := k _ rfl
  intro g p l e s m args below meth c0 Fz H locs ls hF hK hS hB hR hD hs hl hst hlo hc1 hc2
  have hdec := chk_dec hM hi
  have hfal := chk_fall hM hi
  have hpo := chk_pool hM hi
  rw [pcOf_at hi]
  have hst2 := List.forall_mem_cons.mp hst
  have k := k g p l e s m args below meth c0 Fz H locs ls hF hK hS hB hR hD hs hl (hst2.2) hlo hc1 hc2
  have ex : (Int32.ofInt x).toInt = x := i32_to hst2.1
  refine lv_lookup hF.1 hF.2.1 hdec ?_ (by rw [ex]; exact lsw_off M pc a x tl hev) (off_at M _ pc) k
  have e : (((List.range (tl.length / 2)).map fun i => ((tl.getD (2 * i) 0 : Int), offs M (tl.getD (2 * i + 1) 0) pc)).toArray).toList = (List.range (tl.length / 2)).map fun i => ((tl.getD (2 * i) 0 : Int), offs M (tl.getD (2 * i + 1) 0) pc) := rfl
  rw [e]
  have hpo2 : ((((List.range (tl.length / 2)).map fun i => (tl.getD (2 * i) 0 : Int)).zip (((List.range (tl.length / 2)).map fun i => (tl.getD (2 * i) 0 : Int)).drop 1)).all fun q => decide (q.1 < q.2)) = true := hpo
  rw [List.all_eq_true] at hpo2 ⊢
  intro q hq
  rw [← List.map_drop, List.zip_map] at hq
  rw [← List.map_drop, List.zip_map] at hpo2
  obtain ⟨z, hz, rfl⟩ := List.mem_map.mp hq
  exact hpo2 _ (List.mem_map.mpr ⟨z, hz, rfl⟩)
