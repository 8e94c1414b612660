variable {M : MI} {d mc ms pos pc a b c cells slots : Nat} {v : Int} {tl : List Nat} {stk : List AV} {loc : Lo} {X : HS} {K : Int → HS → Prop}
theorem fall1 {M : MI} {pos : Nat} {ai : AI} (h : fallO M pos ai = true) (h1 : ¬ (ai.1 = 19 ∨ ai.1 = 20 ∨ ai.1 = 21 ∨ ai.1 = 34 ∨ ai.1 = 14)) : pcOf M (pos + 1) = ai.2.1 + (insO M ai).2 := by
  obtain ⟨op, pc, a, b, c, v, tl⟩ := ai
  simp only [not_or] at h1
  simp [fallO, h1] at h
  exact h
theorem rgv_0 (x : Int) : rgv (0, x) = r32 x := rfl
theorem rgv_1 (x : Int) : rgv (1, x) = r64 x := rfl
theorem rgv_2 (x : Int) : rgv (2, x) := trivial
theorem emb_0 (g : Gx) (x : Int) : emb g (0, x) = .int (Int32.ofInt x) := rfl
theorem emb_1 (g : Gx) (x : Int) : emb g (1, x) = .long (Int64.ofInt x) := rfl
theorem emb_2 (g : Gx) (x : Int) : emb g (2, x) = va_rf (refO g x) := rfl
theorem aw_const (hM : chkM M = true) (hi : (mT M)[pos]? = some (0, pc, a, b, c, v, tl)) (k : AW M d mc ms (pos + 1) ((0, v) :: stk) loc X cells slots K) : AW M d mc ms pos stk loc X cells slots K := by
  intro g p l e s m args below meth c0 Fz H locs ls hF hK hS hB hR hD hs hl hst hlo hc1 hc2
  have hdec := chk_dec hM hi
  have hfal := chk_fall hM hi
  have hpo := chk_pool hM hi
  rw [pcOf_at hi]
  simp [poolO] at hpo
  obtain ⟨hr, hpo⟩ := hpo
  have k := k g p l e s m args below meth c0 Fz H locs ls hF hK hS hB hR hD hs hl (List.forall_mem_cons.mpr ⟨hr, hst⟩) hlo hc1 hc2
  rw [fall1 hfal (by simp)] at k
  by_cases h0 : c = 0
  · subst h0
    exact lv_iconst hF.1 hF.2.1 hdec rfl k
  · by_cases h1 : c = 1
    · subst h1
      simp at hpo
      exact lv_bipush hF.1 hF.2.1 hdec hpo k
    · by_cases h2 : c = 2
      · subst h2
        simp at hpo
        exact lv_sipush hF.1 hF.2.1 hdec hpo k
      · by_cases h3 : c = 3
        · subst h3
          simp at hpo
          exact lv_ldc hF.1 hF.2.1 hF.2.2.2.1 (hF.2.2.2.2.1 _ (KI_ok _ (List.mem_of_getElem? hpo))) hdec k
        · simp only [insO, if_neg h0, if_neg h1, if_neg h2, if_neg h3, if_pos] at hdec k
          simp [h0, h1, h2, h3] at hpo
          exact lv_ldcw hF.1 hF.2.1 hF.2.2.2.1 (hF.2.2.2.2.1 _ (KI_ok _ (List.mem_of_getElem? hpo))) hdec k
theorem aw_lconst (hM : chkM M = true) (hi : (mT M)[pos]? = some (1, pc, a, b, c, v, tl)) (k : AW M d mc ms (pos + 1) ((1, v) :: stk) loc X cells slots K) : AW M d mc ms pos stk loc X cells slots K := by
  intro g p l e s m args below meth c0 Fz H locs ls hF hK hS hB hR hD hs hl hst hlo hc1 hc2
  have hdec := chk_dec hM hi
  have hfal := chk_fall hM hi
  have hpo := chk_pool hM hi
  rw [pcOf_at hi]
  simp [poolO] at hpo
  obtain ⟨hr, hpo⟩ := hpo
  have k := k g p l e s m args below meth c0 Fz H locs ls hF hK hS hB hR hD hs hl (List.forall_mem_cons.mpr ⟨hr, hst⟩) hlo hc1 hc2
  rw [fall1 hfal (by simp)] at k
  by_cases h0 : c = 0
  · subst h0
    simp at hpo
    rcases hpo with rfl | rfl
    · exact lv_lconst hF.1 hF.2.1 hdec rfl k
    · exact lv_lconst hF.1 hF.2.1 hdec rfl k
  · simp only [if_neg h0] at hpo
    simp [insO, h0] at hdec k
    obtain ⟨ix, hk⟩ : ∃ ix : Nat, LKL[ix]? = some (mOi M, a, v) := ⟨_, by simpa [h0] using hpo⟩
    exact lv_ldc2 hF.1 hF.2.1 hF.2.2.2.1 (hF.2.2.2.2.1 _ (KL_ok _ (List.mem_of_getElem? hk))) hdec k
/-- what stands at a place of the locals -/
def lkp : Lo → Nat → AV
  | [], _ => (9, 0)
  | (j, t, x) :: r, i => cond (Nat.beq i j) (t, x) (lkp r i)
theorem lkp_mem {i : Nat} {t : Nat} {x : Int} (ht : t < 9) : ∀ {l : Lo}, lkp l i = (t, x) → (i, t, x) ∈ l
  | [], h => by
    have := congrArg Prod.fst h
    dsimp only [lkp] at this
    omega
  | (j, u, y) :: r, h => by
    unfold lkp at h
    cases q : Nat.beq i j with
    | true =>
      rw [q] at h
      have e := Nat.eq_of_beq_eq_true q
      subst e
      cases h
      exact List.mem_cons_self
    | false =>
      rw [q] at h
      exact List.mem_cons_of_mem _ (lkp_mem ht h)
theorem embL_mem {g : Gx} {l : Lo} {i : Nat} {w : AV} (h : (i, w) ∈ l) : (i, emb g w) ∈ embL g l := List.mem_map.mpr ⟨(i, w), h, rfl⟩
theorem aw_load {x : Int} (hM : chkM M = true) (hi : (mT M)[pos]? = some (2, pc, a, b, c, v, tl)) (hx : lkp loc a = (b, x)) (k : AW M d mc ms (pos + 1) ((b, x) :: stk) loc X cells slots K) : AW M d mc ms pos stk loc X cells slots K := by
  intro g p l e s m args below meth c0 Fz H locs ls hF hK hS hB hR hD hs hl hst hlo hc1 hc2
  have hdec := chk_dec hM hi
  have hfal := chk_fall hM hi
  have hpo := chk_pool hM hi
  rw [pcOf_at hi]
  simp [poolO] at hpo
  obtain ⟨hb3, hpo⟩ := hpo
  have hmem := lkp_mem (by omega) hx
  have hat : ls[a]? = some (.val (emb g (b, x))) := hl.2.2 _ (embL_mem hmem)
  have k := k g p l e s m args below meth c0 Fz H locs ls hF hK hS hB hR hD hs hl (List.forall_mem_cons.mpr ⟨hlo _ hmem, hst⟩) hlo hc1 hc2
  rw [fall1 hfal (by simp)] at k
  by_cases h0 : c = 0
  · subst h0
    simp at hpo
    have hv4 : ((Fin.ofNat 4 a : Fin 4) : Nat) = a := Nat.mod_eq_of_lt hpo
    rcases (by omega : b = 0 ∨ b = 1 ∨ b = 2) with rfl | rfl | rfl
    · exact lv_iload_n hF.1 hF.2.1 hdec hv4 hat k
    · exact lv_lload_n hF.1 hF.2.1 hdec hv4 hat k
    · rw [emb_2] at hat
      simp only [List.map_cons, emb_2] at k
      cases q : refO g x with
      | none =>
        rw [q] at hat k
        exact lv_aload_nN hF.1 hF.2.1 hdec hv4 hat k
      | some y =>
        rw [q] at hat k
        exact lv_aload_n hF.1 hF.2.1 hdec hv4 hat k
  · rcases (by omega : b = 0 ∨ b = 1 ∨ b = 2) with rfl | rfl | rfl
    · simp [insO, h0] at hdec k
      exact lv_iload hF.1 hF.2.1 hdec hat k
    · simp [insO, h0] at hdec k
      exact lv_lload hF.1 hF.2.1 hdec hat k
    · rw [emb_2] at hat
      simp [insO, h0] at hdec k
      simp only [emb_2] at k
      cases q : refO g x with
      | none =>
        rw [q] at hat k
        exact lv_aloadN hF.1 hF.2.1 hdec hat k
      | some y =>
        rw [q] at hat k
        exact lv_aload hF.1 hF.2.1 hdec hat k
def isC (i : Nat) (q : Nat × AV) : Bool := !(q.1 == i) && !(q.1 + 1 == i && q.2.1 == 1)
def isC2 (i : Nat) (q : Nat × AV) : Bool := !(q.1 == i) && (!(q.1 == i + 1) && !(q.1 + 1 == i && q.2.1 == 1))
/-- a value put at a place of the locals -/
def put (l : Lo) (i : Nat) (w : AV) : Lo := (i, w) :: (if w.1 = 1 then l.filter (isC2 i) else l.filter (isC i))
theorem cat_emb (g : Gx) (w : AV) : ((emb g w).category == 2) = (w.1 == 1) := by
  obtain ⟨t, x⟩ := w
  unfold emb
  by_cases h0 : t = 0
  · subst h0; rfl
  · by_cases h1 : t = 1
    · subst h1; rfl
    · simp only [if_neg h0, if_neg h1]
      have : ((t == 1) = false) := by simp [h1]
      rw [this]
      cases refO g x <;> rfl
theorem embL_filter {g : Gx} {l : Lo} {i : Nat} : (embL g l).filter (fun q => !(q.1 == i) && !(q.1 + 1 == i && q.2.category == 2)) = embL g (l.filter (isC i)) := by
  unfold embL
  rw [List.filter_map]
  congr 1
  apply List.filter_congr
  intro q hq
  simp only [Function.comp, cat_emb, isC]
theorem embL_filter2 {g : Gx} {l : Lo} {i : Nat} : (embL g l).filter (fun q => !(q.1 == i) && (!(q.1 == i + 1) && !(q.1 + 1 == i && q.2.category == 2))) = embL g (l.filter (isC2 i)) := by
  unfold embL
  rw [List.filter_map]
  congr 1
  apply List.filter_congr
  intro q hq
  simp only [Function.comp, cat_emb, isC2]
theorem put_rg {l : Lo} {i : Nat} {w : AV} (hl : ∀ q ∈ l, rgv q.2) (hw : rgv w) : ∀ q ∈ put l i w, rgv q.2 := by
  unfold put
  refine List.forall_mem_cons.mpr ⟨hw, ?_⟩
  split
  · exact fun q hq => hl q (List.mem_filter.mp hq).1
  · exact fun q hq => hl q (List.mem_filter.mp hq).1
theorem aw_store {x : Int} (hM : chkM M = true) (hi : (mT M)[pos]? = some (3, pc, a, b, c, v, tl)) (k : AW M d mc ms (pos + 1) stk (put loc a (b, x)) X cells slots K) : AW M d mc ms pos ((b, x) :: stk) loc X cells slots K := by
  intro g p l e s m args below meth c0 Fz H locs ls hF hK hS hB hR hD hs hl hst hlo hc1 hc2
  have hdec := chk_dec hM hi
  have hfal := chk_fall hM hi
  have hpo := chk_pool hM hi
  rw [pcOf_at hi]
  simp [poolO] at hpo
  obtain ⟨⟨hb3, ha⟩, hpo⟩ := hpo
  have hst2 := List.forall_mem_cons.mp hst
  have k := fun ls hl => k g p l e s m args below meth c0 Fz H locs ls hF hK hS hB hR hD hs hl hst2.2 (put_rg hlo hst2.1) hc1 hc2
  rw [fall1 hfal (by simp)] at k
  have hv4 : c = 0 → ((Fin.ofNat 4 a : _root_.Fin 4) : Nat) = a := fun h0 => by
    exact Nat.mod_eq_of_lt (hpo.resolve_left (fun q => q h0))
  rcases (by omega : b = 0 ∨ b = 1 ∨ b = 2) with rfl | rfl | rfl
  · have e := embL_filter (g := g) (l := loc) (i := a)
    simp at ha
    by_cases h0 : c = 0
    · have h4 := hv4 h0
      subst h0
      exact lv_istore_n hF.1 hF.2.1 hdec h4 hl ha (congrArg (List.cons (a, emb g (0, x))) e) (fun ls2 h2 => k ls2 h2)
    · simp [insO, h0] at hdec k
      exact lv_istore hF.1 hF.2.1 hdec hl ha (congrArg (List.cons (a, emb g (0, x))) e) (fun ls2 h2 => k ls2 h2)
  · have e := embL_filter2 (g := g) (l := loc) (i := a)
    simp at ha
    by_cases h0 : c = 0
    · have h4 := hv4 h0
      subst h0
      exact lv_lstore_n hF.1 hF.2.1 hdec h4 hl ha (congrArg (List.cons (a, emb g (1, x))) e) (fun ls2 h2 => k ls2 h2)
    · simp [insO, h0] at hdec k
      exact lv_lstore hF.1 hF.2.1 hdec hl ha (congrArg (List.cons (a, emb g (1, x))) e) (fun ls2 h2 => k ls2 h2)
  · have e := embL_filter (g := g) (l := loc) (i := a)
    simp at ha
    simp only [List.map_cons, emb_2]
    simp only [put, embL, List.map_cons, emb_2] at k
    cases q : refO g x with
    | none =>
      rw [q] at k
      by_cases h0 : c = 0
      · have h4 := hv4 h0
        subst h0
        exact lv_astore_nN hF.1 hF.2.1 hdec h4 hl ha (congrArg (List.cons (a, Value.null)) e) (fun ls2 h2 => k ls2 h2)
      · simp [insO, h0] at hdec k
        exact lv_astoreN hF.1 hF.2.1 hdec hl ha (congrArg (List.cons (a, Value.null)) e) (fun ls2 h2 => k ls2 h2)
    | some y =>
      rw [q] at k
      by_cases h0 : c = 0
      · have h4 := hv4 h0
        subst h0
        exact lv_astore_n hF.1 hF.2.1 hdec h4 hl ha (congrArg (List.cons (a, Value.ref y)) e) (fun ls2 h2 => k ls2 h2)
      · simp [insO, h0] at hdec k
        exact lv_astore hF.1 hF.2.1 hdec hl ha (congrArg (List.cons (a, Value.ref y)) e) (fun ls2 h2 => k ls2 h2)
theorem aw_iinc {x : Int} (hM : chkM M = true) (hi : (mT M)[pos]? = some (4, pc, a, b, c, v, tl)) (hx : lkp loc a = (0, x)) (k : AW M d mc ms (pos + 1) stk (put loc a (0, w32 (x + v))) X cells slots K) : AW M d mc ms pos stk loc X cells slots K := by
  intro g p l e s m args below meth c0 Fz H locs ls hF hK hS hB hR hD hs hl hst hlo hc1 hc2
  have hdec := chk_dec hM hi
  have hfal := chk_fall hM hi
  have hpo := chk_pool hM hi
  rw [pcOf_at hi]
  simp [poolO] at hpo
  have hmem := lkp_mem (by omega) hx
  obtain ⟨j, hj⟩ := List.getElem?_of_mem (embL_mem (g := g) hmem)
  have k := fun ls hl => k g p l e s m args below meth c0 Fz H locs ls hF hK hS hB hR hD hs hl hst (put_rg hlo (w32_r _)) hc1 hc2
  rw [fall1 hfal (by simp)] at k
  have e := embL_filter (g := g) (l := loc) (i := a)
  refine lv_iinc (k := j) (v := Int32.ofInt (w32 (x + v))) hF.1 hF.2.1 hdec hl hj ?_ hpo (congrArg (List.cons (a, emb g (0, w32 (x + v)))) e) (fun ls2 h2 => k ls2 h2)
  rw [ofInt_w32, Int32.ofInt_add]

-- ===== numbers on the stack
def andI (x y : Int) : Int := (Int32.ofInt x &&& Int32.ofInt y).toInt
def orI (x y : Int) : Int := (Int32.ofInt x ||| Int32.ofInt y).toInt
def xorI (x y : Int) : Int := (Int32.ofInt x ^^^ Int32.ofInt y).toInt
def shlI (x y : Int) : Int := (Int32.ofInt x <<< (Int32.ofInt y &&& 31)).toInt
def shrI (x y : Int) : Int := (Int32.ofInt x >>> (Int32.ofInt y &&& 31)).toInt
def ushI (x y : Int) : Int := ((Int32.ofInt x).toUInt32 >>> ((Int32.ofInt y).toUInt32 &&& 31)).toInt32.toInt
def divI (x y : Int) : Int := (Int32.ofInt x / Int32.ofInt y).toInt
def remI (x y : Int) : Int := (Int32.ofInt x - Int32.ofInt x / Int32.ofInt y * Int32.ofInt y).toInt
def binI (c : Nat) (x y : Int) : Int := if c = 0 then w32 (x + y) else if c = 1 then w32 (x - y) else if c = 2 then w32 (x * y) else if c = 3 then andI x y else if c = 4 then orI x y else if c = 5 then xorI x y else if c = 6 then shlI x y else if c = 7 then shrI x y else ushI x y
def andL (x y : Int) : Int := (Int64.ofInt x &&& Int64.ofInt y).toInt
def orL (x y : Int) : Int := (Int64.ofInt x ||| Int64.ofInt y).toInt
def divL (x y : Int) : Int := (Int64.ofInt x / Int64.ofInt y).toInt
def remL (x y : Int) : Int := (Int64.ofInt x - Int64.ofInt x / Int64.ofInt y * Int64.ofInt y).toInt
def binL (c : Nat) (x y : Int) : Int := if c = 0 then w64 (x + y) else if c = 1 then w64 (x - y) else if c = 2 then w64 (x * y) else if c = 3 then andL x y else orL x y
def i2bI (x : Int) : Int := (Int32.ofInt x).toInt8.toInt
def i2sI (x : Int) : Int := (Int32.ofInt x).toInt16.toInt
def unI (c : Nat) (x : Int) : Int := if c = 0 then w32 (-x) else if c = 1 then i2bI x else i2sI x
def l2iI (x : Int) : Int := (Int64.ofInt x).toInt32.toInt
theorem emI (z : Int32) : Int32.ofInt z.toInt = z := Int32.ofInt_toInt z
theorem emJ (z : Int64) : Int64.ofInt z.toInt = z := Int64.ofInt_toInt z
theorem binI_r (c : Nat) (x y : Int) : r32 (binI c x y) := by
  unfold binI
  repeat' split
  all_goals first | exact w32_r _ | exact toInt_r _
theorem binL_r (c : Nat) (x y : Int) : r64 (binL c x y) := by
  unfold binL
  repeat' split
  all_goals first | exact w64_r _ | exact toInt_rl _
theorem aw_bin {x y : Int} (hM : chkM M = true) (hi : (mT M)[pos]? = some (5, pc, a, b, c, v, tl)) (k : AW M d mc ms (pos + 1) ((0, binI c x y) :: stk) loc X cells slots K) : AW M d mc ms pos ((0, y) :: (0, x) :: stk) loc X cells slots K := by
  intro g p l e s m args below meth c0 Fz H locs ls hF hK hS hB hR hD hs hl hst hlo hc1 hc2
  have hdec := chk_dec hM hi
  have hfal := chk_fall hM hi
  have hpo := chk_pool hM hi
  rw [pcOf_at hi]
  have hst2 := List.forall_mem_cons.mp (List.forall_mem_cons.mp hst).2
  have k := k g p l e s m args below meth c0 Fz H locs ls hF hK hS hB hR hD hs hl (List.forall_mem_cons.mpr ⟨binI_r _ _ _, hst2.2⟩) hlo hc1 hc2
  rw [fall1 hfal (by simp)] at k
  simp only [List.map_cons, emb_0] at k ⊢
  by_cases h0 : c = 0
  · subst h0; simp only [binI, if_pos, ofInt_w32, Int32.ofInt_add] at k; exact lv_iadd hF.1 hF.2.1 hdec k
  by_cases h1 : c = 1
  · subst h1; simp [binI, ofInt_w32, Int32.ofInt_sub] at k; exact lv_isub hF.1 hF.2.1 hdec k
  by_cases h2 : c = 2
  · subst h2; simp [binI, ofInt_w32, Int32.ofInt_mul] at k; exact lv_imul hF.1 hF.2.1 hdec k
  by_cases h3 : c = 3
  · subst h3; rw [show Int32.ofInt (binI 3 x y) = Int32.ofInt x &&& Int32.ofInt y from emI (Int32.ofInt x &&& Int32.ofInt y)] at k; exact lv_iand hF.1 hF.2.1 hdec k
  by_cases h4 : c = 4
  · subst h4; rw [show Int32.ofInt (binI 4 x y) = Int32.ofInt x ||| Int32.ofInt y from emI (Int32.ofInt x ||| Int32.ofInt y)] at k; exact lv_ior hF.1 hF.2.1 hdec k
  by_cases h5 : c = 5
  · subst h5; rw [show Int32.ofInt (binI 5 x y) = Int32.ofInt x ^^^ Int32.ofInt y from emI (Int32.ofInt x ^^^ Int32.ofInt y)] at k; exact lv_ixor hF.1 hF.2.1 hdec k
  by_cases h6 : c = 6
  · subst h6; rw [show Int32.ofInt (binI 6 x y) = Int32.ofInt x <<< (Int32.ofInt y &&& 31) from emI (Int32.ofInt x <<< (Int32.ofInt y &&& 31))] at k; exact lv_ishl hF.1 hF.2.1 hdec k
  by_cases h7 : c = 7
  · subst h7; rw [show Int32.ofInt (binI 7 x y) = Int32.ofInt x >>> (Int32.ofInt y &&& 31) from emI (Int32.ofInt x >>> (Int32.ofInt y &&& 31))] at k; exact lv_ishr hF.1 hF.2.1 hdec k
  · simp only [binI, h0, h1, h2, h3, h4, h5, h6, h7, if_false, ushI, emI] at k
    simp [insO, h0, h1, h2, h3, h4, h5, h6, h7] at hdec k
    exact lv_iushr hF.1 hF.2.1 hdec rfl k
theorem aw_div {x y : Int} (hM : chkM M = true) (hi : (mT M)[pos]? = some (6, pc, a, b, c, v, tl)) (hy : ¬ y = 0) (k : AW M d mc ms (pos + 1) ((0, if c = 0 then divI x y else remI x y) :: stk) loc X cells slots K) : AW M d mc ms pos ((0, y) :: (0, x) :: stk) loc X cells slots K := by
  intro g p l e s m args below meth c0 Fz H locs ls hF hK hS hB hR hD hs hl hst hlo hc1 hc2
  have hdec := chk_dec hM hi
  have hfal := chk_fall hM hi
  have hpo := chk_pool hM hi
  rw [pcOf_at hi]
  have hst1 := List.forall_mem_cons.mp hst
  have hst2 := List.forall_mem_cons.mp hst1.2
  have hy2 : ¬ Int32.ofInt y = 0 := fun q => hy ((i32_eq hst1.1 r32_0).mp q)
  have k := k g p l e s m args below meth c0 Fz H locs ls hF hK hS hB hR hD hs hl (List.forall_mem_cons.mpr ⟨by rw [rgv_0]; split <;> exact toInt_r _, hst2.2⟩) hlo hc1 hc2
  rw [fall1 hfal (by simp)] at k
  simp only [List.map_cons, emb_0] at k ⊢
  by_cases h0 : c = 0
  · subst h0; simp only [if_pos, divI, emI] at k; exact lv_idiv hF.1 hF.2.1 hdec hy2 k
  · simp only [if_neg h0, remI, emI] at k
    simp [insO, h0] at hdec k
    exact lv_irem hF.1 hF.2.1 hdec hy2 k
theorem aw_lbin {x y : Int} (hM : chkM M = true) (hi : (mT M)[pos]? = some (7, pc, a, b, c, v, tl)) (k : AW M d mc ms (pos + 1) ((1, binL c x y) :: stk) loc X cells slots K) : AW M d mc ms pos ((1, y) :: (1, x) :: stk) loc X cells slots K := by
  intro g p l e s m args below meth c0 Fz H locs ls hF hK hS hB hR hD hs hl hst hlo hc1 hc2
  have hdec := chk_dec hM hi
  have hfal := chk_fall hM hi
  have hpo := chk_pool hM hi
  rw [pcOf_at hi]
  have hst2 := List.forall_mem_cons.mp (List.forall_mem_cons.mp hst).2
  have k := k g p l e s m args below meth c0 Fz H locs ls hF hK hS hB hR hD hs hl (List.forall_mem_cons.mpr ⟨binL_r _ _ _, hst2.2⟩) hlo hc1 hc2
  rw [fall1 hfal (by simp)] at k
  simp only [List.map_cons, emb_1] at k ⊢
  by_cases h0 : c = 0
  · subst h0; simp only [binL, if_pos, ofInt_w64, Int64.ofInt_add] at k; exact lv_ladd hF.1 hF.2.1 hdec k
  by_cases h1 : c = 1
  · subst h1; simp [binL, ofInt_w64, Int64.ofInt_sub] at k; exact lv_lsub hF.1 hF.2.1 hdec k
  by_cases h2 : c = 2
  · subst h2; simp [binL, ofInt_w64, Int64.ofInt_mul] at k; exact lv_lmul hF.1 hF.2.1 hdec k
  by_cases h3 : c = 3
  · subst h3; rw [show Int64.ofInt (binL 3 x y) = Int64.ofInt x &&& Int64.ofInt y from emJ (Int64.ofInt x &&& Int64.ofInt y)] at k; exact lv_land hF.1 hF.2.1 hdec k
  · simp only [binL, h0, h1, h2, h3, if_false, orL, emJ] at k
    simp [insO, h0, h1, h2, h3] at hdec k
    exact lv_lor hF.1 hF.2.1 hdec k
theorem aw_ldiv {x y : Int} (hM : chkM M = true) (hi : (mT M)[pos]? = some (8, pc, a, b, c, v, tl)) (hy : ¬ y = 0) (k : AW M d mc ms (pos + 1) ((1, if c = 0 then divL x y else remL x y) :: stk) loc X cells slots K) : AW M d mc ms pos ((1, y) :: (1, x) :: stk) loc X cells slots K := by
  intro g p l e s m args below meth c0 Fz H locs ls hF hK hS hB hR hD hs hl hst hlo hc1 hc2
  have hdec := chk_dec hM hi
  have hfal := chk_fall hM hi
  have hpo := chk_pool hM hi
  rw [pcOf_at hi]
  have hst1 := List.forall_mem_cons.mp hst
  have hst2 := List.forall_mem_cons.mp hst1.2
  have hy2 : ¬ Int64.ofInt y = 0 := fun q => hy ((i64_eq hst1.1 (by unfold r64; omega)).mp q)
  have k := k g p l e s m args below meth c0 Fz H locs ls hF hK hS hB hR hD hs hl (List.forall_mem_cons.mpr ⟨by rw [rgv_1]; split <;> exact toInt_rl _, hst2.2⟩) hlo hc1 hc2
  rw [fall1 hfal (by simp)] at k
  simp only [List.map_cons, emb_1] at k ⊢
  by_cases h0 : c = 0
  · subst h0; simp only [if_pos, divL, emJ] at k; exact lv_ldiv hF.1 hF.2.1 hdec hy2 k
  · simp only [if_neg h0, remL, emJ] at k
    simp [insO, h0] at hdec k
    exact lv_lrem hF.1 hF.2.1 hdec hy2 k
theorem aw_un {x : Int} (hM : chkM M = true) (hi : (mT M)[pos]? = some (10, pc, a, b, c, v, tl)) (k : AW M d mc ms (pos + 1) ((0, unI c x) :: stk) loc X cells slots K) : AW M d mc ms pos ((0, x) :: stk) loc X cells slots K := by
  intro g p l e s m args below meth c0 Fz H locs ls hF hK hS hB hR hD hs hl hst hlo hc1 hc2
  have hdec := chk_dec hM hi
  have hfal := chk_fall hM hi
  have hpo := chk_pool hM hi
  rw [pcOf_at hi]
  have hst2 := List.forall_mem_cons.mp hst
  have hr : r32 (unI c x) := by
    unfold unI
    have h8 := toInt_r ((Int32.ofInt x).toInt8.toInt32)
    have h16 := toInt_r ((Int32.ofInt x).toInt16.toInt32)
    rw [Int8.toInt_toInt32] at h8
    rw [Int16.toInt_toInt32] at h16
    repeat' split
    · exact w32_r _
    · exact h8
    · exact h16
  have k := k g p l e s m args below meth c0 Fz H locs ls hF hK hS hB hR hD hs hl (List.forall_mem_cons.mpr ⟨hr, hst2.2⟩) hlo hc1 hc2
  rw [fall1 hfal (by simp)] at k
  simp only [List.map_cons, emb_0] at k ⊢
  have e8 : Int32.ofInt (i2bI x) = (Int32.ofInt x).toInt8.toInt32 := by unfold i2bI; rw [← Int8.toInt_toInt32, emI]
  have e16 : Int32.ofInt (i2sI x) = (Int32.ofInt x).toInt16.toInt32 := by unfold i2sI; rw [← Int16.toInt_toInt32, emI]
  by_cases h0 : c = 0
  · subst h0; simp [unI, ofInt_w32] at k; exact lv_ineg hF.1 hF.2.1 hdec k
  by_cases h1 : c = 1
  · subst h1; simp [unI] at k; exact lv_i2b hF.1 hF.2.1 hdec e8.symm k
  · simp [unI, h0, h1] at k
    simp [insO, h0, h1] at hdec k
    exact lv_i2s hF.1 hF.2.1 hdec e16.symm k
theorem aw_i2l {x : Int} (hM : chkM M = true) (hi : (mT M)[pos]? = some (11, pc, a, b, c, v, tl)) (k : AW M d mc ms (pos + 1) ((1, x) :: stk) loc X cells slots K) : AW M d mc ms pos ((0, x) :: stk) loc X cells slots K := by
  intro g p l e s m args below meth c0 Fz H locs ls hF hK hS hB hR hD hs hl hst hlo hc1 hc2
  have hdec := chk_dec hM hi
  have hfal := chk_fall hM hi
  have hpo := chk_pool hM hi
  rw [pcOf_at hi]
  have hst2 := List.forall_mem_cons.mp hst
  have hr : r64 x := by have h := hst2.1; rw [rgv_0] at h; unfold r32 at h; unfold r64; omega
  have k := k g p l e s m args below meth c0 Fz H locs ls hF hK hS hB hR hD hs hl (List.forall_mem_cons.mpr ⟨hr, hst2.2⟩) hlo hc1 hc2
  rw [fall1 hfal (by simp)] at k
  refine lv_i2l hF.1 hF.2.1 hdec ?_ k
  apply Int64.toInt_inj.mp
  rw [Int32.toInt_toInt64, i32_to hst2.1, i64_to hr]
theorem aw_l2i {x : Int} (hM : chkM M = true) (hi : (mT M)[pos]? = some (12, pc, a, b, c, v, tl)) (k : AW M d mc ms (pos + 1) ((0, l2iI x) :: stk) loc X cells slots K) : AW M d mc ms pos ((1, x) :: stk) loc X cells slots K := by
  intro g p l e s m args below meth c0 Fz H locs ls hF hK hS hB hR hD hs hl hst hlo hc1 hc2
  have hdec := chk_dec hM hi
  have hfal := chk_fall hM hi
  have hpo := chk_pool hM hi
  rw [pcOf_at hi]
  have hst2 := List.forall_mem_cons.mp hst
  have k := k g p l e s m args below meth c0 Fz H locs ls hF hK hS hB hR hD hs hl (List.forall_mem_cons.mpr ⟨toInt_r _, hst2.2⟩) hlo hc1 hc2
  rw [fall1 hfal (by simp)] at k
  exact lv_l2i hF.1 hF.2.1 hdec (emI _).symm k
theorem aw_lneg {x : Int} (hM : chkM M = true) (hi : (mT M)[pos]? = some (13, pc, a, b, c, v, tl)) (k : AW M d mc ms (pos + 1) ((1, w64 (-x)) :: stk) loc X cells slots K) : AW M d mc ms pos ((1, x) :: stk) loc X cells slots K := by
  intro g p l e s m args below meth c0 Fz H locs ls hF hK hS hB hR hD hs hl hst hlo hc1 hc2
  have hdec := chk_dec hM hi
  have hfal := chk_fall hM hi
  have hpo := chk_pool hM hi
  rw [pcOf_at hi]
  have hst2 := List.forall_mem_cons.mp hst
  have k := k g p l e s m args below meth c0 Fz H locs ls hF hK hS hB hR hD hs hl (List.forall_mem_cons.mpr ⟨w64_r _, hst2.2⟩) hlo hc1 hc2
  rw [fall1 hfal (by simp)] at k
  simp [ofInt_w64, emb_1] at k
  exact lv_lneg hF.1 hF.2.1 hdec k
