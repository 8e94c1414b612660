noncomputable def callee (a : Nat) : MI := calleeT a
def clsOf (ci : Nat) : vw_C := cls.getD ci ("", T0, 0)
/-- the instruction, and its bytes -/
def insO (M : MI) (ai : AI) : Instr × Nat := match ai with
  | (op, pc, a, b, c, v, tl) =>
    if op = 0 then (if c = 0 then (.iconst v, 1) else if c = 1 then (.bipush v, 2) else if c = 2 then (.sipush v, 3) else if c = 3 then (.ldc a, 2) else (.ldc_w a, 3))
    else if op = 1 then (if c = 0 then (.lconst (if v = 0 then 0 else 1), 1) else (.ldc2_w a, 3))
    else if op = 2 then (if c = 0 then ((if b = 0 then .iload_n (Fin.ofNat 4 a) else if b = 1 then .lload_n (Fin.ofNat 4 a) else .aload_n (Fin.ofNat 4 a)), 1) else ((if b = 0 then .iload a else if b = 1 then .lload a else .aload a), 2))
    else if op = 3 then (if c = 0 then ((if b = 0 then .istore_n (Fin.ofNat 4 a) else if b = 1 then .lstore_n (Fin.ofNat 4 a) else .astore_n (Fin.ofNat 4 a)), 1) else ((if b = 0 then .istore a else if b = 1 then .lstore a else .astore a), 2))
    else if op = 4 then (.iinc a v, 3)
    else if op = 5 then ((if c = 0 then .iadd else if c = 1 then .isub else if c = 2 then .imul else if c = 3 then .iand else if c = 4 then .ior else if c = 5 then .ixor else if c = 6 then .ishl else if c = 7 then .ishr else .iushr), 1)
    else if op = 6 then ((if c = 0 then .idiv else .irem), 1)
    else if op = 7 then ((if c = 0 then .ladd else if c = 1 then .lsub else if c = 2 then .lmul else if c = 3 then .land else .lor), 1)
    else if op = 8 then ((if c = 0 then .ldiv else .lrem), 1)
    else if op = 9 then (.lshl, 1)
    else if op = 10 then ((if c = 0 then .ineg else if c = 1 then .i2b else .i2s), 1)
    else if op = 11 then (.i2l, 1)
    else if op = 12 then (.l2i, 1)
    else if op = 13 then (.lneg, 1)
    else if op = 14 then (.lcmp, 1)
    else if op = 15 then (.ifCond (cndO c) (offs M a pc), 3)
    else if op = 16 then (.if_icmp (cndO c) (offs M a pc), 3)
    else if op = 17 then (.ifnull (offs M a pc), 3)
    else if op = 18 then (.if_acmp .ne (offs M a pc), 3)
    else if op = 19 then (.goto (offs M a pc), 3)
    else if op = 20 then (.tableswitch (offs M a pc) v (v + tl.length - 1) (tl.map fun t => offs M t pc).toArray, b)
    else if op = 21 then (.lookupswitch (offs M a pc) ((List.range (tl.length / 2)).map fun i => ((tl.getD (2 * i) 0 : Int), offs M (tl.getD (2 * i + 1) 0) pc)).toArray, b)
    else if op = 22 then (.getfield c, 3)
    else if op = 23 then (.putfield c, 3)
    else if op = 24 then (.getstatic c, 3)
    else if op = 25 then ((if a = 101 then .laload else if a = 102 then .baload else if a < 103 then .iaload else if 900 ≤ a then .iaload else .aaload), 1)
    else if op = 26 then ((if a = 101 then .lastore else if a = 102 then .bastore else if a < 103 then .iastore else .aastore), 1)
    else if op = 27 then (.arraylength, 1)
    else if op = 28 then (.dup, 1)
    else if op = 29 then (.dup2, 1)
    else if op = 30 then (.pop, 1)
    else if op = 31 then (.invokevirtual c, 3)
    else if op = 32 then (.invokestatic c, 3)
    else if op = 33 then (.invokespecial c, 3)
    else if op = 34 then (retI M, 1)
    else if op = 35 then (.invokestatic c, 3)
    else if op = 42 then (.invokestatic c, 3)
    else if op = 36 then (.aconst_null, 1)
    else if op = 37 then (.new c, 3)
    else if op = 38 then (.newarray (if a = 100 then .int else if a = 101 then .long else .boolean), 2)
    else if op = 39 then (.anewarray c, 3)
    else if op = 40 then (.multianewarray c 2, 4)
    else (.invokespecial c, 3)
def fallO (M : MI) (pos : Nat) (ai : AI) : Bool := match ai with
  | (op, pc, a, b, c, v, tl) =>
    if op = 19 || op = 20 || op = 21 || op = 34 then true
    else if op = 14 then pcOf M (pos + 2) == pc + 4 && decide (decode (mC M) (pc + 1) = .ok (.ifCond (cndO c) (offs M a (pc + 1)), 3))
    else pcOf M (pos + 1) == pc + (insO M ai).2
/-- what a row's numbers must be, in the lists of links -/
noncomputable def poolO (M : MI) (ai : AI) : Bool := match ai with
  | (op, pc, a, b, c, v, tl) =>
    if op = 0 then decide (-2147483648 ≤ v ∧ v ≤ 2147483647) && (if c = 0 then true else if c = 1 then decide ((Int8.ofInt v).toInt32 = Int32.ofInt v) else if c = 2 then decide ((Int16.ofInt v).toInt32 = Int32.ofInt v) else decide (LKI[tl.getD 0 0]? = some (mOi M, a, v)))
    else if op = 1 then decide (-9223372036854775808 ≤ v ∧ v ≤ 9223372036854775807) && (if c = 0 then decide (v = 0 ∨ v = 1) else decide (LKL[tl.getD 0 0]? = some (mOi M, a, v)))
    else if op = 2 then decide (b < 3) && (if c = 0 then decide (a < 4) else true)
    else if op = 3 then decide (b < 3) && decide (a + 1 < mL M + (if b = 1 then 0 else 1)) && (if c = 0 then decide (a < 4) else true)
    else if op = 4 then decide (a < mL M)
    else if op = 21 then ((List.range (tl.length / 2)).map fun i => (tl.getD (2 * i) 0 : Int)).zip (((List.range (tl.length / 2)).map fun i => (tl.getD (2 * i) 0 : Int)).drop 1) |>.all fun q => decide (q.1 < q.2)
    else if op = 22 then decide (b < (clsOf a).2.2) && decide (LFL[tl.getD 0 0]? = some (mOi M, c, a, b))
    else if op = 23 then decide (b < (clsOf a).2.2) && decide (LFL[tl.getD 0 0]? = some (mOi M, c, a, b)) && (!((clsOf a).2.1 b).2.2.2 || (decide ((mN M).name = "<init>") && decide (a = mOi M)))
    else if op = 24 then (if b = 0 then decide (LGS[tl.getD 0 0]? = some (mOi M, c, a, 0)) else decide (mOi M = 0 ∧ c = 32 ∧ a = 1))
    else if op = 31 then decide (LML[tl.getD 0 0]? = some (mOi M, c, a)) && decide (LVM[tl.getD 1 0]? = some a) && decide (mOi (callee a) = b) && decide (mA (callee a) = v.toNat)
    else if op = 32 then decide (LSM[tl.getD 1 0]? = some a) && (if b = 0 then decide (LML[tl.getD 0 0]? = some (mOi M, c, a)) else decide (LNM[tl.getD 0 0]? = some (mOi M, c, a))) && decide (mA (callee a) = v.toNat)
    else if op = 33 then decide (LIM[tl.getD 1 0]? = some a) && (if b = 0 then decide (LML[tl.getD 0 0]? = some (mOi M, c, a)) else decide (LNM[tl.getD 0 0]? = some (mOi M, c, a))) && decide (mA (callee a) = v.toNat)
    else if op = 35 then decide (LAC[tl.getD 0 0]? = some (mOi M, c)) && decide (c < 1000)
    else if op = 42 then decide (LML[tl.getD 0 0]? = some (mOi M, c, a)) && mathI a b
    else if op = 37 then decide (LCL[tl.getD 0 0]? = some (mOi M, c, a))
    else if op = 39 then decide (LCL[tl.getD 0 0]? = some (mOi M, c, a))
    else if op = 40 then decide (LCL[tl.getD 0 0]? = some (mOi M, c, 106))
    else if op = 41 then decide (LAC[tl.getD 0 0]? = some (mOi M, c + 1000))
    else true
noncomputable def chkA (M : MI) (pos : Nat) (ai : AI) : Bool := decide (decode (mC M) ai.2.1 = .ok (insO M ai)) && fallO M pos ai && poolO M ai
noncomputable def chkM (M : MI) : Bool := (List.range (mT M).length).all fun pos => chkA M pos ((mT M).getD pos ai0)
theorem chk_all {M : MI} {pos : Nat} {ai : AI} (hM : chkM M = true) (hi : (mT M)[pos]? = some ai) : chkA M pos ai = true := by
  have hp : pos < (mT M).length := (List.getElem?_eq_some_iff.mp hi).1
  have h := List.all_eq_true.mp hM pos (List.mem_range.mpr hp)
  rw [List.getD_eq_getElem?_getD, hi] at h
  exact h
theorem chk_dec {M : MI} {pos : Nat} {ai : AI} (hM : chkM M = true) (hi : (mT M)[pos]? = some ai) : decode (mC M) ai.2.1 = .ok (insO M ai) := by
  have h := chk_all hM hi
  simp only [chkA, Bool.and_eq_true, decide_eq_true_eq] at h
  exact h.1.1
theorem chk_fall {M : MI} {pos : Nat} {ai : AI} (hM : chkM M = true) (hi : (mT M)[pos]? = some ai) : fallO M pos ai = true := by
  have h := chk_all hM hi
  simp only [chkA, Bool.and_eq_true, decide_eq_true_eq] at h
  exact h.1.2
theorem chk_pool {M : MI} {pos : Nat} {ai : AI} (hM : chkM M = true) (hi : (mT M)[pos]? = some ai) : poolO M ai = true := by
  have h := chk_all hM hi
  simp only [chkA, Bool.and_eq_true, decide_eq_true_eq] at h
  exact h.2
theorem pcOf_at {M : MI} {pos : Nat} {ai : AI} (hi : (mT M)[pos]? = some ai) : pcOf M pos = ai.2.1 := by
  unfold pcOf
  rw [List.getD_eq_getElem?_getD, hi]
  rfl
def retOk (r : Option FieldType) : Bool := match r with
  | none => true
  | some .int => true
  | some .boolean => true
  | some .long => true
  | some (.object _) => true
  | some (.array _) => true
  | _ => false
/-- the links' words -/
noncomputable def wFL (q : Nat × Nat × Nat × Nat) : Jvm.Cond := .fieldLink (ownNm q.1) q.2.1 ((clsOf q.2.2.1).2.1 q.2.2.2).1 ((clsOf q.2.2.1).2.1 q.2.2.2).2.1 ((clsOf q.2.2.1).2.1 q.2.2.2).2.2.1
def wGS (q : Nat × Nat × Nat × Nat) : Jvm.Cond := .fieldLink (ownNm q.1) q.2.1 (if q.2.2.1 = 1 then "TakenInTurns" else "TakenInTurns$Acts") (if q.2.2.1 = 1 then "ABOVE" else "BODIES") "[I"
noncomputable def wML (q : Nat × Nat × Nat) : Jvm.Cond := .methodLink (ownNm q.1) q.2.1 (mN (callee q.2.2))
noncomputable def wI (a : Nat) : Jvm.Cond := .instanceMethod (mN (callee a))
noncomputable def wV (a : Nat) : Jvm.Cond := .selects (mN (callee a)).cls (mN (callee a)) (mN (callee a))
noncomputable def wS (a : Nat) : Jvm.Cond := .static (mN (callee a))
def wCL (q : Nat × Nat × Nat) : Jvm.Cond := .classLink (ownNm q.1) q.2.1 (if q.2.2 < 13 then ownNm q.2.2 else if q.2.2 = 103 then "TakenInTurns$Giving" else if q.2.2 = 104 then "TakenInTurns$Shelf" else if q.2.2 = 105 then "TakenInTurns$Shares" else "[[I")
def wKI (q : Nat × Nat × Int) : Jvm.Cond := .constant (ownNm q.1) q.2.1 (Int32.ofInt q.2.2)
def wKL (q : Nat × Nat × Int) : Jvm.Cond := .constantLong (ownNm q.1) q.2.1 (Int64.ofInt q.2.2)
def wAC (q : Nat × Nat) : Jvm.Cond := if q.2 < 1000 then .methodLink (ownNm q.1) q.2 arraycopyName else .methodLink (ownNm q.1) (q.2 - 1000) objectInit
theorem in_W0 {w : Jvm.Cond} (h : w ∈ tables_1) (g : goodWord w = true) : w ∈ W0 := List.mem_filter.mpr ⟨List.mem_append_right _ h, g⟩
theorem in_t1 {w : Jvm.Cond} (i : Nat) (h : tables_1_1[i]? = some w) : w ∈ tables_1 := List.mem_append_left _ (List.mem_of_getElem? h)
theorem in_t2 {w : Jvm.Cond} (i : Nat) (h : tables_1_2[i]? = some w) : w ∈ tables_1 := List.mem_append_right _ (List.mem_append_left _ (List.mem_of_getElem? h))
theorem in_t3 {w : Jvm.Cond} (i : Nat) (h : tables_1_3[i]? = some w) : w ∈ tables_1 := List.mem_append_right _ (List.mem_append_right _ (List.mem_append_left _ (List.mem_of_getElem? h)))
theorem in_t4 {w : Jvm.Cond} (i : Nat) (h : tables_1_4[i]? = some w) : w ∈ tables_1 := List.mem_append_right _ (List.mem_append_right _ (List.mem_append_right _ (List.mem_append_left _ (List.mem_of_getElem? h))))
theorem in_t5 {w : Jvm.Cond} (i : Nat) (h : tables_1_5[i]? = some w) : w ∈ tables_1 := List.mem_append_right _ (List.mem_append_right _ (List.mem_append_right _ (List.mem_append_right _ (List.mem_append_left _ (List.mem_of_getElem? h)))))
theorem in_t6 {w : Jvm.Cond} (i : Nat) (h : tables_1_6[i]? = some w) : w ∈ tables_1 := List.mem_append_right _ (List.mem_append_right _ (List.mem_append_right _ (List.mem_append_right _ (List.mem_append_right _ (List.mem_append_left _ (List.mem_of_getElem? h))))))
theorem in_t7 {w : Jvm.Cond} (i : Nat) (h : tables_1_7[i]? = some w) : w ∈ tables_1 := List.mem_append_right _ (List.mem_append_right _ (List.mem_append_right _ (List.mem_append_right _ (List.mem_append_right _ (List.mem_append_right _ (List.mem_of_getElem? h))))))
theorem in_sel {q : MethodName × Nat} (h : q ∈ lw_privs) : Jvm.Cond.selects q.1.cls q.1 q.1 ∈ W0 := List.mem_filter.mpr ⟨List.mem_append_left _ (List.mem_map.mpr ⟨q, h, rfl⟩), rfl⟩
/-- what a callee must be -/
def okM (M : MI) : Prop := Jvm.Cond.code (mN M) (mC M) (mL M) (mR M) ∈ W0 ∧ mL M ≤ 45 ∧ ((mN M).cls ≠ "java/lang/invoke/MethodHandle" ∧ (mN M).cls ≠ "java/lang/invoke/VarHandle") ∧ plainName (mN M).cls = true ∧ Jvm.Cond.initialized (mN M).cls ∈ W0 ∧ retOk (mR M) = true ∧ (parseMethodDescriptor (mN M).desc).map (fun z => z.parameters.length) = some (mA M) ∧ (mN M).cls = mO M
