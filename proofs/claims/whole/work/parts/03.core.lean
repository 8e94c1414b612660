/-! ===== the plain machine: cells of numbers, values with a mark (0 int, 1 long, 2 reference: -1 null, from 0 on the number of a cell, below -1 a fixed row outside) ===== -/
abbrev Mem : Type := Int → Int → Int
abbrev AV : Type := Nat × Int
abbrev Lo : Type := List (Nat × AV)
abbrev HS : Type := (Int → Int → Int) × Nat × Mem
abbrev AI : Type := Nat × Nat × Nat × Nat × Nat × Int × List Nat
abbrev MI : Type := MethodName × ByteArray × Nat × Option FieldType × Nat × Nat × List AI
abbrev Gx : Type := (Nat → ClassId) × (Nat → Nat → Nat) × (Nat → ClassId) × Nat × (Nat → Nat) × Nat × (Nat → Int32)
def gD (g : Gx) : va_G := (g.1, g.2.1)
def gA (g : Gx) (k : Nat) : ClassId := g.2.2.1 k
def gB (g : Gx) : Nat := g.2.2.2.1
def gS (g : Gx) (k : Nat) : Nat := g.2.2.2.2.1 k
def gL (g : Gx) : Nat := g.2.2.2.2.2.1
def gX (g : Gx) (k : Nat) : Int32 := g.2.2.2.2.2.2 k
def w32 (x : Int) : Int := (x + 2147483648) % 4294967296 - 2147483648
def w64 (x : Int) : Int := (x + 9223372036854775808) % 18446744073709551616 - 9223372036854775808
def r32 (x : Int) : Prop := -2147483648 ≤ x ∧ x ≤ 2147483647
def r64 (x : Int) : Prop := -9223372036854775808 ≤ x ∧ x ≤ 9223372036854775807
def rgv (v : AV) : Prop := if v.1 = 0 then r32 v.2 else if v.1 = 1 then r64 v.2 else True
def st (σ : Mem) (a i v : Int) : Mem := fun b j => if b = a ∧ j = i then v else σ b j
def refO (g : Gx) : Int → Option Nat
  | .ofNat k => some (gB g + k)
  | .negSucc 0 => none
  | .negSucc (n + 1) => some (gS g (n + 1))
def emb (g : Gx) (v : AV) : Value := if v.1 = 0 then .int (Int32.ofInt v.2) else if v.1 = 1 then .long (Int64.ofInt v.2) else va_rf (refO g v.2)
def embL (g : Gx) (l : Lo) : List (Nat × Value) := l.map fun q => (q.1, emb g q.2)
def fk (c j : Nat) : Nat := (fkL.getD c []).getD j 9
def sK (a : Int) : Nat := match a with
  | .ofNat k => (shp k).1
  | .negSucc n => 900 + n
def sN (a : Int) : Int := match a with
  | .ofNat k => ((shp k).2 : Int)
  | .negSucc n => if n = 1 then 7 else if n = 2 then 28 else 0
def ptr (a j : Int) : Int := match a, j with
  | .ofNat k, .ofNat i => (ptrL k).getD i (-1)
  | _, _ => -1
def fldV (g : Gx) (π : Int → Int → Int) (σ : Mem) (k c j : Nat) : Value := if fk c j = 1 then .long (Int64.ofInt (σ k j)) else if fk c j = 2 then va_rf (refO g (π k j)) else if fk c j = 3 then va_rf (refO g (σ k j)) else .int (Int32.ofInt (σ k j))
def cellE (g : Gx) (π : Int → Int → Int) (σ : Mem) (k : Nat) : va_E :=
  if (shp k).1 < 100 then .inr ((shp k).1, (List.range (shp k).2).map (fldV g π σ k (shp k).1))
  else if (shp k).1 = 101 then .inl (gA g 1, (shp k).2, .inr (.inl (fun j => Int64.ofInt (σ k j))))
  else if (shp k).1 < 103 then .inl (gA g ((shp k).1 - 100), (shp k).2, .inl (fun j => Int32.ofInt (σ k j)))
  else .inl (gA g ((shp k).1 - 100), (shp k).2, .inr (.inr (.inr (.inr (fun j => refO g (π k j))))))
def wsL (g : Gx) (X : HS) : va_W := (List.range X.2.1).map fun k => (gB g + k, cellE g X.1 X.2.2 k)
def tysL (g : Gx) : List (ClassId × FieldType) := [(gA g 0, .int), (gA g 1, .long), (gA g 2, .boolean), (gA g 3, .object "TakenInTurns$Giving"), (gA g 4, .object "TakenInTurns$Shelf"), (gA g 5, .object "TakenInTurns$Shares"), (gA g 6, .array .int)]
/-- which kind of value stands at a place: 0 int, 1 long, 4 boolean, else a reference -/
def kdAt (k j : Nat) : Nat := if (shp k).1 < 100 then fk (shp k).1 j else if (shp k).1 = 100 then 0 else if (shp k).1 = 101 then 1 else if (shp k).1 = 102 then 4 else 2
def rgk (kd : Nat) (x : Int) : Prop := if kd = 0 then r32 x else if kd = 1 then r64 x else if kd = 4 then x = 0 ∨ x = 1 else True
def stv (n j : Nat) : Int := if n = 1 then ([-1, 0, 1, 0, 0, 0, 5] : List Int).getD j 0 else ([1, 10, 11, 2, 20, 0, 0, 0, 0, 30, 0, 0, 0, 0, 40, 0, 0, 0, 0, 50, 0, 60, 0, 0, 0, 71, 70, 0] : List Int).getD j 0
/-- the numbers keep their kinds; the fixed rows outside hold what they hold -/
def PW (g : Gx) (σ : Mem) : Prop := (∀ k j : Nat, k < NC → rgk (kdAt k j) (σ k j)) ∧ (∀ j : Nat, j < 7 → σ (-2) j = stv 1 j) ∧ (∀ j : Nat, j < 28 → σ (-3) j = stv 2 j) ∧ (∀ j : Nat, j < gL g → σ (-4) j = (gX g j).toInt) ∧ σ (-4) (-1) = gL g ∧ gL g ≤ 3072
def WD (g : Gx) (X : HS) (H : Heap) : Prop := (gB g + X.2.1 ≤ H.size ∧ (X.2.1 < NC → H.size = gB g + X.2.1)) ∧ va_P (gD g) cls (wsL g X) H ∧ PW g X.2.2 ∧ X.2.1 ≤ NC
abbrev AA (g : Gx) : Nat → Prop := fun q => gB g ≤ q
/-- words on nest mates that methods need, which the tables' words don't keep -/
def nestM : List (String × Nat × MethodName × String) := [("TakenInTurns", 11, ⟨"TakenInTurns$Tape", "<init>", "()V"⟩, "TakenInTurns"), ("TakenInTurns$Giving", 38, ⟨"TakenInTurns$Shares", "<init>", "()V"⟩, "TakenInTurns"), ("TakenInTurns", 33, ⟨"TakenInTurns$Hand", "<init>", "()V"⟩, "TakenInTurns"), ("TakenInTurns", 40, ⟨"TakenInTurns$Rings", "<init>", "()V"⟩, "TakenInTurns"), ("TakenInTurns", 60, ⟨"TakenInTurns$Eating", "<init>", "()V"⟩, "TakenInTurns"), ("TakenInTurns", 67, ⟨"TakenInTurns$Trade", "<init>", "()V"⟩, "TakenInTurns"), ("TakenInTurns", 74, ⟨"TakenInTurns$Parting", "<init>", "()V"⟩, "TakenInTurns"), ("TakenInTurns", 81, ⟨"TakenInTurns$Evens", "<init>", "()V"⟩, "TakenInTurns"), ("TakenInTurns", 88, ⟨"TakenInTurns$Acts", "<init>", "()V"⟩, "TakenInTurns"), ("TakenInTurns", 99, ⟨"TakenInTurns$Shelf", "<init>", "()V"⟩, "TakenInTurns"), ("TakenInTurns$Tape", 58, ⟨"TakenInTurns", "isThing", "(LTakenInTurns$Giving;I)Z"⟩, "TakenInTurns"), ("TakenInTurns$Shares", 38, ⟨"TakenInTurns", "firstLine", "([II)V"⟩, "TakenInTurns"), ("TakenInTurns$Shares", 53, ⟨"TakenInTurns", "nextLine", "([II)Z"⟩, "TakenInTurns"), ("TakenInTurns$Parting", 76, ⟨"TakenInTurns", "numberOf", "([III)I"⟩, "TakenInTurns"), ("TakenInTurns$Evens", 48, ⟨"TakenInTurns", "commonOf", "(JJ)J"⟩, "TakenInTurns")]
/-- the classes of rows of references stand over their elements' classes -/
def AO (U : State) : Prop := (va_AO "TakenInTurns$Giving" U ∧ va_AO "TakenInTurns$Shelf" U ∧ va_AO "TakenInTurns$Shares" U) ∧ va_Nw (.arrayOver (.array .int)) U
def KD (g : Gx) (U : State) : Prop := va_K (gD g) cls (tysL g) U ∧ (∀ q ∈ nestM, va_Nw (.methodLinkNest q.1 q.2.1 q.2.2.1 q.2.2.2) U) ∧ va_Nw (.fieldLinkNest "TakenInTurns$Acts" 32 "TakenInTurns" "ABOVE" "[I" "TakenInTurns") U ∧ AO U
def SP (g : Gx) (U : State) (H : Heap) : Prop :=
  (va_Z "TakenInTurns" "ABOVE" "[I" (.ref (gS g 1)) (AA g) U H ∧ va_T .int (gS g 1) 7 (fun j => .int (Int32.ofInt (stv 1 j))) (AA g) U H) ∧
  (va_Z "TakenInTurns$Acts" "BODIES" "[I" (.ref (gS g 2)) (AA g) U H ∧ va_T .int (gS g 2) 28 (fun j => .int (Int32.ofInt (stv 2 j))) (AA g) U H) ∧
  va_X (gS g 3) (gL g) (gX g) U H ∧ gS g 3 < gB g
def rmd (d mc ms : Nat) : Room := { frames := d, cells := mc, slots := ms, locals := 64 * d }
-- ===== methods
def mN (M : MI) : MethodName := M.1
def mC (M : MI) : ByteArray := M.2.1
def mL (M : MI) : Nat := M.2.2.1
def mR (M : MI) : Option FieldType := M.2.2.2.1
def mO (M : MI) : String := ownNm M.2.2.2.2.1
def mOi (M : MI) : Nat := M.2.2.2.2.1
def mA (M : MI) : Nat := M.2.2.2.2.2.1
def mT (M : MI) : List AI := M.2.2.2.2.2.2
def mi0 : MI := (⟨"", "", ""⟩, ⟨#[]⟩, 0, none, 0, 0, [])
def ai0 : AI := (99, 0, 0, 0, 0, 0, [])
def pcOf (M : MI) (pos : Nat) : Nat := ((mT M).getD pos ai0).2.1
def wsM (M : MI) : List Jvm.Cond := Jvm.Cond.code (mN M) (mC M) (mL M) (mR M) :: W0
def emR (g : Gx) (M : MI) (v : Int) : Option Value := match mR M with
  | none => none
  | some .int => some (emb g (0, v))
  | some .boolean => some (emb g (0, v))
  | some .long => some (emb g (1, v))
  | some _ => some (emb g (2, v))
/-- what a call leaves on the stack -/
def pushR (M : MI) (v : Int) (stk : List AV) : List AV := match mR M with
  | none => stk
  | some .int => (0, v) :: stk
  | some .boolean => (0, v) :: stk
  | some .long => (1, v) :: stk
  | some _ => (2, v) :: stk
def rgR (M : MI) (v : Int) : Prop := match mR M with
  | none => True
  | some .int => r32 v
  | some .boolean => v = 0 ∨ v = 1
  | some .long => r64 v
  | some _ => True
/-- the contract of a method at given arguments and a given memory: it returns, and what K says holds of its answer and of the memory then -/
def AM (M : MI) (d mc ms : Nat) (as : List AV) (X : HS) (K : Int → HS → Prop) : Prop :=
  ∀ (l : Launch) (g : Gx), (∀ v ∈ as, rgv v) → Met l (mN M) (wsM M) (rmd d mc ms) (fun v U => v = (as.map (emb g)).toArray ∧ KD g U ∧ SP g U U.heap ∧ gB g ≤ U.heap.size ∧ WD g X U.heap)
    (fun _ st oc t => (∃ (v : Int) (X' : HS), oc = .returned (emR g M v) ∧ rgR M v ∧ K v X' ∧ WD g X' t.heap) ∧ va_F (AA g) st t) mc ms (AA g)
def FX (M : MI) (p : Program) (s : State) (m : MethodId) (args : Array Value) (meth : Method) (c : Code) : Prop :=
  p.tables.exec = Jvm.exec ∧ c.code = mC M ∧ c.maxLocals = mL M ∧ s.vm.findClass (mO M) = some m.cls ∧ (∀ w ∈ W0, w.before args s = true) ∧ meth.sig.returnType = mR M ∧ meth.locks = false ∧ meth.name = (mN M).name
def retI (M : MI) : Instr := match mR M with
  | none => .return_
  | some .int => .ireturn
  | some .boolean => .ireturn
  | some .long => .lreturn
  | some _ => .areturn
def RK (M : MI) (d mc ms : Nat) (K : Int → HS → Prop) (g : Gx) (p : Program) (l : Launch) (e : Env) (s : State) (m : MethodId) (args : Array Value) (below : List Frame) (meth : Method) (c : Code) (Fin : State → Prop) : Prop :=
  ∀ (H : Heap) (locs : List Loc) (ls : Array Slot) (pc : Nat) (X : HS) (v : Int), decode (mC M) pc = .ok (retI M, 1) → WD g X H → va_S (AA g) s.heap H locs → rgR M v → K v X →
    W p l e (rmd d mc ms) s m args below meth c H locs mc ms Fin (F0 m pc ls (emR g M v).toList)
/-- the machine at a place of a method: it comes to its end, and K holds there -/
def AW (M : MI) (d mc ms : Nat) (pos : Nat) (stk : List AV) (loc : Lo) (X : HS) (cells slots : Nat) (K : Int → HS → Prop) : Prop :=
  ∀ (g : Gx) (p : Program) (l : Launch) (e : Env) (s : State) (m : MethodId) (args : Array Value) (below : List Frame) (meth : Method) (c : Code) (Fin : State → Prop) (H : Heap) (locs : List Loc) (ls : Array Slot),
    FX M p s m args meth c → KD g s → SP g s s.heap → gB g ≤ s.heap.size → RK M d mc ms K g p l e s m args below meth c Fin → WD g X H → va_S (AA g) s.heap H locs → lv_has ls (mL M) (embL g loc) → (∀ v ∈ stk, rgv v) → (∀ q ∈ loc, rgv q.2) → cells ≤ mc → slots ≤ ms →
    W p l e (rmd d mc ms) s m args below meth c H locs cells slots Fin (F0 m (pcOf M pos) ls (stk.map (emb g)))
-- ===== what a row of a method's table stands for
def offs (M : MI) (t pc : Nat) : Int := (pcOf M t : Int) - pc
def cndO (c : Nat) : Jvm.ClassFile.Cond := if c = 0 then .eq else if c = 1 then .ne else if c = 2 then .lt else if c = 3 then .ge else if c = 4 then .gt else .le
