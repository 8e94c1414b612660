/-! ===== rows of rows (multianewarray, two dimensions of ints) ===== -/
def mgO (cA : ClassId) (N h i : Nat) : Cell := arrV cA N (fun j => if j < i then .ref (h + 1 + j) else .null)
def mgI (cI : ClassId) (M : Nat) : Cell := arrV cI M (fun _ => .int 0)
def mgS (T : State) (cA cI : ClassId) (N M : Nat) : Nat → State
  | 0 => T.pushCell (mgO cA N T.heap.size 0)
  | i + 1 => ((mgS T cA cI N M i).pushCell (mgI cI M)).setCell T.heap.size (mgO cA N T.heap.size (i + 1))
theorem mgO_set (cA : ClassId) (N h i : Nat) : (mgO cA N h i).setSlot i (.ref (h + 1 + i)) = mgO cA N h (i + 1) := by
  unfold mgO
  rw [arrV_store]
  congr 1
  funext j
  unfold updV
  by_cases e : j = i
  · subst e; rw [if_pos rfl, if_pos (by omega)]
  · rw [if_neg e]
    dsimp only
    by_cases e2 : j < i
    · rw [if_pos e2, if_pos (by omega)]
    · rw [if_neg e2, if_neg (by omega)]
theorem mgS_f (T : State) (cA cI : ClassId) (N M : Nat) : ∀ i, (mgS T cA cI N M i).heap.size = T.heap.size + 1 + i ∧ (mgS T cA cI N M i).heap[T.heap.size]? = some (mgO cA N T.heap.size i) ∧ (mgS T cA cI N M i).vm = T.vm ∧ (mgS T cA cI N M i).slotsUsed = T.slotsUsed + N + i * M
    ∧ (∀ a : Addr, a < T.heap.size → (mgS T cA cI N M i).heap[a]? = T.heap[a]?) ∧ ∀ j, j < i → (mgS T cA cI N M i).heap[T.heap.size + 1 + j]? = some (mgI cI M)
  | 0 => ⟨by simp [mgS], by simp [mgS], rfl, by simp [mgS, mgO, arrV_size], fun a ha => State.heap_pushCell_of_lt _ _ ha, fun j hj => absurd hj (Nat.not_lt_zero j)⟩
  | i + 1 => by
    obtain ⟨h1, h2, h3, h4, h5, h6⟩ := mgS_f T cA cI N M i
    have hlt : T.heap.size < (mgS T cA cI N M i).heap.size := by omega
    have hb : ((mgS T cA cI N M i).pushCell (mgI cI M)).heap[T.heap.size]? = some (mgO cA N T.heap.size i) := by rw [State.heap_pushCell_of_lt (h := hlt)]; exact h2
    refine ⟨?_, State.heap_setCell_self hb, by simp [mgS, h3], ?_, fun a ha => ?_, fun j hj => ?_⟩
    · simp [mgS, State.setCell, h1]; omega
    · simp [mgS, h4, mgI, arrV_size, Nat.succ_mul]; omega
    · have hl2 : a < (mgS T cA cI N M i).heap.size := by rw [h1]; exact Nat.lt_of_lt_of_le ha (by omega)
      show (((mgS T cA cI N M i).pushCell (mgI cI M)).setCell T.heap.size _).heap[a]? = _
      rw [State.heap_setCell_other (Nat.ne_of_gt ha), State.heap_pushCell_of_lt (h := hl2)]
      exact h5 a ha
    · show (((mgS T cA cI N M i).pushCell (mgI cI M)).setCell T.heap.size _).heap[T.heap.size + 1 + j]? = _
      rw [State.heap_setCell_other (show T.heap.size ≠ T.heap.size + 1 + j by omega)]
      rcases Nat.lt_or_ge j i with q | q
      · have hl2 : T.heap.size + 1 + j < (mgS T cA cI N M i).heap.size := by omega
        rw [State.heap_pushCell_of_lt (h := hl2)]
        exact h6 j q
      · have e : j = i := by omega
        subst e
        rw [← h1]
        exact State.heap_pushCell_size _ _
theorem mgS_top (T : State) (f : JFrame) (cA cI : ClassId) (N M : Nat) : ∀ i, mgS (T.setTop f) cA cI N M i = (mgS T cA cI N M i).setTop f
  | 0 => rfl
  | i + 1 => by simp only [mgS, mgS_top T f cA cI N M i, State.heap_setTop, State.pushCell_setTop, State.setCell_setTop]
section
variable {E : CtlPost} {e : Env} {d : Bool} {acts : List Action} {s : State}
theorem mg_wp1 {cI cc : ClassId} {kI : Class} {M : Int32} (hkI : s.vm.classes[cI]? = some kI) (hki : kI.kind = .array cc .int) (hm : ¬ M < 0) (hl : ¬ M.toNatClampNeg > e.platform.arrayLengthLimit) (hh : ¬ M.toNatClampNeg * componentBytes .int > e.platform.maxHeapBytes)
    (h1 : s.heap.size < e.platform.maxCells) (h2 : s.slotsUsed + M.toNatClampNeg ≤ e.platform.maxSlots) {Q : Addr → Pre} (hq : ∀ acts', Q s.heap.size d acts' (s.pushCell (mgI cI M.toNatClampNeg))) : _root_.Jvm.Sem.wp (multianewarray.make cI [M]) Q E e d acts s := by
  rw [multianewarray.make]
  simp only [wp_bind', W.ite, hm, if_false, wp_pure', W.theClass, hkI, hki, Option.some.injEq, exists_eq_left']
  refine W.newArray_of hkI hki hl hh h1 h2 rfl fun acts' => ?_
  have h := hq acts'
  unfold mgI at h
  rw [← arrV_new] at h
  exact h
theorem mg_wp2 {cA cI cc : ClassId} {kA kI : Class} {N M : Int32} (hkA : s.vm.classes[cA]? = some kA) (hka : kA.kind = .array cI (.array .int)) (hkI : s.vm.classes[cI]? = some kI) (hki : kI.kind = .array cc .int) (hn : ¬ N < 0) (hm : ¬ M < 0)
    (hl1 : ¬ N.toNatClampNeg > e.platform.arrayLengthLimit) (hh1 : ¬ N.toNatClampNeg * componentBytes (.array .int) > e.platform.maxHeapBytes) (hl2 : ¬ M.toNatClampNeg > e.platform.arrayLengthLimit) (hh2 : ¬ M.toNatClampNeg * componentBytes .int > e.platform.maxHeapBytes)
    (hc : s.heap.size + 1 + N.toNatClampNeg ≤ e.platform.maxCells) (hs : s.slotsUsed + N.toNatClampNeg + N.toNatClampNeg * M.toNatClampNeg ≤ e.platform.maxSlots)
    {Q : Addr → Pre} (hq : ∀ d' acts', Q s.heap.size d' acts' (mgS s cA cI N.toNatClampNeg M.toNatClampNeg N.toNatClampNeg)) : _root_.Jvm.Sem.wp (multianewarray.make cA [N, M]) Q E e d acts s := by
  have hf : ([M].find? (· < 0)) = none := by simp [hm]
  rw [multianewarray.make]
  simp only [wp_bind', W.ite, hn, if_false, wp_pure', W.theClass, hkA, hka, Option.some.injEq, exists_eq_left']
  refine W.newArray_of hkA hka hl1 hh1 (by omega) (by have := Nat.zero_le (N.toNatClampNeg * M.toNatClampNeg); omega) rfl fun acts0 => ?_
  simp only [hf]
  rw [ite_self, wp_bind', Std.Legacy.Range.forIn_eq_forIn_range']
  have hz : ([:N.toNatClampNeg] : Std.Legacy.Range).size = N.toNatClampNeg := by simp [Std.Legacy.Range.size]
  rw [hz]
  show _root_.Jvm.Sem.wp (forIn (List.range' 0 N.toNatClampNeg 1) PUnit.unit _) _ E e d acts0 _
  refine wp_forIn_inv (fun rest t => ∃ i, i ≤ N.toNatClampNeg ∧ rest = List.range' i (N.toNatClampNeg - i) ∧ t = mgS s cA cI N.toNatClampNeg M.toNatClampNeg i) _ _ ⟨0, Nat.zero_le _, rfl, ?_⟩ ?_ ?_
  · show s.pushCell _ = s.pushCell (mgO cA N.toNatClampNeg s.heap.size 0)
    unfold mgO
    simp only [Nat.not_lt_zero, if_false]
    rw [← arrV_new]
  · rintro x rest t d' acts' Q' ⟨i, hi, hl, rfl⟩ hnext
    have hlt : i < N.toNatClampNeg := by
      rcases Nat.lt_or_ge i N.toNatClampNeg with h | h
      · exact h
      · rw [show N.toNatClampNeg - i = 0 from by omega] at hl; simp at hl
    rw [show N.toNatClampNeg - i = (N.toNatClampNeg - (i + 1)) + 1 from by omega, List.range'_succ] at hl
    obtain ⟨rfl, hrest⟩ := List.cons.inj hl
    obtain ⟨f1, f2, f3, f4, -, -⟩ := mgS_f s cA cI N.toNatClampNeg M.toNatClampNeg x
    have hmul : x * M.toNatClampNeg + M.toNatClampNeg ≤ N.toNatClampNeg * M.toNatClampNeg := by
      have := Nat.mul_le_mul_right M.toNatClampNeg (show x + 1 ≤ N.toNatClampNeg from hlt)
      rw [Nat.succ_mul] at this; exact this
    simp only [wp_bind']
    refine mg_wp1 (by rw [f3]; exact hkI) hki hm hl2 hh2 (by rw [f1]; omega) (by rw [f4]; omega) fun acts1 => ?_
    have hlt0 : s.heap.size < (mgS s cA cI N.toNatClampNeg M.toNatClampNeg x).heap.size := by rw [f1]; omega
    simp only [wp_bind', W.writeLoc, wp_pure']
    refine ⟨mgO cA N.toNatClampNeg s.heap.size x, by rw [State.heap_pushCell_of_lt (h := hlt0)]; exact f2, by simp [mgO, arrV], by unfold mgO; rw [arrV_size]; exact hlt, ?_, hnext _ _ _ ⟨x + 1, hlt, hrest, ?_⟩⟩
    · simp [mgO, arrV, State.fitsSlot, State.slotType?, f3, hkA, hka, fits]
    · rw [f1, mgO_set]; rfl
  · rintro t d' acts' ⟨i, hi, hl, rfl⟩
    have hiN : i = N.toNatClampNeg := by
      rcases Nat.lt_or_ge i N.toNatClampNeg with h | h
      · rw [show N.toNatClampNeg - i = (N.toNatClampNeg - (i + 1)) + 1 from by omega, List.range'_succ] at hl; cases hl
      · omega
    subst hiN
    simp only [wp_pure']
    exact hq _ _
end
section
variable {p : Program} {l : Launch} {e : Env} {R : Room} {s : State} {m : MethodId} {args : Array Value} {below : List Frame} {meth : Method} {c : Code} {T : State} {H : Heap} {locs : List Loc} {cells slots : Nat} {Q : State → Prop} {cc : ByteArray}
theorem mg_stand (X : Stand p l e R s m args below meth c T locs cells slots) (cA cI : ClassId) (N M : Nat) : ∀ i, Stand p l e R s m args below meth c (mgS T cA cI N M i) (locs ++ (List.range i).map fun j => ⟨T.heap.size, j⟩) (cells + 1 + i) (slots + N + i * M)
  | 0 => by
    have h := X.pushed (mgO cA N T.heap.size 0)
    have e1 : (mgO cA N T.heap.size 0).slots.size = N := by unfold mgO; rw [arrV_size]
    rw [e1] at h
    simpa [mgS] using h
  | i + 1 => by
    have Xi := mg_stand X cA cI N M i
    obtain ⟨f1, f2, f3, f4, -, -⟩ := mgS_f T cA cI N M i
    have hlt0 : T.heap.size < (mgS T cA cI N M i).heap.size := by rw [f1]; omega
    have hcell : ((mgS T cA cI N M i).pushCell (mgI cI M)).heap[T.heap.size]? = some (mgO cA N T.heap.size i) := by rw [State.heap_pushCell_of_lt (h := hlt0)]; exact f2
    have h := (Xi.pushed (mgI cI M)).stored hcell i (.ref (T.heap.size + 1 + i))
    have e1 : (mgI cI M).slots.size = M := by unfold mgI; rw [arrV_size]
    rw [e1, mgO_set] at h
    have e2 : (locs ++ (List.range (i + 1)).map fun j => (⟨T.heap.size, j⟩ : Loc)) = (locs ++ (List.range i).map fun j => (⟨T.heap.size, j⟩ : Loc)) ++ [⟨T.heap.size, i⟩] := by simp [List.range_succ, List.append_assoc]
    have e3 : slots + N + (i + 1) * M = slots + N + i * M + M := by rw [Nat.succ_mul]; omega
    rw [e2, e3]
    exact h
/-- the row: one cell of N rows, then N rows of M ints -/
theorem my_multi (hexec : p.tables.exec = Jvm.exec) (hb : c.code = cc) {own : String} {index : Nat} (hown : s.vm.findClass own = some m.cls) (hclink : (Jvm.Cond.classLink own index "[[I").before args s = true)
    (hover : va_Nw (.arrayOver (.array .int)) s) (harr : (Jvm.Cond.arrayClass .int).before args s = true) {g : JFrame} (hg : g.method = m) (hdg : decode cc g.pc = .ok (.multianewarray index 2, 4)) {N M : Int32} {rest : List Value} (hstack : g.stack = .int M :: .int N :: rest)
    (hn : ¬ N < 0) (hm : ¬ M < 0) (hb1 : N.toNatClampNeg ≤ 1000) (hb2 : M.toNatClampNeg ≤ 1000) (hge : s.heap.size ≤ H.size) (hcells : cells + (1 + N.toNatClampNeg) ≤ R.cells) (hslots : slots + (N.toNatClampNeg + N.toNatClampNeg * M.toNatClampNeg) ≤ R.slots)
    (kk : ∀ (cA cI : ClassId) (H1 : Heap), s.vm.findClass "[[I" = some cA → s.vm.findClass "[I" = some cI → H1.size = H.size + 1 + N.toNatClampNeg → H1[H.size]? = some (mgO cA N.toNatClampNeg H.size N.toNatClampNeg) → (∀ j, j < N.toNatClampNeg → H1[H.size + 1 + j]? = some (mgI cI M.toNatClampNeg)) → (∀ q : Nat, q < H.size → H1[q]? = H[q]?) →
      W p l e R s m args below meth c H1 locs (cells + 1 + N.toNatClampNeg) (slots + N.toNatClampNeg + N.toNatClampNeg * M.toNatClampNeg) Q { g with pc := g.pc + 4, stack := .ref H.size :: rest }) : W p l e R s m args below meth c H locs cells slots Q g := by
  intro T hT X
  subst hT; subst hb; subst hg
  have hpl : e.platform.magicAccessors = ({} : Platform).magicAccessors := by rw [X.admits.platform]
  obtain ⟨cI, cA, kA, hcI, -, hkA, hka, hnA⟩ := arrayOverA_spec hover
  obtain ⟨cI', kI, cc, hcI', hkI, hki⟩ := Cond.arrayClass_spec harr
  have e0 : cI' = cI := Option.some.inj (hcI'.symm.trans hcI)
  subst e0
  obtain ⟨c0, hfc0, hcl⟩ := Cond.classLink_spec hown hclink e.platform hpl
  have hnA' : s.vm.findClass "[[I" = some cA := hnA
  cases hnA'.symm.trans hfc0
  obtain ⟨hg1, hw1, hr1⟩ := State.classEntry (e := e) X.warmed hcl
  generalize T.vm.noted g.method.cls index (.cls cA) = vm1 at hg1 hw1 hr1
  have hal : s.vm.Alike vm1 := hw1.alike
  obtain ⟨kA1, hkA1, heA⟩ := hal.2.2 _ _ hkA
  obtain ⟨kI1, hkI1, heI⟩ := hal.2.2 _ _ hkI
  have hka1 : kA1.kind = .array cI' (.array .int) := by rw [heA]; exact hka
  have hki1 : kI1.kind = .array cc .int := by rw [heI]; exact hki
  have X1 := X.noted hw1
  obtain ⟨hr2, hr3⟩ := X.roomAbove hcells hslots
  obtain ⟨f1, f2, f3, f4, f5, f6⟩ := mgS_f (T.setVm vm1) cA cI' N.toNatClampNeg M.toNatClampNeg N.toNatClampNeg
  have XF := mg_stand X1 cA cI' N.toNatClampNeg M.toNatClampNeg N.toNatClampNeg
  have XG := Stand.forget XF (fun y hy => by
    obtain ⟨j, -, rfl⟩ := List.mem_map.mp hy
    exact hge)
  obtain ⟨t, a1, b1⟩ := kk cA cI' _ hnA' hcI f1 f2 f6 f5 _ rfl XG
  refine ⟨t, ?_, b1⟩
  have hl1 : ¬ N.toNatClampNeg > e.platform.arrayLengthLimit := by rw [Launch.admits_arrayLengthLimit X.admits]; omega
  have hh1 : ¬ N.toNatClampNeg * componentBytes (.array .int) > e.platform.maxHeapBytes := by
    rw [Launch.admits_maxHeapBytes X.admits]; show ¬ N.toNatClampNeg * 4 > 536870912; omega
  have hl2 : ¬ M.toNatClampNeg > e.platform.arrayLengthLimit := by rw [Launch.admits_arrayLengthLimit X.admits]; omega
  have hh2 : ¬ M.toNatClampNeg * componentBytes .int > e.platform.maxHeapBytes := by
    rw [Launch.admits_maxHeapBytes X.admits]; show ¬ M.toNatClampNeg * 4 > 536870912; omega
  jvm_step X.here [hexec, hdg]
  simp only [multianewarray.sem, wp_bind', W.resolveClassAt_links (State.method?_setTop g X.here.top) hg1]
  rw [W.popN, if_neg (by decide)]
  refine ⟨g, State.topJava?_setTop' (s := T.setVm vm1) g X.here.top, [.int N, .int M], rest, rfl, hstack, ?_⟩
  simp only [List.mapM_cons, List.mapM_nil, wp_bind', wp_pure']
  refine mg_wp2 (kA := kA1) (kI := kI1) (cI := cI') (cc := cc) hkA1 hka1 hkI1 hki1 hn hm hl1 hh1 hl2 hh2 (by show T.heap.size + 1 + _ ≤ _; omega) (by show T.slotsUsed + _ + _ ≤ _; omega) (fun d' acts' => ?_)
  have eS : ((T.setTop g).setVm vm1).setTop { g with stack := rest } = (T.setVm vm1).setTop { g with stack := rest } := by
    show ((T.setVm vm1).setTop g).setTop _ = _
    rw [State.setTop_setTop]
  rw [eS, mgS_top]
  simp only [wp_bind', W.mark, W.pushRef, State.topJava?_setTop' _ XF.here.top, Option.some.injEq, exists_eq_left', State.setTop_setTop, State.heap_setTop]
  intro acts
  simp [jvm, XF.here.top]
  exact a1
end
