theorem brF_i {c P Q : Prop} (h : ¬ c) (q : Q) : (c → P) ∧ (¬ c → Q) := ⟨fun z => absurd z h, fun _ => q⟩
theorem brT_i {c P Q : Prop} (h : c) (p : P) : (c → P) ∧ (¬ c → Q) := ⟨fun _ => p, fun z => absurd h z⟩
def oL (L : List Nat) : Int → Int := fun i => ((L.getD i.toNat 0 : Nat) : Int)
theorem getD_set {L : List Nat} {i j v : Nat} (h : i < L.length) : (L.set i v).getD j 0 = if j = i then v else L.getD j 0 := by
  rw [List.getD_eq_getElem?_getD, List.getD_eq_getElem?_getD]
  by_cases c : j = i
  · subst c; rw [List.getElem?_set_self h, if_pos rfl]; rfl
  · rw [List.getElem?_set_ne (fun z => c z.symm), if_neg c]
theorem swL_len {L : List Nat} {i j : Nat} : (swL L i j).length = L.length := by unfold swL; rw [List.length_set, List.length_set]
theorem swL_get {L : List Nat} {i j k : Nat} (hi : i < L.length) (hj : j < L.length) : (swL L i j).getD k 0 = if k = j then L.getD i 0 else if k = i then L.getD j 0 else L.getD k 0 := by
  unfold swL
  rw [getD_set (by rw [List.length_set]; exact hj), getD_set hi]
theorem fIL_T {L : List Nat} {m : Nat} (h : L.getD (m + 1) 0 < L.getD m 0) : fIL L (m + 1) = fIL L m := if_pos h
theorem fIL_F {L : List Nat} {m : Nat} (h : ¬ L.getD (m + 1) 0 < L.getD m 0) : fIL L (m + 1) = some m := if_neg h
theorem fJL_T {L : List Nat} {i k : Nat} (h : L.getD (i + k + 1) 0 < L.getD i 0) : fJL L i (k + 1) = fJL L i k := if_pos h
theorem fJL_F {L : List Nat} {i k : Nat} (h : ¬ L.getD (i + k + 1) 0 < L.getD i 0) : fJL L i (k + 1) = i + k + 1 := if_neg h
theorem fIL_r {L : List Nat} : ∀ (m : Nat) (i : Nat), fIL L m = some i → i < m ∧ ¬ L.getD (i + 1) 0 < L.getD i 0
  | 0, i, h => by cases h
  | m + 1, i, h => by
    unfold fIL at h
    by_cases c : L.getD (m + 1) 0 < L.getD m 0
    · rw [if_pos c] at h; have := fIL_r m i h; omega
    · rw [if_neg c] at h; cases h; exact ⟨by omega, c⟩
theorem fJL_r {L : List Nat} {i : Nat} : ∀ k : Nat, i ≤ fJL L i k ∧ fJL L i k ≤ i + k
  | 0 => ⟨Nat.le_refl i, Nat.le_refl i⟩
  | k + 1 => by
    unfold fJL
    by_cases c : L.getD (i + k + 1) 0 < L.getD i 0
    · rw [if_pos c]; have := fJL_r (L := L) (i := i) k; omega
    · rw [if_neg c]; omega
theorem rvL_len : ∀ (f : Nat) (L : List Nat) (a b : Nat), (rvL f L a b).length = L.length
  | 0, _, _, _ => rfl
  | f + 1, L, a, b => by
    unfold rvL
    by_cases c : a < b
    · rw [if_pos c, rvL_len f, swL_len]
    · rw [if_neg c]
theorem nxL_len {L L' : List Nat} (h : nxL L = some L') : L'.length = L.length := by
  unfold nxL at h
  cases e : fIL L (L.length - 1) with
  | none => rw [e] at h; cases h
  | some i => rw [e] at h; cases h; rw [rvL_len, swL_len]
-- a line stays a line
theorem swL_PM {L : List Nat} {i j : Nat} (hi : i < L.length) (hj : j < L.length) (h : PM (L.length : Int) (oL L)) : PM (L.length : Int) (oL (swL L i j)) := by
  have val : ∀ k : Int, 0 ≤ k → oL (swL L i j) k = oL L (if k = j then (i : Int) else if k = i then (j : Int) else k) := fun k k0 => by
    unfold oL
    rw [swL_get hi hj]
    by_cases c : k = (j : Int)
    · rw [if_pos (by omega), if_pos c, Int.toNat_natCast]
    · rw [if_neg (by omega), if_neg c]
      by_cases c2 : k = (i : Int)
      · rw [if_pos (by omega), if_pos c2, Int.toNat_natCast]
      · rw [if_neg (by omega), if_neg c2]
  have inv : ∀ k : Int, 0 ≤ k → k < L.length → 0 ≤ (if k = j then (i : Int) else if k = i then (j : Int) else k) ∧ (if k = j then (i : Int) else if k = i then (j : Int) else k) < L.length := fun k k0 k1 => by
    split
    · omega
    · split <;> omega
  intro k k0 k1
  rw [val k k0]
  have hk := inv k k0 k1
  have h1 := h _ hk.1 hk.2
  refine ⟨h1.1, fun q q0 q1 e => ?_⟩
  rw [val q q0] at e
  have hq := inv q q0 q1
  have := h1.2 _ hq.1 hq.2 e
  split at this <;> split at this <;> (try split at this) <;> (try split at this) <;> omega
theorem rvL_PM : ∀ (f : Nat) (L : List Nat) (a b : Nat), b < L.length → PM (L.length : Int) (oL L) → PM (L.length : Int) (oL (rvL f L a b))
  | 0, _, _, _, _, h => h
  | f + 1, L, a, b, hb, h => by
    unfold rvL
    by_cases c : a < b
    · rw [if_pos c]
      have h2 := rvL_PM f (swL L a b) (a + 1) (b - 1) (by rw [swL_len]; omega) (by rw [swL_len]; exact swL_PM (by omega) (by omega) h)
      rw [swL_len] at h2
      exact h2
    · rw [if_neg c]; exact h
theorem nxL_PM {L L' : List Nat} (hP : PM (L.length : Int) (oL L)) (h : nxL L = some L') : PM (L'.length : Int) (oL L') := by
  rw [nxL_len h]
  unfold nxL at h
  cases e : fIL L (L.length - 1) with
  | none => rw [e] at h; cases h
  | some i =>
    rw [e] at h
    cases h
    have hi := fIL_r _ _ e
    have hj := fJL_r (L := L) (i := i) (L.length - 1 - i)
    have h2 := rvL_PM L.length (swL L i (fJL L i (L.length - 1 - i))) (i + 1) (L.length - 1) (by rw [swL_len]; omega) (by rw [swL_len]; exact swL_PM (by omega) (by omega) hP)
    rw [swL_len] at h2
    exact h2
theorem range_PM (n : Nat) : PM (n : Int) (oL (List.range n)) := by
  have val : ∀ k : Int, 0 ≤ k → k < n → oL (List.range n) k = k := fun k k0 k1 => by
    unfold oL
    rw [List.getD_eq_getElem?_getD, List.getElem?_range (by omega)]
    show ((k.toNat : Nat) : Int) = k
    omega
  intro k k0 k1
  rw [val k k0 k1]
  exact ⟨⟨k0, k1⟩, fun q q0 q1 e => by rw [val q q0 q1] at e; exact e⟩
/-- the lines from one on, each the next of the one ahead -/
def CH : List (List Nat) → Prop
  | [] => False
  | [a] => nxL a = none
  | a :: b :: r => nxL a = some b ∧ CH (b :: r)
theorem chL_CH : ∀ l : List (List Nat), chL l = true → CH l
  | [], h => by cases h
  | [a], h => by
    unfold chL at h
    unfold CH
    exact Option.isNone_iff_eq_none.mp h
  | a :: b :: r, h => by
    unfold chL at h
    rw [Bool.and_eq_true] at h
    refine ⟨?_, chL_CH (b :: r) h.2⟩
    have h1 := h.1
    cases e : nxL a with
    | none => rw [e] at h1; cases h1
    | some c => rw [e] at h1; rw [eq_of_beq h1]
theorem pm_CH (n : Nat) (hn : n ≤ 7) : ∃ r, pmN n = List.range n :: r ∧ CH (List.range n :: r) ∧ r.length < 5040 := by
  have key : ∀ l : List (List Nat), chL l = true → l.head? = some (List.range n) → l.length ≤ 5040 → ∃ r, l = List.range n :: r ∧ CH (List.range n :: r) ∧ r.length < 5040 := by
    intro l h1 h2 h3
    cases l with
    | nil => cases h2
    | cons a r =>
      have : a = List.range n := by simpa using h2
      subst this
      exact ⟨r, rfl, chL_CH _ h1, by have := h3; simp at this; omega⟩
  by_cases c : n = 7
  · subst c; exact key _ chL_7 chL_7b.1 chL_7b.2
  · have h := chL_ok ⟨n, by omega⟩
    exact key _ h.1 h.2.1 (by have := h.2.2; (try dsimp only at this); omega)
-- ===== the class's lines
theorem X_exchange_ok {d : Nat} {K : Int → Mem → Prop} {s : Mem} {l i j : Int} (hk : sK l = 100) (i0 : 0 ≤ i) (i1 : i < sN l) (j0 : 0 ≤ j) (j1 : j < sN l) (k : K 0 (st (st s l i (s l j)) l j (s l i))) : AM2 i_X_exchange (d + 1) [(2, l), (0, i), (0, j)] s K :=
  e_X_exchange fun _ _ => chkK_i hk (inb_i i0 i1 (chkK_i hk (inb_i j0 j1 (chkK_i hk (inb_i i0 i1 (chkK_i hk (inb_i j0 j1 k)))))))
def LR (s : Mem) (l : Int) (L : List Nat) : Prop := ∀ i, 0 ≤ i → i < (L.length : Int) → s l i = oL L i
theorem LR_sw {s : Mem} {l : Int} {L : List Nat} {i j : Nat} (h : LR s l L) (hi : i < L.length) (hj : j < L.length) : LR (st (st s l i (s l j)) l j (s l i)) l (swL L i j) := by
  intro k k0 k1
  rw [swL_len] at k1
  have hi2 := h i (by omega) (by omega)
  have hj2 := h j (by omega) (by omega)
  have hk2 := h k k0 k1
  unfold oL at *
  rw [swL_get hi hj]
  rw [Int.toNat_natCast] at hi2 hj2
  by_cases c : k = (j : Int)
  · rw [if_pos (by omega), c, st_self, hi2]
  · rw [if_neg (by omega), st_ne (by omega)]
    by_cases c2 : k = (i : Int)
    · rw [if_pos (by omega), c2, st_self, hj2]
    · rw [if_neg (by omega), st_ne (by omega), hk2]
theorem X_nextLine_ok {d : Nat} {K : Int → Mem → Prop} {s : Mem} {l : Int} {L : List Nat} (hk : sK l = 100) (hn : (L.length : Int) ≤ sN l) (hN : sN l ≤ 8) (h : LR s l L) (k0 : nxL L = none → K 0 s) (k1 : ∀ (L' : List Nat) (s2 : Mem), nxL L = some L' → LR s2 l L' → (∀ b j, ¬ (b = l ∧ 0 ≤ j ∧ j < (L.length : Int)) → s2 b j = s b j) → K 1 s2) : AM2 i_X_nextLine (d + 2) [(2, l), (0, (L.length : Int))] s K := by
  have g : ∀ i : Nat, i < L.length → s l i = ((L.getD i 0 : Nat) : Int) := fun i hi => by
    have := h i (by omega) (by omega); unfold oL at this; rw [Int.toNat_natCast] at this; exact this
  have rev : ∀ (f : Nat) (M : List Nat) (a b : Nat) (s1 : Mem), M.length = L.length → b < L.length → b - a ≤ 2 * f → LR s1 l M → (∀ q j, ¬ (q = l ∧ 0 ≤ j ∧ j < (L.length : Int)) → s1 q j = s q j) → nxL L = some (rvL f M a b) → AW2 i_X_nextLine (d + 2) 49 [] [(0, (2, l)), (4, (0, (a : Int))), (5, (0, (b : Int)))] s1 K := by
    intro f
    induction f with
    | zero =>
      intro M a b s1 hM hb hf hR fr e
      exact s_X_nextLine_49 ⟨fun z => by omega, fun _ => k1 _ s1 e hR fr⟩
    | succ f ih =>
      intro M a b s1 hM hb hf hR fr e
      unfold rvL at e
      refine s_X_nextLine_49 ⟨fun z => ?_, fun z => ?_⟩
      · rw [if_pos (by omega)] at e
        refine X_exchange_ok hk (by omega) (by omega) (by omega) (by omega) ?_
        rw [w32_id (by omega) (by omega), w32_id (by omega) (by omega)]
        have := ih (swL M a b) (a + 1) (b - 1) _ (by rw [swL_len]; exact hM) (by omega) (by omega) (LR_sw hR (by omega) (by omega)) (fun q j y => by rw [st_ne (by omega), st_ne (by omega)]; exact fr q j y) e
        rw [show ((b - 1 : Nat) : Int) = (b : Int) + -1 by omega, show ((a + 1 : Nat) : Int) = (a : Int) + 1 by omega] at this
        exact this
      · rw [if_neg (by omega)] at e
        exact k1 _ s1 e hR fr
  have lj : ∀ (i : Nat), fIL L (L.length - 1) = some i → ∀ k : Nat, i + k < L.length → fJL L i k = fJL L i (L.length - 1 - i) → AW2 i_X_nextLine (d + 2) 25 [] [(0, (2, l)), (1, (0, (L.length : Int))), (2, (0, (i : Int))), (3, (0, ((i + k : Nat) : Int)))] s K := by
    intro i hi
    have hir := fIL_r _ _ hi
    have fin : ∀ j : Nat, j = fJL L i (L.length - 1 - i) → j < L.length → AM2 i_X_exchange (d + 1) [(2, l), (0, (i : Int)), (0, (j : Int))] s (fun w1 σ1 => AW2 i_X_nextLine (d + 2) 49 [] [(0, (2, l)), (4, (0, w32 ((i : Int) + 1))), (5, (0, w32 ((L.length : Int) - 1)))] σ1 K) := by
      intro j hj hjl
      refine X_exchange_ok hk (by omega) (by omega) (by omega) (by omega) ?_
      rw [w32_id (by omega) (by omega), w32_id (by omega) (by omega)]
      have := rev L.length (swL L i j) (i + 1) (L.length - 1) _ swL_len (by omega) (by omega) (LR_sw h (by omega) (by omega)) (fun q y z => by rw [st_ne (by omega), st_ne (by omega)]) (by unfold nxL; rw [hi, hj])
      rw [show ((L.length - 1 : Nat) : Int) = (L.length : Int) - 1 by omega, show ((i + 1 : Nat) : Int) = (i : Int) + 1 by omega] at this
      exact this
    intro k
    induction k with
    | zero =>
      intro hk2 e
      refine s_X_nextLine_25 ⟨fun z => by omega, fun _ => fin (i + 0) ?_ (by omega)⟩
      exact e
    | succ k ih =>
      intro hk2 e
      have hle := fJL_r (L := L) (i := i) (L.length - 1 - i)
      refine s_X_nextLine_25 ⟨fun _ => chkK_i hk (inb_i (by omega) (by omega) (chkK_i hk (inb_i (by omega) (by omega) ?_))), fun z => by omega⟩
      rw [g (i + (k + 1)) (by omega), g i (by omega)]
      refine ⟨fun c => ?_, fun c => ?_⟩
      · rw [w32_id (by omega) (by omega), show ((i + (k + 1) : Nat) : Int) + -1 = ((i + k : Nat) : Int) by omega]
        refine ih (by omega) ?_
        rw [fJL_T (Int.ofNat_lt.mp c)] at e
        exact e
      · refine fin (i + (k + 1)) ?_ (by omega)
        rw [fJL_F (fun z => c (Int.ofNat_lt.mpr z))] at e
        exact e
  have li : ∀ m : Nat, m ≤ L.length - 1 → fIL L m = fIL L (L.length - 1) → AW2 i_X_nextLine (d + 2) 4 [] [(0, (2, l)), (1, (0, (L.length : Int))), (2, (0, (m : Int) - 1))] s K := by
    intro m
    induction m with
    | zero =>
      intro hm e
      refine s_X_nextLine_4 ⟨fun _ => ⟨fun _ => k0 ?_, fun z => by omega⟩, fun z => by omega⟩
      unfold nxL
      rw [← e]; rfl
    | succ m ih =>
      intro hm e
      rw [show ((m + 1 : Nat) : Int) - 1 = (m : Int) by omega]
      refine s_X_nextLine_4 ⟨fun z => by omega, fun _ => chkK_i hk (inb_i (by omega) (by omega) (chkK_i hk ?_))⟩
      rw [w32_id (x := (m : Int) + 1) (by omega) (by omega), show (m : Int) + 1 = ((m + 1 : Nat) : Int) by omega, g (m + 1) (by omega), g m (by omega)]
      refine inb_i (by omega) (by omega) ⟨fun c => ?_, fun c => ⟨fun z => by omega, fun _ => ?_⟩⟩
      · rw [fIL_T (Int.ofNat_lt.mp c)] at e
        rw [w32_id (by omega) (by omega), show (m : Int) + -1 = (m : Int) - 1 by omega]
        exact ih (by omega) e
      · rw [fIL_F (fun z => c (Int.ofNat_lt.mpr z))] at e
        have := lj m e.symm (L.length - 1 - m) (by omega) rfl
        rw [show ((m + (L.length - 1 - m) : Nat) : Int) = (L.length : Int) - 1 by omega] at this
        rw [w32_id (by omega) (by omega)]
        exact this
  refine e_X_nextLine fun _ => ?_
  rw [w32_id (by omega) (by omega)]
  by_cases c : L.length = 0
  · refine s_X_nextLine_4 ⟨fun _ => ⟨fun _ => k0 ?_, fun z => by omega⟩, fun z => by omega⟩
    unfold nxL
    rw [c]; rfl
  · have := li (L.length - 1) (Nat.le_refl _) rfl
    rw [show ((L.length - 1 : Nat) : Int) - 1 = (L.length : Int) - 2 by omega] at this
    exact this
set_option maxRecDepth 20000 in
theorem M_nextOrder_ok {d : Nat} {K : Int → Mem → Prop} {s : Mem} {L : List Nat} (hn : L.length ≤ 7) (h : LR s 379 L) (k0 : nxL L = none → K 0 s) (k1 : ∀ (L' : List Nat) (s2 : Mem), nxL L = some L' → LR s2 379 L' → (∀ b j, ¬ (b = 379 ∧ 0 ≤ j ∧ j < (L.length : Int)) → s2 b j = s b j) → K 1 s2) : AM2 i_M_nextOrder (d + 1) [(2, 356), (0, (L.length : Int))] s K := by
  have g : ∀ i : Nat, i < L.length → s 379 i = ((L.getD i 0 : Nat) : Int) := fun i hi => by
    have := h i (by omega) (by omega); unfold oL at this; rw [Int.toNat_natCast] at this; exact this
  have rev : ∀ (f : Nat) (M : List Nat) (a b : Nat) (s1 : Mem), M.length = L.length → b < L.length → b - a ≤ 2 * f → LR s1 379 M → (∀ q j, ¬ (q = 379 ∧ 0 ≤ j ∧ j < (L.length : Int)) → s1 q j = s q j) → nxL L = some (rvL f M a b) → AW2 i_M_nextOrder (d + 1) 68 [] [(0, (2, 356)), (5, (0, (b : Int))), (6, (0, (a : Int)))] s1 K := by
    intro f
    induction f with
    | zero =>
      intro M a b s1 hM hb hf hR fr e
      exact s_M_nextOrder_68 ⟨fun z => by omega, fun _ => k1 _ s1 e hR fr⟩
    | succ f ih =>
      intro M a b s1 hM hb hf hR fr e
      unfold rvL at e
      refine s_M_nextOrder_68 ⟨fun z => ?_, fun z => ?_⟩
      · rw [if_pos (by omega)] at e
        rw [w32_id (x := (b : Int) + -1) (by omega) (by omega), w32_id (x := (a : Int) + 1) (by omega) (by omega)]
        have := ih (swL M a b) (a + 1) (b - 1) _ (by rw [swL_len]; exact hM) (by omega) (by omega) (LR_sw hR (by omega) (by omega)) (fun q j y => by rw [st_ne (by omega), st_ne (by omega)]; exact fr q j y) e
        rw [show ((b - 1 : Nat) : Int) = (b : Int) + -1 by omega, show ((a + 1 : Nat) : Int) = (a : Int) + 1 by omega] at this
        exact inb_i (by omega) (by omega) (inb_i (by omega) (by omega) (inb_i (by omega) (by omega) (inb_i (by omega) (by omega) this)))
      · rw [if_neg (by omega)] at e
        exact k1 _ s1 e hR fr
  have lj : ∀ (i : Nat), fIL L (L.length - 1) = some i → ∀ k : Nat, 1 ≤ k → i + k < L.length → fJL L i k = fJL L i (L.length - 1 - i) → AW2 i_M_nextOrder (d + 1) 31 [] [(0, (2, 356)), (1, (0, (L.length : Int))), (2, (0, (i : Int))), (3, (0, ((i + k : Nat) : Int)))] s K := by
    intro i hi
    have hir := fIL_r _ _ hi
    have fin : ∀ j : Nat, j = fJL L i (L.length - 1 - i) → j < L.length → AW2 i_M_nextOrder (d + 1) 68 [] [(0, (2, 356)), (5, (0, w32 ((L.length : Int) - 1))), (6, (0, w32 ((i : Int) + 1)))] (st (st s 379 i (s 379 j)) 379 j (s 379 i)) K := by
      intro j hj hjl
      rw [w32_id (by omega) (by omega), w32_id (by omega) (by omega)]
      have := rev L.length (swL L i j) (i + 1) (L.length - 1) _ swL_len (by omega) (by omega) (LR_sw h (by omega) (by omega)) (fun q y z => by rw [st_ne (by omega), st_ne (by omega)]) (by unfold nxL; rw [hi, hj])
      rw [show ((L.length - 1 : Nat) : Int) = (L.length : Int) - 1 by omega, show ((i + 1 : Nat) : Int) = (i : Int) + 1 by omega] at this
      exact this
    intro k
    induction k with
    | zero => intro h1; omega
    | succ k ih =>
      intro _ hk2 e
      refine s_M_nextOrder_31 (inb_i (by omega) (by omega) (inb_i (by omega) (by omega) ?_))
      have gj := g (i + (k + 1)) (by omega)
      have gi := g i (by omega)
      refine ⟨fun c => ?_, fun c => inb_i (by omega) (by omega) (inb_i (by omega) (by omega) (inb_i (by omega) (by omega) (inb_i (by omega) (by omega) ?_)))⟩
      · rw [gj, gi] at c
        have c := Int.ofNat_lt.mp c
        rw [fJL_T c] at e
        by_cases z : k = 0
        · subst z; exact absurd c hir.2
        · rw [w32_id (by omega) (by omega), show ((i + (k + 1) : Nat) : Int) + -1 = ((i + k : Nat) : Int) by omega]
          exact ih (by omega) (by omega) e
      · rw [gj, gi] at c
        rw [fJL_F (fun z => c (Int.ofNat_lt.mpr z))] at e
        exact fin (i + (k + 1)) e (by omega)
  have li : ∀ m : Nat, m ≤ L.length - 1 → fIL L m = fIL L (L.length - 1) → AW2 i_M_nextOrder (d + 1) 4 [] [(0, (2, 356)), (1, (0, (L.length : Int))), (2, (0, (m : Int) - 1))] s K := by
    intro m
    induction m with
    | zero =>
      intro hm e
      refine s_M_nextOrder_4 ⟨fun _ => ⟨fun _ => k0 ?_, fun z => by omega⟩, fun z => by omega⟩
      unfold nxL
      rw [← e]; rfl
    | succ m ih =>
      intro hm e
      rw [show ((m + 1 : Nat) : Int) - 1 = (m : Int) by omega]
      have m0 : ¬ (m : Int) < 0 := by omega
      refine s_M_nextOrder_4 (brF_i m0 (brF_i m0 ?_))
      refine inb_i (by omega) (by omega) ?_
      rw [w32_id (x := (m : Int) + 1) (by omega) (by omega), show (m : Int) + 1 = ((m + 1 : Nat) : Int) by omega, g (m + 1) (by omega), g m (by omega)]
      refine inb_i (by omega) (by omega) ⟨fun c => ?_, fun c => ⟨fun z => by omega, fun _ => ?_⟩⟩
      · rw [fIL_T (Int.ofNat_lt.mp c)] at e
        rw [w32_id (by omega) (by omega), show (m : Int) + -1 = (m : Int) - 1 by omega]
        exact ih (by omega) e
      · rw [fIL_F (fun z => c (Int.ofNat_lt.mpr z))] at e
        have := lj m e.symm (L.length - 1 - m) (by omega) (by omega) rfl
        rw [show ((m + (L.length - 1 - m) : Nat) : Int) = (L.length : Int) - 1 by omega] at this
        rw [w32_id (by omega) (by omega)]
        exact this
  refine e_M_nextOrder fun _ => ?_
  rw [w32_id (by omega) (by omega)]
  by_cases c : L.length = 0
  · refine s_M_nextOrder_4 ⟨fun _ => ⟨fun _ => k0 ?_, fun z => by omega⟩, fun z => by omega⟩
    unfold nxL
    rw [c]; rfl
  · have := li (L.length - 1) (Nat.le_refl _) rfl
    rw [show ((L.length - 1 : Nat) : Int) - 1 = (L.length : Int) - 2 by omega] at this
    exact this
theorem oL_range {n : Nat} {k : Int} (k0 : 0 ≤ k) (k1 : k < n) : oL (List.range n) k = k := by
  unfold oL
  rw [List.getD_eq_getElem?_getD, List.getElem?_range (by omega)]
  show ((k.toNat : Nat) : Int) = k
  omega
theorem X_firstLine_ok {d : Nat} {K : Int → Mem → Prop} {s : Mem} {l : Int} {n : Nat} (hk : sK l = 100) (hn : (n : Int) ≤ sN l) (hN : sN l ≤ 8) (k : ∀ s2 : Mem, LR s2 l (List.range n) → (∀ b j, ¬ (b = l ∧ 0 ≤ j ∧ j < (n : Int)) → s2 b j = s b j) → K 0 s2) : AM2 i_X_firstLine (d + 1) [(2, l), (0, (n : Int))] s K := by
  have go : ∀ (m : Nat) (i : Int) (s1 : Mem), 0 ≤ i → i + m = n → (∀ j, 0 ≤ j → j < i → s1 l j = j) → (∀ b j, ¬ (b = l ∧ 0 ≤ j ∧ j < (n : Int)) → s1 b j = s b j) → AW2 i_X_firstLine (d + 1) 2 [] [(0, (2, l)), (1, (0, (n : Int))), (2, (0, i))] s1 K := by
    intro m
    induction m with
    | zero =>
      intro i s1 i0 e x f
      refine s_X_firstLine_2 ⟨fun z => by omega, fun _ => k s1 (fun j j0 j1 => ?_) f⟩
      rw [List.length_range] at j1
      rw [x j j0 (by omega), oL_range j0 j1]
    | succ m ih =>
      intro i s1 i0 e x f
      refine s_X_firstLine_2 ⟨fun _ => ⟨by rw [hk]; exact ⟨by decide, by decide⟩, fun _ => chkK_i hk (inb_i i0 (by omega) ?_), fun z => by omega⟩, fun z => by omega⟩
      rw [w32_id (by omega) (by omega)]
      refine ih (i + 1) _ (by omega) (by omega) (fun j j0 j1 => ?_) (fun b j z => by rw [st_ne (by omega), f b j z])
      by_cases z : j = i
      · rw [z, st_self]
      · rw [st_ne (by omega)]; exact x j j0 (by omega)
  exact e_X_firstLine fun _ => go n 0 s (Int.le_refl 0) (by omega) (fun j a b => by omega) (fun _ _ _ => rfl)
theorem M_firstOrder_ok {d : Nat} {K : Int → Mem → Prop} {s : Mem} {n : Nat} (hn : n ≤ 7) (k : ∀ s2 : Mem, LR s2 379 (List.range n) → (∀ b j, ¬ (b = 379 ∧ 0 ≤ j ∧ j < (n : Int)) → s2 b j = s b j) → K 0 s2) : AM2 i_M_firstOrder (d + 1) [(2, 356), (0, (n : Int))] s K := by
  have go : ∀ (m : Nat) (i : Int) (s1 : Mem), 0 ≤ i → i + m = n → (∀ j, 0 ≤ j → j < i → s1 379 j = j) → (∀ b j, ¬ (b = 379 ∧ 0 ≤ j ∧ j < (n : Int)) → s1 b j = s b j) → AW2 i_M_firstOrder (d + 1) 2 [] [(0, (2, 356)), (1, (0, (n : Int))), (2, (0, i))] s1 K := by
    intro m
    induction m with
    | zero =>
      intro i s1 i0 e x f
      refine s_M_firstOrder_2 ⟨fun z => by omega, fun _ => k s1 (fun j j0 j1 => ?_) f⟩
      rw [List.length_range] at j1
      rw [x j j0 (by omega), oL_range j0 j1]
    | succ m ih =>
      intro i s1 i0 e x f
      refine s_M_firstOrder_2 ⟨fun _ => inb_i i0 (by omega) ?_, fun z => by omega⟩
      rw [w32_id (by omega) (by omega)]
      refine ih (i + 1) _ (by omega) (by omega) (fun j j0 j1 => ?_) (fun b j z => by rw [st_ne (by omega), f b j z])
      by_cases z : j = i
      · rw [z, st_self]
      · rw [st_ne (by omega)]; exact x j j0 (by omega)
  exact e_M_firstOrder fun _ => go n 0 s (Int.le_refl 0) (by omega) (fun j a b => by omega) (fun _ _ _ => rfl)
/-- a line as a number -/
def nbr (f : Int → Int) : Nat → Int → Int → Int
  | 0, _, a => a
  | m + 1, i, a => nbr f m (i + 1) (a * 10 + f i)
theorem nbr_congr {f f' : Int → Int} : ∀ (m : Nat) (i a : Int), (∀ j, i ≤ j → j < i + m → f j = f' j) → nbr f m i a = nbr f' m i a
  | 0, _, _, _ => rfl
  | m + 1, i, a, h => by
    unfold nbr
    rw [h i (Int.le_refl i) (by omega), nbr_congr m (i + 1) _ (fun j x y => h j (by omega) (by omega))]
theorem nbr_0 {f : Int → Int} : ∀ (m : Nat) (i a : Int), 0 ≤ a → (∀ j, i ≤ j → j < i + m → 0 ≤ f j) → 0 ≤ nbr f m i a
  | 0, _, _, h, _ => h
  | m + 1, i, a, h, hf => nbr_0 m (i + 1) _ (by have := hf i (Int.le_refl i) (by omega); omega) (fun j x y => hf j (by omega) (by omega))
theorem p10 {k : Nat} (h : k ≤ 8) : (10 : Nat) ^ k ≤ 100000000 := by
  have := Nat.pow_le_pow_right (show 0 < 10 by decide) h
  omega
theorem X_numberOf_ok {d : Nat} {K : Int → Mem → Prop} {s : Mem} {l n le : Int} (hk : sK l = 100) (n0 : 0 ≤ n) (hn : n ≤ sN l) (hN : sN l ≤ 8) (le0 : 0 ≤ le) (hv : ∀ i, 0 ≤ i → i < n → 0 ≤ s l i ∧ s l i + le ≤ 9) (hle : le ≤ 1) (k : K (nbr (fun i => s l i + le) n.toNat 0 0) s) : AM2 i_X_numberOf (d + 1) [(2, l), (0, n), (0, le)] s K := by
  have go : ∀ (m q : Nat) (a : Int), (q : Int) + m = n → 0 ≤ a → a < ((10 ^ q : Nat) : Int) → K (nbr (fun i => s l i + le) m q a) s → AW2 i_X_numberOf (d + 1) 4 [] [(0, (2, l)), (1, (0, n)), (2, (0, le)), (3, (0, a)), (4, (0, (q : Int)))] s K := by
    intro m
    induction m with
    | zero => intro q a e a0 a1 k; exact s_X_numberOf_4 ⟨fun z => by omega, fun _ => k⟩
    | succ m ih =>
      intro q a e a0 a1 k
      have hq := hv q (by omega) (by omega)
      have h10 := p10 (k := q + 1) (by omega)
      rw [Nat.pow_succ] at h10
      refine s_X_numberOf_4 ⟨fun _ => ⟨by rw [hk]; exact ⟨by decide, by decide⟩, fun _ => chkK_i hk (inb_i (by omega) (by omega) ?_), fun z => by omega⟩, fun z => by omega⟩
      rw [w32_id (x := a * 10) (by omega) (by omega), w32_id (x := a * 10 + s l q) (by omega) (by omega), w32_id (x := a * 10 + s l q + le) (by omega) (by omega), w32_id (x := (q : Int) + 1) (by omega) (by omega)]
      have := ih (q + 1) (a * 10 + s l q + le) (by omega) (by omega) (by rw [Nat.pow_succ]; omega) (by
        have k : K (nbr (fun i => s l i + le) m (q + 1) (a * 10 + (s l q + le))) s := k
        rw [show a * 10 + s l q + le = a * 10 + (s l q + le) by omega]
        exact k)
      exact this
  exact e_X_numberOf fun _ _ => go n.toNat 0 0 (by omega) (Int.le_refl 0) (by decide) k
theorem M_asDigits_ok {d : Nat} {K : Int → Mem → Prop} {s : Mem} {g n : Int} (g0 : 0 ≤ g) (g5 : g ≤ 5) (e7 : s 357 g = n) (n0 : 0 ≤ n) (hn : n ≤ 7) (hv : ∀ i, 0 ≤ i → i < n → 0 ≤ s 379 i ∧ s 379 i ≤ 9) (k : K (nbr (fun i => s 379 i + 0) n.toNat 0 0) s) : AM2 i_M_asDigits (d + 1) [(2, 356), (0, g)] s K := by
  have go : ∀ (m q : Nat) (a : Int), (q : Int) + m = n → 0 ≤ a → a < ((10 ^ q : Nat) : Int) → K (nbr (fun i => s 379 i + 0) m q a) s → AW2 i_M_asDigits (d + 1) 4 [] [(0, (2, 356)), (1, (0, g)), (2, (0, a)), (3, (0, (q : Int)))] s K := by
    intro m
    induction m with
    | zero => intro q a e a0 a1 k; exact s_M_asDigits_4 (inb_i g0 (by omega) ⟨fun z => by omega, fun _ => k⟩)
    | succ m ih =>
      intro q a e a0 a1 k
      have hq := hv q (by omega) (by omega)
      have h10 := p10 (k := q + 1) (by omega)
      rw [Nat.pow_succ] at h10
      refine s_M_asDigits_4 (inb_i g0 (by omega) ⟨fun _ => inb_i (by omega) (by omega) ?_, fun z => by omega⟩)
      rw [w32_id (x := 10 * a) (by omega) (by omega), w32_id (x := 10 * a + s 379 q) (by omega) (by omega), w32_id (x := (q : Int) + 1) (by omega) (by omega)]
      have := ih (q + 1) (10 * a + s 379 q) (by omega) (by omega) (by rw [Nat.pow_succ]; omega) (by
        have k : K (nbr (fun i => s 379 i + 0) m (q + 1) (a * 10 + (s 379 q + 0))) s := k
        rw [show 10 * a + s 379 q = a * 10 + (s 379 q + 0) by omega]
        exact k)
      exact this
  exact e_M_asDigits fun _ => go n.toNat 0 0 (by omega) (Int.le_refl 0) (by decide) k
