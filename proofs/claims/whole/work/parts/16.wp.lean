-- ===== the machine behind its making: fixed references, all cells there
def X2 (σ : Mem) : HS := (ptr, NC, σ)
def K2 (K : Int → Mem → Prop) : Int → HS → Prop := fun v X => ∃ σ, X = X2 σ ∧ K v σ
def AW2 (M : MI) (d pos : Nat) (stk : List AV) (loc : Lo) (σ : Mem) (K : Int → Mem → Prop) : Prop := AW M d 0 0 pos stk loc (X2 σ) 0 0 (K2 K)
def AM2 (M : MI) (d : Nat) (as : List AV) (σ : Mem) (K : Int → Mem → Prop) : Prop := AM M d 0 0 as (X2 σ) (K2 K)
def chkK (a : Int) (k : Nat) (P : Prop) : Prop := cond (Nat.beq (sK a) k) P (sK a = k ∧ P)
def inb (i n : Int) (P : Prop) : Prop := cond (decide (0 ≤ i) && decide (i < n)) P ((0 ≤ i ∧ i < n) ∧ P)
def boolP (v : Int) (P : Prop) : Prop := cond (decide (v = 0) || decide (v = 1)) P ((v = 0 ∨ v = 1) ∧ P)
def nzP (v : Int) (P : Prop) : Prop := cond (decide (v = 0)) ((¬ v = 0) ∧ P) P
def cpP (s0 d0 n l0 l1 : Int) (P : Prop) : Prop := (0 ≤ s0 ∧ 0 ≤ d0 ∧ 0 ≤ n ∧ s0 + n ≤ l0 ∧ d0 + n ≤ l1) ∧ P
theorem chkK_e {a : Int} {k : Nat} {P : Prop} (h : chkK a k P) : sK a = k ∧ P := by
  unfold chkK at h
  cases q : Nat.beq (sK a) k with
  | true => rw [q] at h; exact ⟨Nat.eq_of_beq_eq_true q, h⟩
  | false => rw [q] at h; exact h
theorem chkK_i {a : Int} {k : Nat} {P : Prop} (h : sK a = k) (p : P) : chkK a k P := by
  unfold chkK
  cases q : Nat.beq (sK a) k
  · exact ⟨h, p⟩
  · exact p
theorem inb_e {i n : Int} {P : Prop} (h : inb i n P) : (0 ≤ i ∧ i < n) ∧ P := by
  unfold inb at h
  cases q : (decide (0 ≤ i) && decide (i < n)) with
  | true =>
    rw [q] at h
    simp only [Bool.and_eq_true, decide_eq_true_eq] at q
    exact ⟨q, h⟩
  | false => rw [q] at h; exact h
theorem inb_i {i n : Int} {P : Prop} (h0 : 0 ≤ i) (h1 : i < n) (p : P) : inb i n P := by
  unfold inb
  cases q : (decide (0 ≤ i) && decide (i < n))
  · exact ⟨⟨h0, h1⟩, p⟩
  · exact p
theorem boolP_e {v : Int} {P : Prop} (h : boolP v P) : (v = 0 ∨ v = 1) ∧ P := by
  unfold boolP at h
  cases q : (decide (v = 0) || decide (v = 1)) with
  | true =>
    rw [q] at h
    simp only [Bool.or_eq_true, decide_eq_true_eq] at q
    exact ⟨q, h⟩
  | false => rw [q] at h; exact h
theorem boolP_i {v : Int} {P : Prop} (h : v = 0 ∨ v = 1) (p : P) : boolP v P := by
  unfold boolP
  cases q : (decide (v = 0) || decide (v = 1))
  · exact ⟨h, p⟩
  · exact p
theorem nzP_e {v : Int} {P : Prop} (h : nzP v P) : (¬ v = 0) ∧ P := by
  unfold nzP at h
  cases q : decide (v = 0) with
  | true => rw [q] at h; exact h
  | false => rw [q] at h; exact ⟨of_decide_eq_false q, h⟩
theorem nzP_i {v : Int} {P : Prop} (h : ¬ v = 0) (p : P) : nzP v P := by
  unfold nzP
  cases q : decide (v = 0)
  · exact p
  · exact ⟨h, p⟩
/-- the listed locals, in their order -/
def lk1 : Lo → Nat → List (Nat × AV)
  | [], _ => []
  | (j, t, x) :: r, i => cond (Nat.beq i j) [(j, t, x)] (lk1 r i)
def pick (l : Lo) : List Nat → Lo
  | [] => []
  | i :: is => lk1 l i ++ pick l is
def tsw (x v : Int) (go : Nat → Prop) (dflt : Nat) : List Nat → Prop
  | [] => go dflt
  | t :: r => (x = v → go t) ∧ (¬ x = v → tsw x (v + 1) go dflt r)
def lswP (x : Int) (go : Nat → Prop) (dflt : Nat) : List Nat → Prop
  | k :: t :: r => (x = (k : Int) → go t) ∧ (¬ x = (k : Int) → lswP x go dflt r)
  | _ => go dflt
/-- a list of locals laid out before it is handed on -/
def delK (i : Nat) (w2 : Bool) : Lo → (Lo → Prop) → Prop
  | [], k => k []
  | (j, t, x) :: r, k => cond (Nat.beq j i) (delK i w2 r k) (cond (w2 && Nat.beq j (i + 1)) (delK i w2 r k) (cond (Nat.beq (j + 1) i && Nat.beq t 1) (delK i w2 r k) (delK i w2 r fun l => k ((j, t, x) :: l))))
theorem beq_dec (a b : Nat) : Nat.beq a b = (a == b) := by
  cases q : Nat.beq a b with
  | true => rw [Nat.eq_of_beq_eq_true q]; simp
  | false => have := Nat.ne_of_beq_eq_false q; simp [this]
theorem delK_e {i : Nat} : ∀ (l : Lo) (k : Lo → Prop), delK i false l k → k (l.filter (isC i))
  | [], _, h => h
  | (j, t, x) :: r, k, h => by
    unfold delK at h
    simp only [beq_dec, Bool.false_and, cond_false] at h
    rw [List.filter_cons, show isC i (j, t, x) = (!(j == i) && !(j + 1 == i && t == 1)) from rfl]
    cases q1 : (j == i) with
    | true => rw [q1] at h; exact delK_e r k h
    | false =>
      rw [q1] at h
      simp only [cond_false] at h
      cases q2 : (j + 1 == i && t == 1) with
      | true => rw [q2] at h; exact delK_e r k h
      | false => rw [q2] at h; exact delK_e r _ h
theorem delK_e2 {i : Nat} : ∀ (l : Lo) (k : Lo → Prop), delK i true l k → k (l.filter (isC2 i))
  | [], _, h => h
  | (j, t, x) :: r, k, h => by
    unfold delK at h
    simp only [beq_dec, Bool.true_and] at h
    rw [List.filter_cons, show isC2 i (j, t, x) = (!(j == i) && (!(j == i + 1) && !(j + 1 == i && t == 1))) from rfl]
    cases q1 : (j == i) with
    | true => rw [q1] at h; exact delK_e2 r k h
    | false =>
      rw [q1] at h
      simp only [cond_false] at h
      cases q3 : (j == i + 1) with
      | true => rw [q3] at h; exact delK_e2 r k h
      | false =>
        rw [q3] at h
        simp only [cond_false] at h
        cases q2 : (j + 1 == i && t == 1) with
        | true => rw [q2] at h; exact delK_e2 r k h
        | false => rw [q2] at h; exact delK_e2 r _ h
/-- a value put at a place, the locals laid out -/
def putC (l : Lo) (i b : Nat) (x : Int) (k : Lo → Prop) : Prop := delK i (Nat.beq b 1) l fun l => k ((i, b, x) :: l)
theorem putC_e {l : Lo} {i b : Nat} {x : Int} {k : Lo → Prop} (h : putC l i b x k) : k (put l i (b, x)) := by
  unfold putC at h
  unfold put
  by_cases q : b = 1
  · subst q
    exact delK_e2 l _ h
  · have e : Nat.beq b 1 = false := by
      cases z : Nat.beq b 1 with
      | false => rfl
      | true => exact absurd (Nat.eq_of_beq_eq_true z) q
    rw [e] at h
    dsimp only
    rw [if_neg q]
    exact delK_e l _ h
def cutAt : List (Nat × List Nat) → Nat → Option (List Nat)
  | [], _ => none
  | (j, is) :: r, i => cond (Nat.beq i j) (some is) (cutAt r i)
def forceL : Lo → (Lo → Prop) → Prop
  | [], k => k []
  | (i, t, x) :: r, k => forceL r (fun l => k ((i, t, x) :: l))
def pushC (M : MI) (w : Int) (s : List AV) (k : List AV → Prop) : Prop := match mR M with
  | none => k s
  | some .int => k ((0, w) :: s)
  | some .boolean => k ((0, w) :: s)
  | some .long => k ((1, w) :: s)
  | some _ => k ((2, w) :: s)
theorem forceL_e : ∀ (l : Lo) (k : Lo → Prop), forceL l k → k l
  | [], _, h => h
  | (_, _, _) :: r, _, h => forceL_e r _ h
theorem pushC_e {M : MI} {w : Int} {s : List AV} {k : List AV → Prop} (h : pushC M w s k) : k (pushR M w s) := by
  unfold pushC at h
  unfold pushR
  split <;> simp_all
/-- one row; go: what must hold at the place behind it -/
noncomputable def stepP (M : MI) (d : Nat) (K : Int → Mem → Prop) (go : List AI → Nat → List AV → Lo → Mem → Prop) (ai : AI) (rest : List AI) (pos : Nat) (stk : List AV) (loc : Lo) (σ : Mem) : Prop := match ai with
  | (op, pc, a, b, c, v, tl) =>
    let nx : List AV → Lo → Mem → Prop := fun stk loc σ => go rest (pos + 1) stk loc σ
    let jp : List AV → Nat → Prop := fun stk t => go ((mT M).drop t) t stk loc σ
    cond (Nat.beq op 2) (match lkp loc a with
      | (t, x) => cond (Nat.beq t b) (nx ((b, x) :: stk) loc σ) False) <|
    cond (Nat.beq op 0) (nx ((0, v) :: stk) loc σ) <|
    cond (Nat.beq op 22) (match stk with
      | (2, r) :: s => chkK r a (cond (Nat.blt a 100) (cond (Nat.beq (fk a b) 1) (nx ((1, σ r b) :: s) loc σ) (cond (Nat.beq (fk a b) 2) (nx ((2, ptr r b) :: s) loc σ) (cond (Nat.beq (fk a b) 3) (nx ((2, σ r b) :: s) loc σ) (nx ((0, σ r b) :: s) loc σ)))) False)
      | _ => False) <|
    cond (Nat.beq op 25) (match stk with
      | (0, i) :: (2, r) :: s => chkK r a (inb i (aln (X2 σ) a r) (cond (Nat.ble 100 a) (cond (Nat.beq a 101) (nx ((1, σ r i) :: s) loc σ) (cond (Nat.ble 103 a && Nat.blt a 900) (nx ((2, ptr r i) :: s) loc σ) (nx ((0, σ r i) :: s) loc σ))) False))
      | _ => False) <|
    cond (Nat.beq op 5) (match stk with
      | (0, y) :: (0, x) :: s =>
        cond (Nat.beq c 0) (nx ((0, w32 (x + y)) :: s) loc σ) <| cond (Nat.beq c 1) (nx ((0, w32 (x - y)) :: s) loc σ) <| cond (Nat.beq c 2) (nx ((0, w32 (x * y)) :: s) loc σ) <| cond (Nat.beq c 3) (nx ((0, andI x y) :: s) loc σ) <| cond (Nat.beq c 4) (nx ((0, orI x y) :: s) loc σ) <| cond (Nat.beq c 5) (nx ((0, xorI x y) :: s) loc σ) <| cond (Nat.beq c 6) (nx ((0, shlI x y) :: s) loc σ) <| cond (Nat.beq c 7) (nx ((0, shrI x y) :: s) loc σ) (nx ((0, ushI x y) :: s) loc σ)
      | _ => False) <|
    cond (Nat.beq op 3) (match stk with
      | (t, x) :: s => cond (Nat.beq t b) (putC loc a b x fun l => nx s l σ) False
      | _ => False) <|
    cond (Nat.beq op 15) (match stk with
      | (0, x) :: s => brc c x 0 (jp s a) (nx s loc σ)
      | _ => False) <|
    cond (Nat.beq op 16) (match stk with
      | (0, y) :: (0, x) :: s => brc c x y (jp s a) (nx s loc σ)
      | _ => False) <|
    cond (Nat.beq op 34) (match mR M, stk with
      | none, [] => K 0 σ
      | some .int, [(0, w)] => K w σ
      | some .boolean, [(0, w)] => boolP w (K w σ)
      | some .long, [(1, w)] => K w σ
      | some (.object _), [(2, w)] => K w σ
      | _, _ => False) <|
    cond (Nat.beq op 19) (jp stk a) <|
    cond (Nat.beq op 4) (match lkp loc a with
      | (t, x) => cond (Nat.beq t 0) (putC loc a 0 (w32 (x + v)) fun l => nx stk l σ) False) <|
    cond (Nat.beq op 31) (cond (Nat.blt b 13 && Nat.blt a 250) (match stk.drop v.toNat with
      | (2, r) :: s => cond (Nat.ble (szS s) 8) (cond (Nat.beq (stk.take v.toNat).length v.toNat) (chkK r b (AM2 (callee a) d ((2, r) :: (stk.take v.toNat).reverse) σ (fun w σ' => pushC (callee a) w s fun s' => nx s' loc σ'))) False) False
      | _ => False) False) <|
    cond (Nat.beq op 32) (cond (Nat.ble (szS (stk.drop v.toNat)) 8 && Nat.blt a 250) (cond (Nat.beq (stk.take v.toNat).length v.toNat) (AM2 (callee a) d (stk.take v.toNat).reverse σ (fun w σ' => pushC (callee a) w (stk.drop v.toNat) fun s' => nx s' loc σ')) False) False) <|
    cond (Nat.beq op 26) (match stk with
      | (0, w) :: (0, i) :: (2, r) :: s => cond (Nat.beq a 100) (chkK r 100 (inb i (sN r) (nx s loc (st σ r i w)))) (cond (Nat.beq a 102) (chkK r 102 (inb i (sN r) (boolP w (nx s loc (st σ r i w))))) False)
      | (1, w) :: (0, i) :: (2, r) :: s => cond (Nat.beq a 101) (chkK r 101 (inb i (sN r) (nx s loc (st σ r i w)))) False
      | _ => False) <|
    cond (Nat.beq op 23) (match stk with
      | w :: (2, r) :: s => cond (Nat.beq w.1 (pft a b)) (cond (Nat.blt a 100) (chkK r a (cond (Nat.beq (fk a b) 2) False (cond (Nat.beq (fk a b) 4) (boolP w.2 (nx s loc (st σ r b w.2))) (nx s loc (st σ r b w.2))))) False) False
      | _ => False) <|
    cond (Nat.beq op 1) (nx ((1, v) :: stk) loc σ) <|
    cond (Nat.beq op 6) (match stk with
      | (0, y) :: (0, x) :: s => nzP y (cond (Nat.beq c 0) (nx ((0, divI x y) :: s) loc σ) (nx ((0, remI x y) :: s) loc σ))
      | _ => False) <|
    cond (Nat.beq op 7) (match stk with
      | (1, y) :: (1, x) :: s => cond (Nat.beq c 0) (nx ((1, w64 (x + y)) :: s) loc σ) <| cond (Nat.beq c 1) (nx ((1, w64 (x - y)) :: s) loc σ) <| cond (Nat.beq c 2) (nx ((1, w64 (x * y)) :: s) loc σ) <| cond (Nat.beq c 3) (nx ((1, andL x y) :: s) loc σ) (nx ((1, orL x y) :: s) loc σ)
      | _ => False) <|
    cond (Nat.beq op 8) (match stk with
      | (1, y) :: (1, x) :: s => nzP y (cond (Nat.beq c 0) (nx ((1, divL x y) :: s) loc σ) (nx ((1, remL x y) :: s) loc σ))
      | _ => False) <|
    cond (Nat.beq op 10) (match stk with
      | (0, x) :: s => cond (Nat.beq c 0) (nx ((0, w32 (-x)) :: s) loc σ) <| cond (Nat.beq c 1) (nx ((0, i2bI x) :: s) loc σ) (nx ((0, i2sI x) :: s) loc σ)
      | _ => False) <|
    cond (Nat.beq op 11) (match stk with
      | (0, x) :: s => nx ((1, x) :: s) loc σ
      | _ => False) <|
    cond (Nat.beq op 12) (match stk with
      | (1, x) :: s => nx ((0, l2iI x) :: s) loc σ
      | _ => False) <|
    cond (Nat.beq op 13) (match stk with
      | (1, x) :: s => nx ((1, w64 (-x)) :: s) loc σ
      | _ => False) <|
    cond (Nat.beq op 14) (match stk with
      | (1, y) :: (1, x) :: s => brc c x y (jp s a) (jp s (pos + 2))
      | _ => False) <|
    cond (Nat.beq op 17) (match stk with
      | (2, x) :: s => brc 0 x (-1) (jp s a) (nx s loc σ)
      | _ => False) <|
    cond (Nat.beq op 18) (match stk with
      | (2, y) :: (2, x) :: s => (-1 ≤ x ∧ -1 ≤ y) ∧ brc 1 x y (jp s a) (nx s loc σ)
      | _ => False) <|
    cond (Nat.beq op 20) (match stk with
      | (0, x) :: s => tsw x v (jp s) a tl
      | _ => False) <|
    cond (Nat.beq op 21) (match stk with
      | (0, x) :: s => cond (Nat.beq (tl.length % 2) 0) (lswP x (jp s) a tl) False
      | _ => False) <|
    cond (Nat.beq op 24) (nx ((2, -1 - (a : Int)) :: stk) loc σ) <|
    cond (Nat.beq op 27) (match stk with
      | (2, r) :: s => cond (Nat.beq a 903) (r = -4 ∧ nx ((0, aln (X2 σ) a r) :: s) loc σ) ((100 ≤ sK r ∧ sK r < 900) ∧ nx ((0, aln (X2 σ) a r) :: s) loc σ)
      | _ => False) <|
    cond (Nat.beq op 28) (match stk with
      | w :: s => cond (Nat.beq w.1 1) False (nx (w :: w :: s) loc σ)
      | _ => False) <|
    cond (Nat.beq op 29) (match stk with
      | w :: u :: s => cond (Nat.beq w.1 1) False (cond (Nat.beq u.1 1) False (nx (w :: u :: w :: u :: s) loc σ))
      | _ => False) <|
    cond (Nat.beq op 30) (match stk with
      | w :: s => cond (Nat.beq w.1 1) False (nx s loc σ)
      | _ => False) <|
    cond (Nat.beq op 35) (match stk with
      | (0, n) :: (0, d0) :: (2, r1) :: (0, s0) :: (2, r0) :: s => cond (Nat.ble (szS s) 8) (cond (Nat.beq a 100 || Nat.beq a 101) (chkK r0 a (chkK r1 a (cpP s0 d0 n (sN r0) (sN r1) (nx s loc (cpy σ r0 s0 r1 d0 n))))) False) False
      | _ => False) <|
    cond (Nat.beq op 42) (match stk with
      | (0, y) :: (0, x) :: s => cond (Nat.blt b 2 && Nat.ble (szS s) 8) (cond (Nat.beq b 0) (nx ((0, maxI x y) :: s) loc σ) (nx ((0, minI x y) :: s) loc σ)) False
      | (1, y) :: (1, x) :: s => cond (Nat.ble (szS s) 8) (cond (Nat.beq b 2) (nx ((1, maxL x y) :: s) loc σ) (cond (Nat.beq b 3) (nx ((1, minI x y) :: s) loc σ) (cond (Nat.beq b 4 && Nat.ble (szS s + 2) 8) (nx ((1, absL y) :: (1, x) :: s) loc σ) False))) False
      | (1, x) :: s => cond (Nat.beq b 4 && Nat.ble (szS s) 8) (nx ((1, absL x) :: s) loc σ) False
      | _ => False) <|
    cond (Nat.beq op 36) (nx ((2, -1) :: stk) loc σ) False
/-- what must hold at a place so that K holds at the end; it stops at the cuts -/
noncomputable def wp (M : MI) (cuts : List (Nat × List Nat)) (d : Nat) (K : Int → Mem → Prop) : Nat → List AI → Nat → List AV → Lo → Mem → Prop
  | 0, _, _, _, _, _ => False
  | _ + 1, [], _, _, _, _ => False
  | n + 1, ai :: rest, pos, stk, loc, σ => stepP M d K (fun r q stk loc σ => match r with
      | [] => False
      | ai' :: r' => match cutAt cuts ai'.2.1 with
        | some is => AW2 M (d + 1) q stk (pick loc is) σ K
        | none => wp M cuts d K n (ai' :: r') q stk loc σ) ai rest pos stk loc σ
