/-! ===== the constructors run by a program of our own ===== -/
abbrev LG : Type := List (Nat × Nat × Int)
abbrev CS : Type := Nat × LG × LG
def lgM (z : Mem) : LG → Mem
  | [] => z
  | (k, j, v) :: L => st (lgM z L) k j v
def lgF : LG → Nat → Nat → Int → Int
  | [], _, _, d => d
  | (a, b, v) :: L, k, j, d => cond (Nat.beq a k && Nat.beq b j) v (lgF L k j d)
theorem lg_at (z : Mem) : ∀ (L : LG) (k j : Nat), lgM z L k j = lgF L k j (z k j)
  | [], _, _ => rfl
  | (a, b, v) :: L, k, j => by
    show st (lgM z L) a b v k j = cond (Nat.beq a k && Nat.beq b j) v (lgF L k j (z k j))
    rw [← lg_at z L k j, st_at]
    cases q1 : Nat.beq a k with
    | false =>
      have := Nat.ne_of_beq_eq_false q1
      rw [if_neg (by omega)]; rfl
    | true =>
      have e1 := Nat.eq_of_beq_eq_true q1
      cases q2 : Nat.beq b j with
      | false =>
        have := Nat.ne_of_beq_eq_false q2
        rw [if_neg (by omega)]; rfl
      | true =>
        have e2 := Nat.eq_of_beq_eq_true q2
        rw [if_pos (by omega)]; rfl
theorem lg_out {z : Mem} {n k : Nat} {j : Int} (hk : n ≤ k) : ∀ (L : LG), (∀ q ∈ L, q.1 < n) → lgM z L k j = z k j
  | [], _ => rfl
  | (a, b, v) :: L, h => by
    have h1 := h _ List.mem_cons_self
    dsimp only at h1
    show st (lgM z L) a b v k j = _
    rw [st_ne (by omega)]
    exact lg_out hk L fun q hq => h q (List.mem_cons_of_mem _ hq)
def pm1 : Mem := fun _ _ => -1
def XC (z : Mem) (C : CS) : HS := (lgM pm1 C.2.1, C.1, lgM z C.2.2)
def goodC (C : CS) : Prop := C.1 ≤ NC ∧ (∀ q ∈ C.2.1, q.1 < C.1) ∧ ∀ q ∈ C.2.2, q.1 < C.1
def hz0 (z : Mem) : Prop := ∀ k j : Nat, z k j = if (shp k).1 < 100 ∧ fk (shp k).1 j = 3 then -1 else 0
theorem fz_of {z : Mem} {C : CS} (hz : hz0 z) (h : goodC C) {k : Nat} (hk : C.1 ≤ k) : fz (XC z C).1 (XC z C).2.2 k :=
  ⟨fun j => by show lgM pm1 C.2.1 k j = -1; rw [lg_out hk _ h.2.1]; rfl, fun j => by show lgM z C.2.2 k j = _; rw [lg_out hk _ h.2.2]; exact hz k j⟩
def SS : Nat → Nat
  | 0 => 0
  | n + 1 => SS n + (shp n).2
theorem SS_mono {a b : Nat} (h : a ≤ b) : SS a ≤ SS b := by
  induction b with
  | zero => rw [Nat.le_zero.mp h]; exact Nat.le_refl _
  | succ b ih =>
    rcases Nat.lt_or_ge b a with q | q
    · rw [show a = b + 1 by omega]; exact Nat.le_refl _
    · exact Nat.le_trans (ih q) (Nat.le_add_right _ _)
theorem SS_rows {n L : Nat} : ∀ N, (∀ i, i < N → shp (n + i) = (100, L)) → SS (n + N) = SS n + N * L
  | 0, _ => by simp
  | N + 1, h => by
    show SS (n + N) + (shp (n + N)).2 = _
    rw [SS_rows N (fun i hi => h i (by omega)), h N (by omega), Nat.succ_mul]
    show SS n + N * L + L = _
    omega
noncomputable def cst (M : MI) (ai : AI) (pos : Nat) (stk : List AV) (loc : Lo) (C : CS) : Option (Nat × List AV × Lo × CS) := match ai with
  | (op, pc, a, b, c, v, tl) =>
    cond (Nat.beq op 2) (match lkp loc a with | (t, x) => cond (Nat.beq t b) (some (pos + 1, (b, x) :: stk, loc, C)) none) <|
    cond (Nat.beq op 0) (some (pos + 1, (0, v) :: stk, loc, C)) <|
    cond (Nat.beq op 1) (some (pos + 1, (1, v) :: stk, loc, C)) <|
    cond (Nat.beq op 3) (match stk with | (t, x) :: s => cond (Nat.beq t b) (some (pos + 1, s, put loc a (b, x), C)) none | [] => none) <|
    cond (Nat.beq op 4) (match lkp loc a with | (t, x) => cond (Nat.beq t 0) (some (pos + 1, stk, put loc a (0, w32 (x + v)), C)) none) <|
    cond (Nat.beq op 16) (match stk with | (t1, y) :: (t2, x) :: s => cond (Nat.beq t1 0 && Nat.beq t2 0 && Nat.beq c 3) (cond (decide (y ≤ x)) (some (a, s, loc, C)) (some (pos + 1, s, loc, C))) none | _ => none) <|
    cond (Nat.beq op 19) (some (a, stk, loc, C)) <|
    cond (Nat.beq op 28) (match stk with | (t, x) :: s => cond (Nat.beq t 1) none (some (pos + 1, (t, x) :: (t, x) :: s, loc, C)) | [] => none) <|
    cond (Nat.beq op 41) (match stk with | (t, r) :: s => cond (Nat.beq t 2 && decide (0 ≤ r) && Nat.ble (szS s) 8) (some (pos + 1, s, loc, C)) none | [] => none) <|
    cond (Nat.beq op 22) (match stk with | (t, r) :: s => cond (Nat.beq t 2 && Nat.beq (sK r) a && Nat.blt a 100 && Nat.beq (fk a b) 2 && decide (0 ≤ r) && Nat.blt r.toNat C.1) (some (pos + 1, (2, lgF C.2.1 r.toNat b (-1)) :: s, loc, C)) none | [] => none) <|
    cond (Nat.beq op 23) (match stk with
      | (t, w) :: (t2, r) :: s => cond (Nat.beq t2 2 && Nat.beq t (pft a b) && Nat.beq (sK r) a && Nat.blt a 100 && decide (0 ≤ r) && Nat.blt r.toNat C.1 && !(Nat.beq (fk a b) 4)) (cond (Nat.beq (fk a b) 2) (some (pos + 1, s, loc, (C.1, (r.toNat, b, w) :: C.2.1, C.2.2))) (some (pos + 1, s, loc, (C.1, C.2.1, (r.toNat, b, w) :: C.2.2)))) none
      | _ => none) <|
    cond (Nat.beq op 26) (match stk with
      | (t, w) :: (t2, i) :: (t3, r) :: s => cond (Nat.beq t2 0 && Nat.beq t3 2 && Nat.beq (sK r) a && decide (0 ≤ r) && Nat.blt r.toNat C.1 && decide (0 ≤ i) && decide (i < sN r)) (cond (Nat.beq a 100 && Nat.beq t 0) (some (pos + 1, s, loc, (C.1, C.2.1, (r.toNat, i.toNat, w) :: C.2.2))) (cond (Nat.beq t 2 && Nat.ble 103 a && Nat.blt a 106 && Nat.beq (sK w) (ciA a) && decide (0 ≤ w) && Nat.blt w.toNat C.1) (some (pos + 1, s, loc, (C.1, (r.toNat, i.toNat, w) :: C.2.1, C.2.2))) none)) none
      | _ => none) <|
    cond (Nat.beq op 37) (cond (Nat.blt a 13 && Nat.beq (shp C.1).1 a && Nat.blt C.1 NC) (some (pos + 1, (2, (C.1 : Int)) :: stk, loc, (C.1 + 1, C.2))) none) <|
    cond (Nat.beq op 38) (match stk with | (t, N) :: s => cond (Nat.beq t 0 && Nat.ble 100 a && Nat.blt a 103 && Nat.beq (shp C.1).1 a && Nat.blt C.1 NC && decide (N = ((shp C.1).2 : Int))) (some (pos + 1, (2, (C.1 : Int)) :: s, loc, (C.1 + 1, C.2))) none | [] => none) <|
    cond (Nat.beq op 39) (match stk with | (t, N) :: s => cond (Nat.beq t 0 && Nat.ble 103 a && Nat.blt a 106 && Nat.beq (shp C.1).1 a && Nat.blt C.1 NC && decide (N = ((shp C.1).2 : Int))) (some (pos + 1, (2, (C.1 : Int)) :: s, loc, (C.1 + 1, C.2))) none | [] => none) <|
    cond (Nat.beq op 40) (match stk with
      | (t, L) :: (t2, N) :: s => cond (Nat.beq t 0 && Nat.beq t2 0 && Nat.beq (shp C.1).1 106 && decide (N = ((shp C.1).2 : Int)) && decide (0 ≤ L) && decide (L ≤ 1000) && Nat.blt (C.1 + (shp C.1).2) NC && (List.range (shp C.1).2).all (fun i => Nat.beq (shp (C.1 + 1 + i)).1 100 && Nat.beq (shp (C.1 + 1 + i)).2 L.toNat)) (some (pos + 1, (2, (C.1 : Int)) :: s, loc, (C.1 + 1 + (shp C.1).2, (List.range (shp C.1).2).map (fun i => (C.1, i, ((C.1 + 1 + i : Nat) : Int))) ++ C.2.1, C.2.2))) none
      | _ => none) none
def isIni (a : Nat) : Bool := [0, 5, 11, 17, 32, 38, 46, 55, 63, 68, 77].any fun k => Nat.beq k a
noncomputable def run : Nat → Nat → MI → List AI → Nat → List AV → Lo → CS → Option CS
  | 0, _, _, _, _, _, _, _ => none
  | _ + 1, _, _, [], _, _, _, _ => none
  | n + 1, d, M, ai :: rs, pos, stk, loc, C =>
    cond (Nat.beq ai.1 34) (match stk with | [] => some C | _ => none) <|
    cond (Nat.beq ai.1 33) (match d, stk with
      | d' + 1, (t, r) :: s => cond (Nat.beq t 2 && decide (0 ≤ r) && isIni ai.2.2.1 && decide (ai.2.2.2.2.2.1 = 0) && Nat.ble (szS s) 8) (match run n d' (callee ai.2.2.1) (mT (callee ai.2.2.1)) 0 [] [(0, (2, r))] C with
          | some C1 => run n (d' + 1) M rs (pos + 1) s loc C1
          | none => none) none
      | _, _ => none) <|
    match cst M ai pos stk loc C with
      | some (pos', stk', loc', C') => run n d M (cond (Nat.beq pos' (pos + 1)) rs ((mT M).drop pos')) pos' stk' loc' C'
      | none => none
