/-! ===== the constructors run by a program of our own ===== -/
abbrev LG : Type := List (Nat × Nat × Int)
abbrev CS : Type := Nat × LG × LG
def lgM (z : Mem) : LG → Mem
  | [] => z
  | (k, j, v) :: L => st (lgM z L) k j v
def lgF : LG → Nat → Nat → Int → Int
  | [], _, _, d => d
  | (a, b, v) :: L, k, j, d => cond (Nat.beq a k && Nat.beq b j) v (lgF L k j d)
theorem lg_at (z : Mem) : ∀ (L : LG) (k j : Nat), lgM z L k j = lgF L k j (z k j)
  | [], _, _ => rfl
  | (a, b, v) :: L, k, j => by
    show st (lgM z L) a b v k j = cond (Nat.beq a k && Nat.beq b j) v (lgF L k j (z k j))
    rw [← lg_at z L k j, st_at]
    cases q1 : Nat.beq a k with
    | false =>
      have := Nat.ne_of_beq_eq_false q1
      rw [if_neg (by omega)]; rfl
    | true =>
      have e1 := Nat.eq_of_beq_eq_true q1
      cases q2 : Nat.beq b j with
      | false =>
        have := Nat.ne_of_beq_eq_false q2
        rw [if_neg (by omega)]; rfl
      | true =>
        have e2 := Nat.eq_of_beq_eq_true q2
        rw [if_pos (by omega)]; rfl
theorem lg_out {z : Mem} {n k : Nat} {j : Int} (hk : n ≤ k) : ∀ (L : LG), (∀ q ∈ L, q.1 < n) → lgM z L k j = z k j
  | [], _ => rfl
  | (a, b, v) :: L, h => by
    have h1 := h _ List.mem_cons_self
    dsimp only at h1
    show st (lgM z L) a b v k j = _
    rw [st_ne (by omega)]
    exact lg_out hk L fun q hq => h q (List.mem_cons_of_mem _ hq)
def pm1 : Mem := fun _ _ => -1
def XC (z : Mem) (C : CS) : HS := (lgM pm1 C.2.1, C.1, lgM z C.2.2)
def goodC (C : CS) : Prop := C.1 ≤ NC ∧ (∀ q ∈ C.2.1, q.1 < C.1) ∧ ∀ q ∈ C.2.2, q.1 < C.1
def hz0 (z : Mem) : Prop := ∀ k j : Nat, z k j = if (shp k).1 < 100 ∧ fk (shp k).1 j = 3 then -1 else 0
theorem fz_of {z : Mem} {C : CS} (hz : hz0 z) (h : goodC C) {k : Nat} (hk : C.1 ≤ k) : fz (XC z C).1 (XC z C).2.2 k :=
  ⟨fun j => by show lgM pm1 C.2.1 k j = -1; rw [lg_out hk _ h.2.1]; rfl, fun j => by show lgM z C.2.2 k j = _; rw [lg_out hk _ h.2.2]; exact hz k j⟩
def SS : Nat → Nat
  | 0 => 0
  | n + 1 => SS n + (shp n).2
theorem SS_mono {a b : Nat} (h : a ≤ b) : SS a ≤ SS b := by
  induction b with
  | zero => rw [Nat.le_zero.mp h]; exact Nat.le_refl _
  | succ b ih =>
    rcases Nat.lt_or_ge b a with q | q
    · rw [show a = b + 1 by omega]; exact Nat.le_refl _
    · exact Nat.le_trans (ih q) (Nat.le_add_right _ _)
theorem SS_rows {n L : Nat} : ∀ N, (∀ i, i < N → shp (n + i) = (100, L)) → SS (n + N) = SS n + N * L
  | 0, _ => by simp
  | N + 1, h => by
    show SS (n + N) + (shp (n + N)).2 = _
    rw [SS_rows N (fun i hi => h i (by omega)), h N (by omega), Nat.succ_mul]
    show SS n + N * L + L = _
    omega
noncomputable def cst (M : MI) (ai : AI) (pos : Nat) (stk : List AV) (loc : Lo) (C : CS) : Option (Nat × List AV × Lo × CS) := match ai with
  | (op, pc, a, b, c, v, tl) =>
    cond (Nat.beq op 2) (match lkp loc a with | (t, x) => cond (Nat.beq t b) (some (pos + 1, (b, x) :: stk, loc, C)) none) <|
    cond (Nat.beq op 0) (some (pos + 1, (0, v) :: stk, loc, C)) <|
    cond (Nat.beq op 1) (some (pos + 1, (1, v) :: stk, loc, C)) <|
    cond (Nat.beq op 3) (match stk with | (t, x) :: s => cond (Nat.beq t b) (some (pos + 1, s, put loc a (b, x), C)) none | [] => none) <|
    cond (Nat.beq op 4) (match lkp loc a with | (t, x) => cond (Nat.beq t 0) (some (pos + 1, stk, put loc a (0, w32 (x + v)), C)) none) <|
    cond (Nat.beq op 16) (match stk with | (t1, y) :: (t2, x) :: s => cond (Nat.beq t1 0 && Nat.beq t2 0 && Nat.beq c 3) (cond (decide (y ≤ x)) (some (a, s, loc, C)) (some (pos + 1, s, loc, C))) none | _ => none) <|
    cond (Nat.beq op 19) (some (a, stk, loc, C)) <|
    cond (Nat.beq op 28) (match stk with | (t, x) :: s => cond (Nat.beq t 1) none (some (pos + 1, (t, x) :: (t, x) :: s, loc, C)) | [] => none) <|
    cond (Nat.beq op 41) (match stk with | (t, r) :: s => cond (Nat.beq t 2 && decide (0 ≤ r) && Nat.ble (szS s) 8) (some (pos + 1, s, loc, C)) none | [] => none) <|
    cond (Nat.beq op 22) (match stk with | (t, r) :: s => cond (Nat.beq t 2 && Nat.beq (sK r) a && Nat.blt a 100 && Nat.beq (fk a b) 2 && decide (0 ≤ r) && Nat.blt r.toNat C.1) (some (pos + 1, (2, lgF C.2.1 r.toNat b (-1)) :: s, loc, C)) none | [] => none) <|
    cond (Nat.beq op 23) (match stk with
      | (t, w) :: (t2, r) :: s => cond (Nat.beq t2 2 && Nat.beq t (pft a b) && Nat.beq (sK r) a && Nat.blt a 100 && decide (0 ≤ r) && Nat.blt r.toNat C.1 && !(Nat.beq (fk a b) 4)) (cond (Nat.beq (fk a b) 2) (some (pos + 1, s, loc, (C.1, (r.toNat, b, w) :: C.2.1, C.2.2))) (some (pos + 1, s, loc, (C.1, C.2.1, (r.toNat, b, w) :: C.2.2)))) none
      | _ => none) <|
    cond (Nat.beq op 26) (match stk with
      | (t, w) :: (t2, i) :: (t3, r) :: s => cond (Nat.beq t2 0 && Nat.beq t3 2 && Nat.beq (sK r) a && decide (0 ≤ r) && Nat.blt r.toNat C.1 && decide (0 ≤ i) && decide (i < sN r)) (cond (Nat.beq a 100 && Nat.beq t 0) (some (pos + 1, s, loc, (C.1, C.2.1, (r.toNat, i.toNat, w) :: C.2.2))) (cond (Nat.beq t 2 && Nat.ble 103 a && Nat.blt a 106 && Nat.beq (sK w) (ciA a) && decide (0 ≤ w) && Nat.blt w.toNat C.1) (some (pos + 1, s, loc, (C.1, (r.toNat, i.toNat, w) :: C.2.1, C.2.2))) none)) none
      | _ => none) <|
    cond (Nat.beq op 37) (cond (Nat.blt a 13 && Nat.beq (shp C.1).1 a && Nat.blt C.1 NC) (some (pos + 1, (2, (C.1 : Int)) :: stk, loc, (C.1 + 1, C.2))) none) <|
    cond (Nat.beq op 38) (match stk with | (t, N) :: s => cond (Nat.beq t 0 && Nat.ble 100 a && Nat.blt a 103 && Nat.beq (shp C.1).1 a && Nat.blt C.1 NC && decide (N = ((shp C.1).2 : Int))) (some (pos + 1, (2, (C.1 : Int)) :: s, loc, (C.1 + 1, C.2))) none | [] => none) <|
    cond (Nat.beq op 39) (match stk with | (t, N) :: s => cond (Nat.beq t 0 && Nat.ble 103 a && Nat.blt a 106 && Nat.beq (shp C.1).1 a && Nat.blt C.1 NC && decide (N = ((shp C.1).2 : Int))) (some (pos + 1, (2, (C.1 : Int)) :: s, loc, (C.1 + 1, C.2))) none | [] => none) <|
    cond (Nat.beq op 40) (match stk with
      | (t, L) :: (t2, N) :: s => cond (Nat.beq t 0 && Nat.beq t2 0 && Nat.beq (shp C.1).1 106 && decide (N = ((shp C.1).2 : Int)) && decide (0 ≤ L) && decide (L ≤ 1000) && Nat.blt (C.1 + (shp C.1).2) NC && (List.range (shp C.1).2).all (fun i => Nat.beq (shp (C.1 + 1 + i)).1 100 && Nat.beq (shp (C.1 + 1 + i)).2 L.toNat)) (some (pos + 1, (2, (C.1 : Int)) :: s, loc, (C.1 + 1 + (shp C.1).2, (List.range (shp C.1).2).map (fun i => (C.1, i, ((C.1 + 1 + i : Nat) : Int))) ++ C.2.1, C.2.2))) none
      | _ => none) none
def isIni (a : Nat) : Bool := [0, 5, 11, 17, 32, 38, 46, 55, 63, 68, 77].any fun k => Nat.beq k a
noncomputable def run : Nat → Nat → MI → List AI → Nat → List AV → Lo → CS → Option CS
  | 0, _, _, _, _, _, _, _ => none
  | _ + 1, _, _, [], _, _, _, _ => none
  | n + 1, d, M, ai :: rs, pos, stk, loc, C =>
    cond (Nat.beq ai.1 34) (match stk with | [] => some C | _ => none) <|
    cond (Nat.beq ai.1 33) (match d, stk with
      | d' + 1, (t, r) :: s => cond (Nat.beq t 2 && decide (0 ≤ r) && isIni ai.2.2.1 && decide (ai.2.2.2.2.2.1 = 0) && Nat.ble (szS s) 8) (match run n d' (callee ai.2.2.1) (mT (callee ai.2.2.1)) 0 [] [(0, (2, r))] C with
          | some C1 => run n (d' + 1) M rs (pos + 1) s loc C1
          | none => none) none
      | _, _ => none) <|
    match cst M ai pos stk loc C with
      | some (pos', stk', loc', C') => run n d M (cond (Nat.beq pos' (pos + 1)) rs ((mT M).drop pos')) pos' stk' loc' C'
      | none => none
theorem lgF_app {k j : Nat} {d : Int} {B : LG} : ∀ {A : LG}, (∀ q ∈ A, q.1 ≠ k ∨ q.2.1 ≠ j) → lgF (A ++ B) k j d = lgF B k j d
  | [], _ => rfl
  | (a, b, v) :: A, h => by
    have h1 := h _ List.mem_cons_self
    show cond (Nat.beq a k && Nat.beq b j) v (lgF (A ++ B) k j d) = _
    rw [lgF_app fun q hq => h q (List.mem_cons_of_mem _ hq)]
    have e : (Nat.beq a k && Nat.beq b j) = false := by
      cases q1 : Nat.beq a k with
      | false => rfl
      | true =>
        cases q2 : Nat.beq b j with
        | false => rfl
        | true => rcases h1 with h1 | h1; exact absurd (Nat.eq_of_beq_eq_true q1) h1; exact absurd (Nat.eq_of_beq_eq_true q2) h1
    rw [e]; rfl
theorem lgF_mem {k j : Nat} {d w : Int} {B : LG} : ∀ {A : LG}, (k, j, w) ∈ A → (∀ q ∈ A, q.1 = k → q.2.1 = j → q.2.2 = w) → lgF (A ++ B) k j d = w
  | [], h, _ => by cases h
  | (a, b, v) :: A, h, hu => by
    show cond (Nat.beq a k && Nat.beq b j) v (lgF (A ++ B) k j d) = _
    cases e : (Nat.beq a k && Nat.beq b j) with
    | true =>
      simp only [Bool.and_eq_true] at e
      exact hu _ List.mem_cons_self (Nat.eq_of_beq_eq_true e.1) (Nat.eq_of_beq_eq_true e.2)
    | false =>
      rcases List.mem_cons.mp h with h | h
      · cases h; simp [beq_dec] at e
      · exact lgF_mem h fun q hq => hu q (List.mem_cons_of_mem _ hq)
theorem lgF_row {d : Int} {B : LG} (n : Nat) (f : Nat → Int) (N : Nat) {i : Nat} (hi : i < N) : lgF ((List.range N).map (fun i => (n, i, f i)) ++ B) n i d = f i := by
  refine lgF_mem (List.mem_map.mpr ⟨i, List.mem_range.mpr hi, rfl⟩) fun q hq h1 h2 => ?_
  obtain ⟨m, -, rfl⟩ := List.mem_map.mp hq
  dsimp only at h2
  subst h2; rfl
theorem bq {a b : Nat} (h : Nat.beq a b = true) : a = b := Nat.eq_of_beq_eq_true h
theorem SS_one (n : Nat) : SS (n + 1) = SS n + (shp n).2 := rfl
/-- what one step keeps, and what it asks of the rest -/
def Stc (z : Mem) (M : MI) (pos : Nat) (stk : List AV) (loc : Lo) (C : CS) (pos' : Nat) (stk' : List AV) (loc' : Lo) (C' : CS) : Prop := goodC C' ∧ C.1 ≤ C'.1 ∧
  ∀ (d n0 mc ms : Nat) (K : Int → HS → Prop), n0 ≤ C.1 → C'.1 - n0 ≤ mc → SS C'.1 - SS n0 ≤ ms → AW M (d + 1) mc ms pos' stk' loc' (XC z C') (C'.1 - n0) (SS C'.1 - SS n0) K → AW M (d + 1) mc ms pos stk loc (XC z C) (C.1 - n0) (SS C.1 - SS n0) K
theorem cst_ok {z : Mem} (hz : hz0 z) {M : MI} (hM : chkM M = true) {ai : AI} {pos : Nat} {stk : List AV} {loc : Lo} {C : CS} {pos' : Nat} {stk' : List AV} {loc' : Lo} {C' : CS} (hg : goodC C) (hi : (mT M)[pos]? = some ai) (h : cst M ai pos stk loc C = some (pos', stk', loc', C')) : Stc z M pos stk loc C pos' stk' loc' C' := by
  obtain ⟨op, pc, a, b, c, v, tl⟩ := ai
  unfold cst at h
  dsimp only at h
  cases q : Nat.beq op 2 with
  | true =>
    rw [q, cond_true] at h
    obtain rfl := bq q
    obtain ⟨t, x, hlk⟩ : ∃ t x, lkp loc a = (t, x) := ⟨_, _, rfl⟩
    rw [hlk] at h
    dsimp only at h
    cases e : Nat.beq t b with
    | false => rw [e] at h; cases h
    | true =>
      rw [e, cond_true] at h
      obtain rfl := bq e
      cases h
      exact ⟨hg, Nat.le_refl _, fun d n0 mc ms K _ _ _ k => aw_load hM hi hlk k⟩
  | false =>
  rw [q, cond_false] at h
  clear q
  cases q : Nat.beq op 0 with
  | true =>
    rw [q, cond_true] at h
    obtain rfl := bq q
    cases h
    exact ⟨hg, Nat.le_refl _, fun d n0 mc ms K _ _ _ k => aw_const hM hi k⟩
  | false =>
  rw [q, cond_false] at h
  clear q
  cases q : Nat.beq op 1 with
  | true =>
    rw [q, cond_true] at h
    obtain rfl := bq q
    cases h
    exact ⟨hg, Nat.le_refl _, fun d n0 mc ms K _ _ _ k => aw_lconst hM hi k⟩
  | false =>
  rw [q, cond_false] at h
  clear q
  cases q : Nat.beq op 3 with
  | true =>
    rw [q, cond_true] at h
    obtain rfl := bq q
    split at h
    · rename_i t x s
      cases e : Nat.beq t b with
      | false => rw [e] at h; cases h
      | true =>
        rw [e, cond_true] at h
        obtain rfl := bq e
        cases h
        exact ⟨hg, Nat.le_refl _, fun d n0 mc ms K _ _ _ k => aw_store hM hi k⟩
    · cases h
  | false =>
  rw [q, cond_false] at h
  clear q
  cases q : Nat.beq op 4 with
  | true =>
    rw [q, cond_true] at h
    obtain rfl := bq q
    obtain ⟨t, x, hlk⟩ : ∃ t x, lkp loc a = (t, x) := ⟨_, _, rfl⟩
    rw [hlk] at h
    dsimp only at h
    cases e : Nat.beq t 0 with
    | false => rw [e] at h; cases h
    | true =>
      rw [e, cond_true] at h
      obtain rfl := bq e
      cases h
      exact ⟨hg, Nat.le_refl _, fun d n0 mc ms K _ _ _ k => aw_iinc hM hi hlk k⟩
  | false =>
  rw [q, cond_false] at h
  clear q
  cases q : Nat.beq op 16 with
  | true =>
    rw [q, cond_true] at h
    obtain rfl := bq q
    split at h
    · rename_i t1 y t2 x s
      cases e : (Nat.beq t1 0 && Nat.beq t2 0 && Nat.beq c 3) with
      | false => rw [e] at h; cases h
      | true =>
        rw [e, cond_true] at h
        simp only [Bool.and_eq_true] at e
        obtain ⟨⟨e1, e2⟩, e3⟩ := e
        obtain rfl := bq e1; obtain rfl := bq e2; obtain rfl := bq e3
        cases e4 : decide (y ≤ x) with
        | true =>
          rw [e4, cond_true] at h
          have e5 := of_decide_eq_true e4
          cases h
          exact ⟨hg, Nat.le_refl _, fun d n0 mc ms K _ _ _ k => aw_icmp hM hi (by unfold brc; simp; constructor <;> intro hh <;> first | exact k | (exfalso; omega))⟩
        | false =>
          rw [e4, cond_false] at h
          have e5 := of_decide_eq_false e4
          cases h
          exact ⟨hg, Nat.le_refl _, fun d n0 mc ms K _ _ _ k => aw_icmp hM hi (by unfold brc; simp; constructor <;> intro hh <;> first | exact k | (exfalso; omega))⟩
    · cases h
  | false =>
  rw [q, cond_false] at h
  clear q
  cases q : Nat.beq op 19 with
  | true =>
    rw [q, cond_true] at h
    obtain rfl := bq q
    cases h
    exact ⟨hg, Nat.le_refl _, fun d n0 mc ms K _ _ _ k => aw_goto hM hi k⟩
  | false =>
  rw [q, cond_false] at h
  clear q
  cases q : Nat.beq op 28 with
  | true =>
    rw [q, cond_true] at h
    obtain rfl := bq q
    split at h
    · rename_i t x s
      cases e : Nat.beq t 1 with
      | true => rw [e] at h; cases h
      | false =>
        rw [e, cond_false] at h
        cases h
        exact ⟨hg, Nat.le_refl _, fun d n0 mc ms K _ _ _ k => aw_dup hM hi (Nat.ne_of_beq_eq_false e) k⟩
    · cases h
  | false =>
  rw [q, cond_false] at h
  clear q
  cases q : Nat.beq op 41 with
  | true =>
    rw [q, cond_true] at h
    obtain rfl := bq q
    split at h
    · rename_i t x s
      cases e : (Nat.beq t 2 && decide (0 ≤ x) && Nat.ble (szS s) 8) with
      | false => rw [e] at h; cases h
      | true =>
        rw [e, cond_true] at h
        simp only [Bool.and_eq_true, decide_eq_true_eq] at e
        obtain ⟨⟨e1, e2⟩, e3⟩ := e
        obtain rfl := bq e1
        cases h
        exact ⟨hg, Nat.le_refl _, fun d n0 mc ms K _ _ _ k => aw_obj hM hi e2 (Nat.le_of_ble_eq_true e3) k⟩
    · cases h
  | false =>
  rw [q, cond_false] at h
  clear q
  cases q : Nat.beq op 22 with
  | true =>
    rw [q, cond_true] at h
    obtain rfl := bq q
    split at h
    · rename_i t r s
      cases e : (Nat.beq t 2 && Nat.beq (sK r) a && Nat.blt a 100 && Nat.beq (fk a b) 2 && decide (0 ≤ r) && Nat.blt r.toNat C.1) with
      | false => rw [e] at h; cases h
      | true =>
        rw [e, cond_true] at h
        simp only [Bool.and_eq_true, decide_eq_true_eq] at e
        obtain ⟨⟨⟨⟨⟨e1, e2⟩, e3⟩, e4⟩, e5⟩, e6⟩ := e
        obtain rfl := bq e1
        have e2 := bq e2; have e4 := bq e4
        have e3 : a < 100 := Nat.le_of_ble_eq_true e3
        have e6 : r.toNat < C.1 := Nat.le_of_ble_eq_true e6
        cases h
        refine ⟨hg, Nat.le_refl _, fun d n0 mc ms K _ _ _ k => aw_getf hM hi e2 e3 (show r < (C.1 : Int) by omega) ?_⟩
        have e7 : gfv (XC z C) a b r = (2, lgF C.2.1 r.toNat b (-1)) := by
          unfold gfv
          rw [if_neg (by omega), if_pos e4]
          have h9 := lg_at pm1 C.2.1 r.toNat b
          rw [show ((r.toNat : Nat) : Int) = r by omega] at h9
          show (2, lgM pm1 C.2.1 r b) = _
          rw [h9]; rfl
        rw [e7]; exact k
    · cases h
  | false =>
  rw [q, cond_false] at h
  clear q
  cases q : Nat.beq op 23 with
  | true =>
    rw [q, cond_true] at h
    obtain rfl := bq q
    split at h
    · rename_i t w t2 r s
      cases e : (Nat.beq t2 2 && Nat.beq t (pft a b) && Nat.beq (sK r) a && Nat.blt a 100 && decide (0 ≤ r) && Nat.blt r.toNat C.1 && !(Nat.beq (fk a b) 4)) with
      | false => rw [e] at h; cases h
      | true =>
        rw [e, cond_true] at h
        simp only [Bool.and_eq_true, decide_eq_true_eq] at e
        obtain ⟨⟨⟨⟨⟨⟨e1, e2⟩, e3⟩, e4⟩, e5⟩, e6⟩, e7⟩ := e
        obtain rfl := bq e1
        obtain rfl := bq e2
        have e3 := bq e3
        have e4 : a < 100 := Nat.le_of_ble_eq_true e4
        have e6 : r.toNat < C.1 := Nat.le_of_ble_eq_true e6
        have e8 : ¬ fk a b = 4 := by
          intro z1; rw [z1] at e7; cases e7
        have er : ((r.toNat : Nat) : Int) = r := by omega
        cases e9 : Nat.beq (fk a b) 2 with
        | true =>
          rw [e9, cond_true] at h
          have e9 := bq e9
          cases h
          refine ⟨⟨hg.1, fun y hy => ?_, hg.2.2⟩, Nat.le_refl _, fun d n0 mc ms K _ _ _ k => aw_putf hM hi e3 e4 (show r < (C.1 : Int) by omega) (fun z1 => absurd z1 e8) ?_⟩
          · rcases List.mem_cons.mp hy with rfl | hy
            · exact e6
            · exact hg.2.1 y hy
          · have e10 : pfv (XC z C) a b r w = XC z (C.1, (r.toNat, b, w) :: C.2.1, C.2.2) := by
              unfold pfv
              rw [if_pos e9]
              show (st (lgM pm1 C.2.1) r b w, _) = (st (lgM pm1 C.2.1) (r.toNat : Nat) b w, _)
              rw [er]; rfl
            rw [e10]; exact k
        | false =>
          rw [e9, cond_false] at h
          have e9 := Nat.ne_of_beq_eq_false e9
          cases h
          refine ⟨⟨hg.1, hg.2.1, fun y hy => ?_⟩, Nat.le_refl _, fun d n0 mc ms K _ _ _ k => aw_putf hM hi e3 e4 (show r < (C.1 : Int) by omega) (fun z1 => absurd z1 e8) ?_⟩
          · rcases List.mem_cons.mp hy with rfl | hy
            · exact e6
            · exact hg.2.2 y hy
          · have e10 : pfv (XC z C) a b r w = XC z (C.1, C.2.1, (r.toNat, b, w) :: C.2.2) := by
              unfold pfv
              rw [if_neg e9]
              show (_, _, st (lgM z C.2.2) r b w) = (_, _, st (lgM z C.2.2) (r.toNat : Nat) b w)
              rw [er]; rfl
            rw [e10]; exact k
    · cases h
  | false =>
  rw [q, cond_false] at h
  clear q
  cases q : Nat.beq op 26 with
  | true =>
    rw [q, cond_true] at h
    obtain rfl := bq q
    split at h
    · rename_i t w t2 i t3 r s
      cases e : (Nat.beq t2 0 && Nat.beq t3 2 && Nat.beq (sK r) a && decide (0 ≤ r) && Nat.blt r.toNat C.1 && decide (0 ≤ i) && decide (i < sN r)) with
      | false => rw [e] at h; cases h
      | true =>
        rw [e, cond_true] at h
        simp only [Bool.and_eq_true, decide_eq_true_eq] at e
        obtain ⟨⟨⟨⟨⟨⟨e1, e2⟩, e3⟩, e4⟩, e5⟩, e6⟩, e7⟩ := e
        obtain rfl := bq e1
        obtain rfl := bq e2
        have e3 := bq e3
        have e5 : r.toNat < C.1 := Nat.le_of_ble_eq_true e5
        have er : ((r.toNat : Nat) : Int) = r := by omega
        have ei : ((i.toNat : Nat) : Int) = i := by omega
        cases e9 : (Nat.beq a 100 && Nat.beq t 0) with
        | true =>
          rw [e9, cond_true] at h
          simp only [Bool.and_eq_true] at e9
          obtain rfl := bq e9.1
          obtain rfl := bq e9.2
          cases h
          refine ⟨⟨hg.1, hg.2.1, fun y hy => ?_⟩, Nat.le_refl _, fun d n0 mc ms K _ _ _ k => aw_iast hM hi e3 (show r < (C.1 : Int) by omega) e6 e7 ?_⟩
          · rcases List.mem_cons.mp hy with rfl | hy
            · exact e5
            · exact hg.2.2 y hy
          · have e10 : ((XC z C).1, (XC z C).2.1, st (XC z C).2.2 r i w) = XC z (C.1, C.2.1, (r.toNat, i.toNat, w) :: C.2.2) := by
              show (_, _, st (lgM z C.2.2) r i w) = (_, _, st (lgM z C.2.2) (r.toNat : Nat) (i.toNat : Nat) w)
              rw [er, ei]; rfl
            rw [e10]; exact k
        | false =>
          rw [e9, cond_false] at h
          cases e8 : (Nat.beq t 2 && Nat.ble 103 a && Nat.blt a 106 && Nat.beq (sK w) (ciA a) && decide (0 ≤ w) && Nat.blt w.toNat C.1) with
          | false => rw [e8] at h; cases h
          | true =>
            rw [e8, cond_true] at h
            simp only [Bool.and_eq_true, decide_eq_true_eq] at e8
            obtain ⟨⟨⟨⟨⟨f1, f2⟩, f3⟩, f4⟩, f5⟩, f6⟩ := e8
            obtain rfl := bq f1
            have f2 : 103 ≤ a := Nat.le_of_ble_eq_true f2
            have f3 : a < 106 := Nat.le_of_ble_eq_true f3
            have f6 : w.toNat < C.1 := Nat.le_of_ble_eq_true f6
            cases h
            refine ⟨⟨hg.1, fun y hy => ?_, hg.2.2⟩, Nat.le_refl _, fun d n0 mc ms K _ _ _ k => aw_aast hM hi (by omega) e3 (show r < (C.1 : Int) by omega) e6 e7 (bq f4) (show w < (C.1 : Int) by omega) ?_⟩
            · rcases List.mem_cons.mp hy with rfl | hy
              · exact e5
              · exact hg.2.1 y hy
            · have e10 : (st (XC z C).1 r i w, (XC z C).2.1, (XC z C).2.2) = XC z (C.1, (r.toNat, i.toNat, w) :: C.2.1, C.2.2) := by
                show (st (lgM pm1 C.2.1) r i w, _) = (st (lgM pm1 C.2.1) (r.toNat : Nat) (i.toNat : Nat) w, _)
                rw [er, ei]; rfl
              rw [e10]; exact k
    · cases h
  | false =>
  rw [q, cond_false] at h
  clear q
  have up : ∀ n, n ≤ NC → C.1 ≤ n → goodC (n, C.2.1, C.2.2) := fun n h1 h2 => ⟨h1, fun y hy => Nat.lt_of_lt_of_le (hg.2.1 y hy) h2, fun y hy => Nat.lt_of_lt_of_le (hg.2.2 y hy) h2⟩
  cases q : Nat.beq op 37 with
  | true =>
    rw [q, cond_true] at h
    obtain rfl := bq q
    cases e : (Nat.blt a 13 && Nat.beq (shp C.1).1 a && Nat.blt C.1 NC) with
    | false => rw [e] at h; cases h
    | true =>
      rw [e, cond_true] at h
      simp only [Bool.and_eq_true] at e
      obtain ⟨⟨e1, e2⟩, e3⟩ := e
      have e1 : a < 13 := Nat.le_of_ble_eq_true e1
      have e3 : C.1 < NC := Nat.le_of_ble_eq_true e3
      cases h
      refine ⟨up _ e3 (Nat.le_succ _), Nat.le_succ _, fun d n0 mc ms K h0 h1 h2 k => aw_new hM hi e1 (bq e2) e3 (fz_of hz hg (Nat.le_refl _)) ?_ ?_ ?_⟩
      · dsimp only at h1; omega
      · dsimp only at h2; rw [SS_one] at h2; have := SS_mono h0; show _ + (shp C.1).2 ≤ _; omega
      · dsimp only at k
        rw [SS_one] at k
        have h3 := SS_mono h0
        rw [show C.1 + 1 - n0 = C.1 - n0 + 1 by omega, show SS C.1 + (shp C.1).2 - SS n0 = SS C.1 - SS n0 + (shp C.1).2 by omega] at k
        exact k
  | false =>
  rw [q, cond_false] at h
  clear q
  cases q : Nat.beq op 38 with
  | true =>
    rw [q, cond_true] at h
    obtain rfl := bq q
    split at h
    · rename_i t N s
      cases e : (Nat.beq t 0 && Nat.ble 100 a && Nat.blt a 103 && Nat.beq (shp C.1).1 a && Nat.blt C.1 NC && decide (N = ((shp C.1).2 : Int))) with
      | false => rw [e] at h; cases h
      | true =>
        rw [e, cond_true] at h
        simp only [Bool.and_eq_true, decide_eq_true_eq] at e
        obtain ⟨⟨⟨⟨⟨e1, e2⟩, e3⟩, e4⟩, e5⟩, rfl⟩ := e
        obtain rfl := bq e1
        have e2 : 100 ≤ a := Nat.le_of_ble_eq_true e2
        have e3 : a < 103 := Nat.le_of_ble_eq_true e3
        have e5 : C.1 < NC := Nat.le_of_ble_eq_true e5
        have e4 := bq e4
        cases h
        refine ⟨up _ e5 (Nat.le_succ _), Nat.le_succ _, fun d n0 mc ms K h0 h1 h2 k => aw_newp (N := (shp C.1).2) hM hi (by omega) (by show shp C.1 = _; rw [← e4]) e5 (fz_of hz hg (Nat.le_refl _)) ?_ ?_ ?_⟩
        · dsimp only at h1; omega
        · dsimp only at h2; rw [SS_one] at h2; have := SS_mono h0; omega
        · dsimp only at k
          rw [SS_one] at k
          have h3 := SS_mono h0
          rw [show C.1 + 1 - n0 = C.1 - n0 + 1 by omega, show SS C.1 + (shp C.1).2 - SS n0 = SS C.1 - SS n0 + (shp C.1).2 by omega] at k
          exact k
    · cases h
  | false =>
  rw [q, cond_false] at h
  clear q
  cases q : Nat.beq op 39 with
  | true =>
    rw [q, cond_true] at h
    obtain rfl := bq q
    split at h
    · rename_i t N s
      cases e : (Nat.beq t 0 && Nat.ble 103 a && Nat.blt a 106 && Nat.beq (shp C.1).1 a && Nat.blt C.1 NC && decide (N = ((shp C.1).2 : Int))) with
      | false => rw [e] at h; cases h
      | true =>
        rw [e, cond_true] at h
        simp only [Bool.and_eq_true, decide_eq_true_eq] at e
        obtain ⟨⟨⟨⟨⟨e1, e2⟩, e3⟩, e4⟩, e5⟩, rfl⟩ := e
        obtain rfl := bq e1
        have e2 : 103 ≤ a := Nat.le_of_ble_eq_true e2
        have e3 : a < 106 := Nat.le_of_ble_eq_true e3
        have e5 : C.1 < NC := Nat.le_of_ble_eq_true e5
        have e4 := bq e4
        cases h
        refine ⟨up _ e5 (Nat.le_succ _), Nat.le_succ _, fun d n0 mc ms K h0 h1 h2 k => aw_newq (N := (shp C.1).2) hM hi (by omega) (by show shp C.1 = _; rw [← e4]) e5 (fz_of hz hg (Nat.le_refl _)) ?_ ?_ ?_⟩
        · dsimp only at h1; omega
        · dsimp only at h2; rw [SS_one] at h2; have := SS_mono h0; omega
        · dsimp only at k
          rw [SS_one] at k
          have h3 := SS_mono h0
          rw [show C.1 + 1 - n0 = C.1 - n0 + 1 by omega, show SS C.1 + (shp C.1).2 - SS n0 = SS C.1 - SS n0 + (shp C.1).2 by omega] at k
          exact k
    · cases h
  | false =>
  rw [q, cond_false] at h
  clear q
  cases q : Nat.beq op 40 with
  | false => rw [q, cond_false] at h; cases h
  | true =>
    rw [q, cond_true] at h
    obtain rfl := bq q
    split at h
    · rename_i t L t2 N s
      cases e : (Nat.beq t 0 && Nat.beq t2 0 && Nat.beq (shp C.1).1 106 && decide (N = ((shp C.1).2 : Int)) && decide (0 ≤ L) && decide (L ≤ 1000) && Nat.blt (C.1 + (shp C.1).2) NC && (List.range (shp C.1).2).all (fun i => Nat.beq (shp (C.1 + 1 + i)).1 100 && Nat.beq (shp (C.1 + 1 + i)).2 L.toNat)) with
      | false => rw [e] at h; cases h
      | true =>
        rw [e, cond_true] at h
        simp only [Bool.and_eq_true, decide_eq_true_eq] at e
        obtain ⟨⟨⟨⟨⟨⟨⟨e1, e2⟩, e3⟩, rfl⟩, e5⟩, e6⟩, e7⟩, e8⟩ := e
        obtain rfl := bq e1
        obtain rfl := bq e2
        have e3 := bq e3
        have e7 : C.1 + (shp C.1).2 < NC := Nat.le_of_ble_eq_true e7
        have e9 : ∀ i, i < (shp C.1).2 → shp (C.1 + 1 + i) = (100, L.toNat) := fun i hi9 => by
          have h9 := List.all_eq_true.mp e8 i (List.mem_range.mpr hi9)
          simp only [Bool.and_eq_true] at h9
          rw [← bq h9.1, ← bq h9.2]
        obtain ⟨L', rfl⟩ : ∃ L' : Nat, L = (L' : Int) := ⟨L.toNat, by omega⟩
        have eL : ((L' : Int)).toNat = L' := by omega
        rw [eL] at e9
        cases h
        have hss : SS (C.1 + 1 + (shp C.1).2) = SS C.1 + (shp C.1).2 + (shp C.1).2 * L' := by rw [SS_rows (n := C.1 + 1) (L := L') _ e9, SS_one]
        refine ⟨⟨by show C.1 + 1 + _ ≤ NC; omega, fun y hy => ?_, fun y hy => ?_⟩, by show C.1 ≤ C.1 + 1 + _; omega, fun d n0 mc ms K h0 h1 h2 k => aw_newm (N := (shp C.1).2) (L := L') (π := lgM pm1 ((List.range (shp C.1).2).map (fun i => (C.1, i, ((C.1 + 1 + i : Nat) : Int))) ++ C.2.1)) hM hi (by show shp C.1 = _; rw [← e3]) e9 (by omega) e7 (fun i _ => fz_of hz hg (Nat.le_add_right _ _)) (fun k hk j => ?_) (fun i hi9 => ?_) ?_ ?_ ?_⟩
        · show y.1 < C.1 + 1 + _
          rcases List.mem_append.mp hy with hy | hy
          · obtain ⟨i, -, rfl⟩ := List.mem_map.mp hy
            show C.1 < C.1 + 1 + _
            omega
          · have := hg.2.1 y hy; omega
        · show y.1 < C.1 + 1 + _
          have := hg.2.2 y hy; omega
        · have hk : k < C.1 := hk
          show lgM pm1 _ k j = lgM pm1 C.2.1 k j
          rw [lg_at, lg_at]
          exact lgF_app (fun q hq => by
            obtain ⟨i, -, rfl⟩ := List.mem_map.mp hq
            exact Or.inl (by show C.1 ≠ k; omega))
        · show lgM pm1 _ C.1 i = ((C.1 + 1 + i : Nat) : Int)
          rw [lg_at]
          exact lgF_row C.1 (fun i => ((C.1 + 1 + i : Nat) : Int)) _ hi9
        · dsimp only at h1; omega
        · dsimp only at h2; rw [hss] at h2; have := SS_mono h0; omega
        · dsimp only at k
          rw [hss] at k
          have h3 := SS_mono h0
          rw [show C.1 + 1 + (shp C.1).2 - n0 = C.1 - n0 + 1 + (shp C.1).2 by omega, show SS C.1 + (shp C.1).2 + (shp C.1).2 * L' - SS n0 = SS C.1 - SS n0 + (shp C.1).2 + (shp C.1).2 * L' by omega] at k
          exact k
    · cases h
