/-! ===== all cells made ===== -/
def SL : LG := [(376, 5, (-1)), (376, 4, (-1)), (376, 3, (-1)), (376, 2, (-1)), (376, 1, (-1)), (376, 0, (-1)), (375, 5, (-1)), (375, 4, (-1)), (375, 3, (-1)), (375, 2, (-1)), (375, 1, (-1)), (375, 0, (-1)), (356, 24, 1), (356, 23, (-1)), (356, 14, (-1)), (260, 1, 1), (258, 1, 1), (256, 1, 1), (254, 1, 1), (252, 1, 1), (250, 1, 1), (248, 1, 1), (217, 1, 1), (215, 1, 1), (213, 1, 1), (211, 1, 1), (209, 1, 1), (207, 1, 1), (205, 1, 1), (174, 1, 1), (172, 1, 1), (170, 1, 1), (168, 1, 1), (166, 1, 1), (164, 1, 1), (162, 1, 1), (131, 1, 1), (129, 1, 1), (127, 1, 1), (125, 1, 1), (123, 1, 1), (121, 1, 1), (119, 1, 1), (88, 1, 1), (86, 1, 1), (84, 1, 1), (82, 1, 1), (80, 1, 1), (78, 1, 1), (76, 1, 1), (45, 1, 1), (43, 1, 1), (41, 1, 1), (39, 1, 1), (37, 1, 1), (35, 1, 1), (33, 1, 1)]
noncomputable def ckP (L : LG) : Bool := L.all (fun q => decide (q.2.2 = (ptrL q.1).getD q.2.1 (-1))) && (List.range NC).all fun k => (List.range (ptrL k).length).all fun j => decide ((ptrL k).getD j (-1) = -1) || L.any fun q => Nat.beq q.1 k && Nat.beq q.2.1 j
noncomputable def mdX : Option CS := run 600 23 i_X_init (mT i_X_init) 0 [] [(0, (2, 0))] (1, [], [])
noncomputable def mdM (C : CS) : Option CS := run 600 23 i_M_init (mT i_M_init) 0 [] [(0, (2, 356))] (357, C.2)
set_option maxRecDepth 100000 in
theorem t_A : (match mdX with | some C => Nat.beq C.1 356 && (match mdM C with | some C2 => Nat.beq C2.1 NC && ckP C2.2.1 && decide (C2.2.2 = SL) | none => false) | none => false) = true := by decide +kernel
theorem lgF_ptr {k j : Nat} : ∀ (L : LG), (∀ q ∈ L, q.2.2 = (ptrL q.1).getD q.2.1 (-1)) → ((ptrL k).getD j (-1) = -1 ∨ ∃ q ∈ L, q.1 = k ∧ q.2.1 = j) → lgF L k j (-1) = (ptrL k).getD j (-1)
  | [], _, h => by
    rcases h with h | ⟨q, hq, -⟩
    · rw [h]; rfl
    · cases hq
  | (a, b, v) :: L, hL, h => by
    have h1 := hL _ List.mem_cons_self
    dsimp only at h1
    show cond (Nat.beq a k && Nat.beq b j) v (lgF L k j (-1)) = _
    cases e : (Nat.beq a k && Nat.beq b j) with
    | true =>
      simp only [Bool.and_eq_true] at e
      rw [← bq e.1, ← bq e.2]
      exact h1
    | false =>
      refine lgF_ptr L (fun q hq => hL q (List.mem_cons_of_mem _ hq)) ?_
      rcases h with h | ⟨q, hq, e1, e2⟩
      · exact Or.inl h
      · rcases List.mem_cons.mp hq with rfl | hq
        · subst e1; subst e2; simp [beq_dec] at e
        · exact Or.inr ⟨q, hq, e1, e2⟩
theorem lg_neg {z : Mem} {a j : Int} (h : a < 0 ∨ j < 0) : ∀ (L : LG), lgM z L a j = z a j
  | [] => rfl
  | (k, i, v) :: L => by
    show st (lgM z L) k i v a j = _
    rw [st_ne (by omega)]
    exact lg_neg h L
theorem ptr_out {k : Nat} (h : NC ≤ k) : ptrL k = [] := by
  unfold ptrL
  have : Nat.blt k 407 = false := by
    cases q : Nat.blt k 407 with
    | false => rfl
    | true => exact absurd (Nat.le_of_ble_eq_true q) (by have : 407 ≤ k := h; omega)
  rw [this]; rfl
theorem ckP_ptr {L : LG} (h : ckP L = true) : lgM pm1 L = ptr := by
  unfold ckP at h
  simp only [Bool.and_eq_true] at h
  obtain ⟨h1, h2⟩ := h
  have h1 : ∀ q ∈ L, q.2.2 = (ptrL q.1).getD q.2.1 (-1) := fun q hq => of_decide_eq_true (List.all_eq_true.mp h1 q hq)
  funext a j
  match a, j with
  | .ofNat k, .ofNat i =>
    have e := lg_at pm1 L k i
    show lgM pm1 L (k : Int) (i : Int) = (ptrL k).getD i (-1)
    rw [e]
    refine lgF_ptr L h1 ?_
    by_cases hk : k < NC
    · by_cases hi : i < (ptrL k).length
      · have h3 := List.all_eq_true.mp (List.all_eq_true.mp h2 k (List.mem_range.mpr hk)) i (List.mem_range.mpr hi)
        simp only [Bool.or_eq_true, decide_eq_true_eq] at h3
        rcases h3 with h3 | h3
        · exact Or.inl h3
        · obtain ⟨q, hq, hq2⟩ := List.any_eq_true.mp h3
          simp only [Bool.and_eq_true] at hq2
          exact Or.inr ⟨q, hq, bq hq2.1, bq hq2.2⟩
      · refine Or.inl ?_
        rw [List.getD_eq_getElem?_getD, List.getElem?_eq_none (by omega)]; rfl
    · refine Or.inl ?_
      rw [ptr_out (by omega)]; rfl
  | .negSucc n, j =>
    rw [lg_neg (Or.inl (Int.negSucc_lt_zero n))]
    cases j <;> rfl
  | .ofNat k, .negSucc n =>
    rw [lg_neg (Or.inr (Int.negSucc_lt_zero n))]
    rfl
/-- both constructors: from nothing to all cells -/
theorem made : ∃ C1 C2 : CS, mdX = some C1 ∧ mdM C1 = some C2 ∧ C1.1 = 356 ∧ C2.1 = NC ∧ C2.2.2 = SL ∧ lgM pm1 C2.2.1 = ptr := by
  have h := t_A
  split at h
  · rename_i C1 h1
    simp only [Bool.and_eq_true] at h
    obtain ⟨e1, h⟩ := h
    split at h
    · rename_i C2 h2
      simp only [Bool.and_eq_true, decide_eq_true_eq] at h
      exact ⟨C1, C2, h1, h2, bq e1, bq h.1.1, h.2, ckP_ptr h.1.2⟩
    · cases h
  · cases h
theorem am_X {z : Mem} (hz : hz0 z) {C1 : CS} (h : mdX = some C1) : goodC C1 ∧ AM i_X_init 24 (C1.1 - 1) (SS C1.1 - SS 1) [(2, 0)] (XC z (1, [], [])) (fun _ X => X = XC z C1) := by
  obtain ⟨g1, l1, k1⟩ := run_ok hz 600 23 i_X_init _ 0 [] _ (1, [], []) C1 h ck_X_init rfl rfl ⟨by decide, fun q hq => by (cases hq), fun q hq => by (cases hq)⟩
  refine ⟨g1, am_aw ok_X_init (Nat.le_of_ble_eq_true rfl) rfl fun _ => ?_⟩
  exact k1 1 _ _ (fun _ X => X = XC z C1) (Nat.le_refl _) (Nat.le_refl _) (Nat.le_refl _) rfl
theorem am_M {z : Mem} (hz : hz0 z) {C1 C2 : CS} (hg : goodC C1) (h1 : C1.1 = 356) (h : mdM C1 = some C2) : AM i_M_init 24 (C2.1 - 357) (SS C2.1 - SS 357) [(2, 356)] (XC z (357, C1.2)) (fun _ X => X = XC z C2) := by
  obtain ⟨g1, l1, k1⟩ := run_ok hz 600 23 i_M_init _ 0 [] _ (357, C1.2) C2 h ck_M_init rfl rfl ⟨by show 357 ≤ NC; decide, fun q hq => Nat.lt_of_lt_of_le (hg.2.1 q hq) (by show C1.1 ≤ 357; omega), fun q hq => Nat.lt_of_lt_of_le (hg.2.2 q hq) (by show C1.1 ≤ 357; omega)⟩
  refine am_aw ok_M_init (Nat.le_of_ble_eq_true rfl) rfl fun _ => ?_
  have h9 := k1 357 (C2.1 - 357) (SS C2.1 - SS 357) (fun _ X => X = XC z C2) (Nat.le_refl _) (Nat.le_refl _) (Nat.le_refl _) rfl
  dsimp only at h9
  rw [Nat.sub_self, Nat.sub_self] at h9
  exact h9
/-- the first memory behind the making -/
def sI (z : Mem) : Mem := lgM z SL
theorem XC_end {z : Mem} {C2 : CS} (h1 : C2.1 = NC) (h2 : C2.2.2 = SL) (h3 : lgM pm1 C2.2.1 = ptr) : XC z C2 = X2 (sI z) := by
  unfold XC X2 sI
  rw [h1, h2, h3]
