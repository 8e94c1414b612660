/-! ===== the law's loop ===== -/
section
variable {M : MI} {d : Nat} {as : List AV} {σ : Mem} {K : Int → Mem → Prop}
/-- no call changes the script -/
theorem am2_keep (h : AM2 M d as σ K) : AM2 M d as σ (fun v σ' => K v σ' ∧ σ' (-4) (-1) = σ (-4) (-1) ∧ ∀ j : Nat, (j : Int) < σ (-4) (-1) → σ' (-4) j = σ (-4) j) := by
  intro l g hrg p e ha hc hk s m args below hf happ hP ht
  obtain ⟨t, o, h1, h2, h3, ⟨⟨⟨v, X', e1, e2, ⟨σ', rfl, hK⟩, hD⟩, hF⟩, hL⟩⟩ := h l g hrg p e ha hc hk s m args below hf happ hP ht
  have p0 : PW g σ := hP.2.2.2.2.2.2.1
  have p1 : PW g σ' := hD.2.2.1
  refine ⟨t, o, h1, h2, h3, ⟨⟨⟨v, X2 σ', e1, e2, ⟨σ', rfl, hK, ?_, fun j hj => ?_⟩, hD⟩, hF⟩, hL⟩⟩
  · rw [p0.2.2.2.2.1, p1.2.2.2.2.1]
  · rw [p0.2.2.2.2.1] at hj
    rw [p0.2.2.2.1 j (by omega), p1.2.2.2.1 j (by omega)]
theorem am2_mono {K' : Int → Mem → Prop} (h : AM2 M d as σ K) (hk : ∀ v σ', K v σ' → K' v σ') : AM2 M d as σ K' := by
  intro l g hrg p e ha hc hk2 s m args below hf happ hP ht
  obtain ⟨t, o, h1, h2, h3, ⟨⟨⟨v, X', e1, e2, ⟨σ', rfl, hK⟩, hD⟩, hF⟩, hL⟩⟩ := h l g hrg p e ha hc hk2 s m args below hf happ hP ht
  exact ⟨t, o, h1, h2, h3, ⟨⟨⟨v, X2 σ', e1, e2, ⟨σ', rfl, hk _ _ hK⟩, hD⟩, hF⟩, hL⟩⟩
end
theorem nc_big : 356 < NC := Nat.le_of_ble_eq_true rfl
def AWL (pos : Nat) (stk : List AV) (loc : Lo) (σ : Mem) (K : Int → HS → Prop) : Prop := AW i_L_law 25 NC (SS NC) pos stk loc (X2 σ) NC (SS NC) K
def LL (i : Int) : Lo := [(3, (0, i)), (2, (2, 356)), (1, (2, 0)), (0, (2, -4))]
/-- a row of the law, its pc and its third number left open -/
noncomputable def rwj (p op a b : Nat) (v : Int) : Bool := match (mT i_L_law)[p]? with
  | some (o, _, a', b', _, v', _) => Nat.beq o op && Nat.beq a' a && Nat.beq b' b && decide (v' = v)
  | none => false
noncomputable def rwk (p op a b c : Nat) (v : Int) : Bool := match (mT i_L_law)[p]? with
  | some (o, _, a', b', c', v', _) => Nat.beq o op && Nat.beq a' a && Nat.beq b' b && Nat.beq c' c && decide (v' = v)
  | none => false
theorem rwj_e {p op a b : Nat} {v : Int} (h : rwj p op a b v = true) : ∃ pc c tl, (mT i_L_law)[p]? = some (op, pc, a, b, c, v, tl) := by
  unfold rwj at h
  split at h
  · rename_i o pc a' b' c v' tl e
    simp only [Bool.and_eq_true, decide_eq_true_eq] at h
    obtain ⟨⟨⟨h1, h2⟩, h3⟩, h4⟩ := h
    rw [bq h1, bq h2, bq h3, h4] at e
    exact ⟨_, _, _, e⟩
  · cases h
theorem rwk_e {p op a b c : Nat} {v : Int} (h : rwk p op a b c v = true) : ∃ pc tl, (mT i_L_law)[p]? = some (op, pc, a, b, c, v, tl) := by
  unfold rwk at h
  split at h
  · rename_i o pc a' b' c v' tl e
    simp only [Bool.and_eq_true, decide_eq_true_eq] at h
    obtain ⟨⟨⟨⟨h1, h2⟩, h3⟩, h5⟩, h4⟩ := h
    rw [bq h1, bq h2, bq h3, bq h5, h4] at e
    exact ⟨_, _, e⟩
  · cases h
noncomputable def argOk (p : Nat) (k : Int) : Bool := rwj p 2 0 2 0 && rwj (p + 1) 2 3 0 0 && rwj (p + 2) 0 0 0 k && rwk (p + 3) 5 0 0 0 0 && rwj (p + 4) 25 903 0 0
theorem la_arg {p : Nat} {i k : Int} {stk : List AV} {σ : Mem} {K : Int → HS → Prop} (h : argOk p k = true) (h0 : 0 ≤ i) (hk : 0 ≤ k) (h1 : i + k < σ (-4) (-1)) (h2 : σ (-4) (-1) ≤ 3072) (g : AWL (p + 5) ((0, σ (-4) (i + k)) :: stk) (LL i) σ K) : AWL p stk (LL i) σ K := by
  unfold argOk at h
  simp only [Bool.and_eq_true] at h
  obtain ⟨⟨⟨⟨a1, a2⟩, a3⟩, a4⟩, a5⟩ := h
  obtain ⟨_, _, _, r1⟩ := rwj_e a1
  obtain ⟨_, _, _, r2⟩ := rwj_e a2
  obtain ⟨_, _, _, r3⟩ := rwj_e a3
  obtain ⟨_, _, r4⟩ := rwk_e a4
  obtain ⟨_, _, _, r5⟩ := rwj_e a5
  refine aw_load (x := -4) ck_L_law r1 rfl ?_
  refine aw_load (x := i) ck_L_law r2 rfl ?_
  refine aw_const ck_L_law r3 ?_
  refine aw_bin ck_L_law r4 ?_
  have e : binI 0 i k = i + k := by unfold binI; rw [if_pos rfl, w32_id (by omega) (by omega)]
  rw [e]
  refine aw_ald ck_L_law r5 (by decide) rfl (by have := nc_big; show (-4 : Int) < (NC : Nat); omega) (by omega) ?_ ?_
  · show i + k < aln (X2 σ) 903 (-4)
    unfold aln
    rw [if_pos rfl]
    exact h1
  · exact g
def argL (σ : Mem) (i : Int) (n : Nat) : List AV := (List.range n).map fun (m : Nat) => (0, σ (-4) (i + 1 + (m : Int)))
theorem argL_succ (σ : Mem) (i : Int) (n : Nat) : (argL σ i (n + 1)).reverse = (0, σ (-4) (i + 1 + n)) :: (argL σ i n).reverse := by
  unfold argL
  rw [List.range_succ, List.map_append, List.reverse_append]
  rfl
theorem la_args {p : Nat} {i : Int} {σ : Mem} {K : Int → HS → Prop} (h0 : 0 ≤ i) (h2 : σ (-4) (-1) ≤ 3072) : ∀ (n : Nat) (stk : List AV), i + n < σ (-4) (-1) → ((List.range n).all fun (m : Nat) => argOk (p + 5 * m) (1 + (m : Int))) = true → AWL (p + 5 * n) ((argL σ i n).reverse ++ stk) (LL i) σ K → AWL p stk (LL i) σ K
  | 0, _, _, _, g => by
    have e : (argL σ i 0).reverse = [] := rfl
    rw [e] at g
    exact g
  | n + 1, stk, h1, h, g => by
    refine la_args h0 h2 n stk (by omega) (List.all_eq_true.mpr fun m hm => List.all_eq_true.mp h m (List.mem_range.mpr (by have := List.mem_range.mp hm; omega))) ?_
    have h9 := List.all_eq_true.mp h n (List.mem_range.mpr (Nat.lt_succ_self n))
    refine la_arg h9 h0 (by omega) (by omega) h2 ?_
    rw [argL_succ] at g
    rw [show i + (1 + (n : Int)) = i + 1 + n by omega, show p + 5 * n + 5 = p + 5 * (n + 1) by omega]
    exact g
theorem argL_len (σ : Mem) (i : Int) (n : Nat) : (argL σ i n).length = n := by unfold argL; simp
theorem argL_keep {σ σ' : Mem} {i : Int} {n : Nat} (h0 : 0 ≤ i) (h1 : i + n < σ (-4) (-1)) (h : ∀ j : Nat, (j : Int) < σ (-4) (-1) → σ' (-4) j = σ (-4) j) : argL σ' i n = argL σ i n := by
  unfold argL
  apply List.map_congr_left
  intro m hm
  have hm := List.mem_range.mp hm
  have h9 := h (i + 1 + m).toNat (by omega)
  rw [show ((i + 1 + m).toNat : Int) = i + 1 + m by omega] at h9
  rw [h9]
/-- a case: X's method, the model's, and a leap if they answer alike -/
noncomputable def caseOk (p n a b : Nat) (w : Bool) : Bool := rwj p 2 1 2 0 && (List.range n).all (fun (m : Nat) => argOk (p + 1 + 5 * m) (1 + (m : Int))) && rwj (p + 1 + 5 * n) 31 a 11 n && rwj (p + 2 + 5 * n) 2 2 2 0 && (List.range n).all (fun (m : Nat) => argOk (p + 3 + 5 * n + 5 * m) (1 + (m : Int))) && rwj (p + 3 + 10 * n) 31 b 12 n && cond w (rwk (p + 4 + 10 * n) 14 1201 0 0 0) (rwk (p + 4 + 10 * n) 16 1201 0 0 0)
def kR (M : MI) : Nat := match mR M with
  | some .long => 1
  | some .int => 0
  | some .boolean => 0
  | _ => 9
theorem push_k {M : MI} {k : Nat} (h : kR M = k) (hk : k < 2) (w : Int) (stk : List AV) : pushR M w stk = (k, w) :: stk := by
  unfold kR at h
  unfold pushR
  split at h
  · rename_i e; rw [e, ← h]
  · rename_i e; rw [e, ← h]
  · rename_i e; rw [e, ← h]
  · omega
theorem la_case {p n a b : Nat} {w : Bool} {i : Int} {σ : Mem} {K : Int → HS → Prop} (h : caseOk p n a b w = true) (hn : n ≤ 5) (ha : a < 250) (hb : b < 250) (ka : kR (callee a) = cond w 1 0) (kb : kR (callee b) = cond w 1 0) (h0 : 0 ≤ i) (h1 : i + n < σ (-4) (-1)) (h2 : σ (-4) (-1) ≤ 3072)
    (hA : AM2 (callee a) 24 ((2, 0) :: argL σ i n) σ (fun w1 σ1 => AM2 (callee b) 24 ((2, 356) :: argL σ i n) σ1 (fun w2 σ2 => w1 = w2 ∧ (σ2 (-4) (-1) = σ (-4) (-1) → (∀ j : Nat, (j : Int) < σ (-4) (-1) → σ2 (-4) j = σ (-4) j) → AWL 1201 [] (LL i) σ2 K)))) : AWL p [] (LL i) σ K := by
  unfold caseOk at h
  simp only [Bool.and_eq_true] at h
  obtain ⟨⟨⟨⟨⟨⟨a1, a2⟩, a3⟩, a4⟩, a5⟩, a6⟩, a7⟩ := h
  obtain ⟨_, _, _, r1⟩ := rwj_e a1
  obtain ⟨_, _, _, r3⟩ := rwj_e a3
  obtain ⟨_, _, _, r4⟩ := rwj_e a4
  obtain ⟨_, _, _, r6⟩ := rwj_e a6
  refine aw_load (x := 0) ck_L_law r1 rfl ?_
  refine la_args (p := p + 1) h0 h2 n _ h1 a2 ?_
  have kA := push_k ka (by cases w <;> decide)
  have kB := push_k kb (by cases w <;> decide)
  have e5 : szS (((cond w 1 0 : Nat), (0 : Int)) :: ([] : List AV)) ≤ 8 := by cases w <;> decide
  refine aw_callv (as := argL σ i n) (mc' := 0) (ms' := 0) (r := 0) (stk := []) (K' := K2 _) ck_L_law r3 (okA2 a ha) (by decide) rfl (by have := nc_big; show (0 : Int) < (NC : Nat); omega) (by rw [argL_len]; rfl) (by decide) (Nat.le_of_eq (Nat.add_zero _)) (Nat.le_of_eq (Nat.add_zero _)) (am2_keep hA) fun w1 X1 _ hX => ?_
  obtain ⟨σ1, rfl, hB, q1, q2⟩ := hX
  rw [Nat.add_zero NC, Nat.add_zero (SS NC)]
  rw [kA, show p + 1 + 5 * n + 1 = p + 2 + 5 * n by omega]
  refine aw_load (x := 356) ck_L_law r4 rfl ?_
  have e6 : argL σ1 i n = argL σ i n := argL_keep h0 h1 q2
  rw [show p + 2 + 5 * n + 1 = p + 3 + 5 * n by omega]
  refine la_args (p := p + 3 + 5 * n) (σ := σ1) h0 (by rw [q1]; exact h2) n _ (by rw [q1]; exact h1) a5 ?_
  rw [e6, show p + 3 + 5 * n + 5 * n = p + 3 + 10 * n by omega]
  refine aw_callv (as := argL σ i n) (mc' := 0) (ms' := 0) (r := 356) (stk := [(cond w 1 0, w1)]) (K' := K2 _) ck_L_law r6 (okA2 b hb) (by decide) rfl (by have := nc_big; show (356 : Int) < (NC : Nat); omega) (by rw [argL_len]; rfl) (by cases w; exact Nat.le_of_ble_eq_true rfl; exact Nat.le_of_ble_eq_true rfl) (Nat.le_of_eq (Nat.add_zero _)) (Nat.le_of_eq (Nat.add_zero _)) (am2_keep hB) fun w2 X2' _ hX => ?_
  obtain ⟨σ2, rfl, ⟨rfl, hC⟩, q3, q4⟩ := hX
  rw [Nat.add_zero NC, Nat.add_zero (SS NC)]
  rw [kB, show p + 3 + 10 * n + 1 = p + 4 + 10 * n by omega]
  have fin : AWL 1201 [] (LL i) σ2 K := hC (q3.trans q1) fun j hj => (q4 j (by rw [q1]; exact hj)).trans (q2 j hj)
  cases w with
  | true =>
    obtain ⟨_, _, r7⟩ := rwk_e a7
    refine aw_lci ck_L_law r7 ?_
    unfold brc
    rw [if_pos rfl]
    exact ⟨fun _ => fin, fun z => absurd rfl z⟩
  | false =>
    obtain ⟨_, _, r7⟩ := rwk_e a7
    refine aw_icmp ck_L_law r7 ?_
    unfold brc
    rw [if_pos rfl]
    exact ⟨fun _ => fin, fun z => absurd rfl z⟩
