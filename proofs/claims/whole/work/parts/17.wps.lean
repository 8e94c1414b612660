theorem cb {n k : Nat} {P Q : Prop} (h : cond (Nat.beq n k) P Q) : (n = k ∧ P) ∨ (¬ n = k ∧ Q) := by
  cases q : Nat.beq n k with
  | true => rw [q] at h; exact Or.inl ⟨Nat.eq_of_beq_eq_true q, h⟩
  | false => rw [q] at h; exact Or.inr ⟨Nat.ne_of_beq_eq_false q, h⟩
theorem cbF {n k : Nat} {P : Prop} (h : cond (Nat.beq n k) P False) : n = k ∧ P := by
  rcases cb h with h | ⟨-, h⟩
  · exact h
  · exact h.elim
theorem cbN {n k : Nat} {P : Prop} (h : cond (Nat.beq n k) False P) : ¬ n = k ∧ P := by
  rcases cb h with ⟨-, h⟩ | h
  · exact h.elim
  · exact h
theorem cT {b : Bool} {P : Prop} (h : cond b P False) : b = true ∧ P := by
  cases b with
  | true => exact ⟨rfl, h⟩
  | false => exact h.elim
theorem aw_sub {M : MI} {d mc ms pos cells slots : Nat} {stk : List AV} {loc loc' : Lo} {X : HS} {K : Int → HS → Prop} (h : ∀ q ∈ loc', q ∈ loc) (k : AW M d mc ms pos stk loc' X cells slots K) : AW M d mc ms pos stk loc X cells slots K := by
  intro g p l e s m args below meth c0 Fz H locs ls hF hK hS hB hR hD hs hl hst hlo hc1 hc2
  refine k g p l e s m args below meth c0 Fz H locs ls hF hK hS hB hR hD hs ⟨hl.1, hl.2.1, fun q hq => ?_⟩ hst (fun q hq => hlo q (h q hq)) hc1 hc2
  obtain ⟨z, hz, rfl⟩ := List.mem_map.mp hq
  exact hl.2.2 _ (List.mem_map.mpr ⟨z, h z hz, rfl⟩)
theorem lk1_mem {i : Nat} : ∀ {l : Lo}, ∀ q ∈ lk1 l i, q ∈ l
  | [], q, h => by cases h
  | (j, t, x) :: r, q, h => by
    unfold lk1 at h
    cases e : Nat.beq i j with
    | true =>
      rw [e] at h
      rw [List.mem_singleton.mp h]
      exact List.mem_cons_self
    | false =>
      rw [e] at h
      exact List.mem_cons_of_mem _ (lk1_mem q h)
theorem pick_mem {l : Lo} : ∀ {is : List Nat}, ∀ q ∈ pick l is, q ∈ l
  | [], q, h => by cases h
  | i :: is, q, h => by
    rcases List.mem_append.mp h with h | h
    · exact lk1_mem q h
    · exact pick_mem q h
theorem tsw_e {x : Int} {go : Nat → Prop} {dflt : Nat} : ∀ (tl : List Nat) (v : Int), tsw x v go dflt tl → go (if v ≤ x ∧ x < v + tl.length then tl.getD (x - v).toNat 0 else dflt)
  | [], v, h => by
    rw [if_neg (by simp)]
    exact h
  | t :: r, v, h => by
    obtain ⟨h1, h2⟩ := h
    by_cases e : x = v
    · subst e
      rw [if_pos (by simp; omega)]
      simpa using h1 rfl
    · have h3 := tsw_e r (v + 1) (h2 e)
      by_cases c : v + 1 ≤ x ∧ x < v + 1 + r.length
      · rw [if_pos c] at h3
        rw [if_pos (by simp; omega)]
        have e2 : (x - v).toNat = (x - (v + 1)).toNat + 1 := by omega
        rw [e2]
        exact h3
      · rw [if_neg c] at h3
        rw [if_neg (by simp; omega)]
        exact h3
theorem lswP_e {x : Int} {go : Nat → Prop} {dflt : Nat} : ∀ (tl : List Nat), lswP x go dflt tl → go (lsw tl dflt x)
  | [], h => h
  | [_], h => h
  | k :: t :: r, h => by
    obtain ⟨h1, h2⟩ := h
    unfold lsw
    by_cases e : x = (k : Int)
    · rw [if_pos e]; exact h1 e
    · rw [if_neg e]; exact lswP_e r (h2 e)
theorem sK_lt {r : Int} {a : Nat} (h : sK r = a) (ha : a < 900) : r < (NC : Int) := by
  obtain ⟨k, rfl, hk⟩ := ref_of h ha
  have := shp_lt hk ha
  omega
