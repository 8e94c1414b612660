-- ===== numbers
theorem i32_to {x : Int} (h : r32 x) : (Int32.ofInt x).toInt = x := Int32.toInt_ofInt_of_le (by unfold r32 at h; omega) (by unfold r32 at h; omega)
theorem i64_to {x : Int} (h : r64 x) : (Int64.ofInt x).toInt = x := Int64.toInt_ofInt_of_le (by unfold r64 at h; omega) (by unfold r64 at h; omega)
theorem w32_r (x : Int) : r32 (w32 x) := by unfold r32 w32; omega
theorem w64_r (x : Int) : r64 (w64 x) := by unfold r64 w64; omega
theorem toInt_r (x : Int32) : r32 x.toInt := by
  have h1 := x.toInt_lt
  have h2 := x.le_toInt
  unfold r32
  omega
theorem toInt_rl (x : Int64) : r64 x.toInt := by
  have h1 := x.toInt_lt
  have h2 := x.le_toInt
  unfold r64
  omega
theorem ofInt_w32 (x : Int) : Int32.ofInt (w32 x) = Int32.ofInt x := by
  apply Int32.toInt_inj.mp
  rw [i32_to (w32_r x), Int32.toInt_ofInt]
  unfold w32
  rw [Int.bmod_def]
  simp only [Int32.size]
  split <;> omega
theorem ofInt_w64 (x : Int) : Int64.ofInt (w64 x) = Int64.ofInt x := by
  apply Int64.toInt_inj.mp
  rw [i64_to (w64_r x), Int64.toInt_ofInt]
  unfold w64
  rw [Int.bmod_def]
  simp only [Int64.size]
  split <;> omega
theorem i32_lt {x y : Int} (hx : r32 x) (hy : r32 y) : Int32.ofInt x < Int32.ofInt y ↔ x < y := by rw [Int32.lt_iff_toInt_lt, i32_to hx, i32_to hy]
theorem i32_le {x y : Int} (hx : r32 x) (hy : r32 y) : Int32.ofInt x ≤ Int32.ofInt y ↔ x ≤ y := by rw [Int32.le_iff_toInt_le, i32_to hx, i32_to hy]
theorem i32_eq {x y : Int} (hx : r32 x) (hy : r32 y) : Int32.ofInt x = Int32.ofInt y ↔ x = y := by rw [← Int32.toInt_inj, i32_to hx, i32_to hy]
theorem i64_lt {x y : Int} (hx : r64 x) (hy : r64 y) : Int64.ofInt x < Int64.ofInt y ↔ x < y := by rw [Int64.lt_iff_toInt_lt, i64_to hx, i64_to hy]
theorem i64_eq {x y : Int} (hx : r64 x) (hy : r64 y) : Int64.ofInt x = Int64.ofInt y ↔ x = y := by rw [← Int64.toInt_inj, i64_to hx, i64_to hy]
theorem r32_0 : r32 0 := by unfold r32; omega
theorem i32_0 : Int32.ofInt 0 = 0 := rfl
theorem i32_clamp {x : Int} (h : r32 x) : (Int32.ofInt x).toNatClampNeg = x.toNat := by
  show (Int32.ofInt x).toInt.toNat = x.toNat
  rw [i32_to h]
theorem i32_in {x : Int} {n : Nat} (h : r32 x) (h0 : 0 ≤ x) (h1 : x < (n : Int)) : vp_in (Int32.ofInt x) n := by
  unfold vp_in
  rw [← i32_0, i32_lt h r32_0, i32_clamp h]
  omega
-- ===== the list of cells
theorem wsL_len (g : Gx) (X : HS) : (wsL g X).length = X.2.1 := by simp [wsL]
theorem wsL_get {g : Gx} {X : HS} {k : Nat} (h : k < X.2.1) : (wsL g X)[k]? = some (gB g + k, cellE g X.1 X.2.2 k) := by
  simp [wsL, h]
theorem wsL_inv {g : Gx} {X : HS} {k : Nat} {q : Nat × va_E} (h : (wsL g X)[k]? = some q) : k < X.2.1 ∧ q = (gB g + k, cellE g X.1 X.2.2 k) := by
  have hk : k < X.2.1 := by
    rw [← wsL_len g X]
    exact (List.getElem?_eq_some_iff.mp h).1
  rw [wsL_get hk] at h
  exact ⟨hk, (Option.some.inj h).symm⟩
theorem wsL_D (g : Gx) (X : HS) : va_D (AA g) (wsL g X) := by
  refine ⟨fun i j p q hi hj e => ?_, fun k q hk => ?_⟩
  · obtain ⟨-, rfl⟩ := wsL_inv hi
    obtain ⟨-, rfl⟩ := wsL_inv hj
    dsimp only at e
    omega
  · obtain ⟨-, rfl⟩ := wsL_inv hk
    exact Nat.le_add_right _ _
/-- one cell written anew -/
theorem wsL_set {g : Gx} {X X' : HS} {k : Nat} {e : va_E} (hn : X'.2.1 = X.2.1) (hk : cellE g X'.1 X'.2.2 k = e) (ho : ∀ j, j ≠ k → cellE g X'.1 X'.2.2 j = cellE g X.1 X.2.2 j) : (wsL g X).set k (gB g + k, e) = wsL g X' := by
  apply List.ext_getElem?
  intro i
  rw [List.getElem?_set]
  by_cases hi : i < X.2.1
  · rw [wsL_len, wsL_get hi, wsL_get (show i < X'.2.1 by omega)]
    by_cases hki : k = i
    · subst hki
      rw [if_pos rfl, if_pos hi, hk]
    · rw [if_neg hki, ho i (fun q => hki q.symm)]
  · have h1 : (wsL g X)[i]? = none := List.getElem?_eq_none (by rw [wsL_len]; omega)
    have h2 : (wsL g X')[i]? = none := List.getElem?_eq_none (by rw [wsL_len]; omega)
    rw [h1, h2, wsL_len]
    by_cases hki : k = i
    · subst hki
      rw [if_pos rfl, if_neg hi]
    · rw [if_neg hki]
theorem va_Pset {g : Gx} {X X' : HS} {H : Heap} {k : Nat} {e : va_E} (h : va_P (gD g) cls ((wsL g X).set k (gB g + k, e)) H) (hn : X'.2.1 = X.2.1) (hk : cellE g X'.1 X'.2.2 k = e) (ho : ∀ j, j ≠ k → cellE g X'.1 X'.2.2 j = cellE g X.1 X.2.2 j) : va_P (gD g) cls (wsL g X') H := by
  rw [← wsL_set hn hk ho]
  exact h
theorem st_self (σ : Mem) (a i v : Int) : st σ a i v a i = v := by simp [st]
theorem st_ne {σ : Mem} {a i v b j : Int} (h : ¬ (b = a ∧ j = i)) : st σ a i v b j = σ b j := by unfold st; rw [if_neg h]
theorem st_at (σ : Mem) (a i v b j : Int) : st σ a i v b j = if b = a ∧ j = i then v else σ b j := rfl
theorem cellE_st {g : Gx} {π : Int → Int → Int} {σ : Mem} {a : Nat} {i v : Int} {k : Nat} (h : k ≠ a) : cellE g π (st σ a i v) k = cellE g π σ k := by
  have e : ∀ j : Int, st σ a i v k j = σ k j := fun j => st_ne (fun q => h (by omega))
  unfold cellE
  simp only [e]
  have e2 : fldV g π (st σ a i v) k (shp k).1 = fldV g π σ k (shp k).1 := by
    funext j
    unfold fldV
    simp only [e]
  rw [e2]
theorem PW_st {g : Gx} {σ : Mem} {a : Nat} {i v : Int} (h : PW g σ) (hr : ∀ j : Nat, (j : Int) = i → rgk (kdAt a j) v) : PW g (st σ a i v) := by
  obtain ⟨h1, h2, h3, h4, h5, h6⟩ := h
  refine ⟨fun k j hk => ?_, fun j hj => ?_, fun j hj => ?_, fun j hj => ?_, ?_, h6⟩
  · by_cases c : ((k : Int) = a ∧ (j : Int) = i)
    · have hka : k = a := by omega
      subst hka
      rw [st_at, if_pos c]
      exact hr j c.2
    · rw [st_ne c]
      exact h1 k j hk
  · rw [st_ne (fun q => by omega)]; exact h2 j hj
  · rw [st_ne (fun q => by omega)]; exact h3 j hj
  · rw [st_ne (fun q => by omega)]; exact h4 j hj
  · rw [st_ne (fun q => by omega)]; exact h5
