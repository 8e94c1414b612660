-- ===== row
theorem fill_J {d : Nat} {K : Int → Mem → Prop} {b v : Int} (hk : sK b = 101) (hn : sN b ≤ 1000) : ∀ (m : Nat) (σ : Mem) (k : Int), 0 ≤ k → k + (m : Int) = sN b → (∀ σ2 : Mem, (∀ i, k ≤ i → i < sN b → σ2 b i = v) → (∀ x j, ¬ (x = b ∧ k ≤ j ∧ j < sN b) → σ2 x j = σ x j) → K 0 σ2) → AW2 i_Arrays_fill_J (d + 1) 5 [] [(0, (2, b)), (1, (1, v)), (3, (0, k)), (4, (0, sN b))] σ K := by
  intro m
  induction m with
  | zero => intro σ k k0 e h; exact s_Arrays_fill_J_5 ⟨fun c => absurd c (by omega), fun _ => h σ (fun i a c => absurd a (by omega)) (fun _ _ _ => rfl)⟩
  | succ m ih =>
    intro σ k k0 e h
    refine s_Arrays_fill_J_5 ⟨fun c => chkK_i hk (inb_i k0 c ?_), fun c => absurd c (by omega)⟩
    rw [w32_id (by omega) (by omega)]
    refine ih _ (k + 1) (by omega) (by omega) (fun σ2 h1 h2 => h σ2 (fun i a c2 => ?_) (fun x j q => ?_))
    · by_cases z : i = k
      · subst z; rw [h2 b i (by omega), st_self]
      · exact h1 i (by omega) c2
    · rw [h2 x j (by omega), st_ne (by omega)]
theorem row_loop {d : Nat} {K : Int → Mem → Prop} {s : Int} (a : 0 ≤ s) (b : s < 6) : ∀ (m : Nat) (σ : Mem) (k : Int), 0 ≤ k → k + (m : Int) = 60 → (∀ σ2 : Mem, (∀ i, k ≤ i → i < 60 → σ2 378 (60 * s + i) = 0) → (∀ x j, ¬ (x = 378 ∧ 60 * s + k ≤ j ∧ j < 60 * s + 60) → σ2 x j = σ x j) → K 1 σ2) → AW2 i_M_row (d + 1) 34 [] [(0, (2, 356)), (1, (0, s)), (4, (0, k))] σ K := by
  intro m
  induction m with
  | zero => intro σ k k0 e h; exact s_M_row_34 ⟨fun c => absurd c (by omega), fun _ => h σ (fun i a c => absurd a (by omega)) (fun _ _ _ => rfl)⟩
  | succ m ih =>
    intro σ k k0 e h
    rw [show (k : Int) = k from rfl]
    refine s_M_row_34 ⟨fun c => ?_, fun c => absurd c (by omega)⟩
    rw [w32_id (x := 60 * s) (by omega) (by omega), w32_id (x := 60 * s + k) (by omega) (by omega), w32_id (x := k + 1) (by omega) (by omega)]
    refine inb_i (by omega) (by omega) ?_
    refine ih _ (k + 1) (by omega) (by omega) (fun σ2 h1 h2 => h σ2 (fun i a c2 => ?_) (fun x j q => ?_))
    · by_cases z : i = k
      · subst z; rw [h2 _ _ (by omega), st_self]
      · exact h1 i (by omega) c2
    · rw [h2 x j (by omega), st_ne (by omega)]
theorem I_shelf_row {σ σ2 : Mem} {s t n : Int} (hI : I_shelf σ) (ht : 0 ≤ t ∧ t ≤ 4) (hn : 0 ≤ n ∧ n ≤ 60)
    (a1 : σ2 (344 + 2 * s) 1 = 2) (a2 : σ2 (344 + 2 * s) 3 = t) (a3 : σ2 (344 + 2 * s) 4 = n)
    (a4 : σ2 375 s = -1) (a5 : σ2 376 s = t) (a6 : σ2 377 s = n) (a7 : ∀ i, 0 ≤ i → i < 60 → σ2 (344 + 1 + 2 * s) i = σ2 378 (60 * s + i))
    (f : ∀ x j : Int, ¬ (x = 344 + 2 * s) → ¬ (x = 344 + 1 + 2 * s) → ¬ (x = 375 ∧ j = s) → ¬ (x = 376 ∧ j = s) → ¬ (x = 377 ∧ j = s) → ¬ (x = 378 ∧ 60 * s ≤ j ∧ j < 60 * s + 60) → σ2 x j = σ x j) (a : 0 ≤ s) (b : s < 6) : I_shelf σ2 := by
  intro z z0 z1
  by_cases q : z = s
  · subst q
    exact Or.inr (Or.inr ⟨a1, a4, by rw [a5]; exact ht, by rw [a2, a5], by rw [a3, a6], by rw [a6]; exact hn, a7⟩)
  · unfold I_sh
    rw [f (344 + 2 * z) 1 (by omega) (by omega) (by omega) (by omega) (by omega) (by omega), f 375 z (by omega) (by omega) (by omega) (by omega) (by omega) (by omega), f 376 z (by omega) (by omega) (by omega) (by omega) (by omega) (by omega), f 356 10 (by omega) (by omega) (by omega) (by omega) (by omega) (by omega), f (344 + 2 * z) 2 (by omega) (by omega) (by omega) (by omega) (by omega) (by omega), f 366 _ (by omega) (by omega) (by omega) (by omega) (by omega) (by omega), f (344 + 2 * z) 3 (by omega) (by omega) (by omega) (by omega) (by omega) (by omega), f (344 + 2 * z) 4 (by omega) (by omega) (by omega) (by omega) (by omega) (by omega), f 377 z (by omega) (by omega) (by omega) (by omega) (by omega) (by omega)]
    rcases hI z z0 z1 with h | h | ⟨e1, e2, e3, e4, e5, e6, e7⟩
    · exact Or.inl h
    · exact Or.inr (Or.inl h)
    · refine Or.inr (Or.inr ⟨e1, e2, e3, e4, e5, e6, fun k2 k0 k1 => ?_⟩)
      rw [f _ _ (by omega) (by omega) (by omega) (by omega) (by omega) (by omega), f 378 _ (by omega) (by omega) (by omega) (by omega) (by omega) (by omega)]
      exact e7 k2 k0 k1
