-- ===== row
theorem fill_J {d : Nat} {K : Int → Mem → Prop} {b v : Int} (hk : sK b = 101) (hn : sN b ≤ 1000) : ∀ (m : Nat) (σ : Mem) (k : Int), 0 ≤ k → k + (m : Int) = sN b → (∀ σ2 : Mem, (∀ i, k ≤ i → i < sN b → σ2 b i = v) → (∀ x j, ¬ (x = b ∧ k ≤ j ∧ j < sN b) → σ2 x j = σ x j) → K 0 σ2) → AW2 i_Arrays_fill_J (d + 1) 5 [] [(0, (2, b)), (1, (1, v)), (3, (0, k)), (4, (0, sN b))] σ K := by
  intro m
  induction m with
  | zero => intro σ k k0 e h; exact s_Arrays_fill_J_5 ⟨fun c => absurd c (by omega), fun _ => h σ (fun i a c => absurd a (by omega)) (fun _ _ _ => rfl)⟩
  | succ m ih =>
    intro σ k k0 e h
    refine s_Arrays_fill_J_5 ⟨fun c => chkK_i hk (inb_i k0 c ?_), fun c => absurd c (by omega)⟩
    rw [w32_id (by omega) (by omega)]
    refine ih _ (k + 1) (by omega) (by omega) (fun σ2 h1 h2 => h σ2 (fun i a c2 => ?_) (fun x j q => ?_))
    · by_cases z : i = k
      · subst z; rw [h2 b i (by omega), st_self]
      · exact h1 i (by omega) c2
    · rw [h2 x j (by omega), st_ne (by omega)]
theorem row_loop {d : Nat} {K : Int → Mem → Prop} {s : Int} (a : 0 ≤ s) (b : s < 6) : ∀ (m : Nat) (σ : Mem) (k : Int), 0 ≤ k → k + (m : Int) = 60 → (∀ σ2 : Mem, (∀ i, k ≤ i → i < 60 → σ2 378 (60 * s + i) = 0) → (∀ x j, ¬ (x = 378 ∧ 60 * s + k ≤ j ∧ j < 60 * s + 60) → σ2 x j = σ x j) → K 1 σ2) → AW2 i_M_row (d + 1) 34 [] [(0, (2, 356)), (1, (0, s)), (4, (0, k))] σ K := by
  intro m
  induction m with
  | zero => intro σ k k0 e h; exact s_M_row_34 ⟨fun c => absurd c (by omega), fun _ => h σ (fun i a c => absurd a (by omega)) (fun _ _ _ => rfl)⟩
  | succ m ih =>
    intro σ k k0 e h
    rw [show (k : Int) = k from rfl]
    refine s_M_row_34 ⟨fun c => ?_, fun c => absurd c (by omega)⟩
    rw [w32_id (x := 60 * s) (by omega) (by omega), w32_id (x := 60 * s + k) (by omega) (by omega), w32_id (x := k + 1) (by omega) (by omega)]
    refine inb_i (by omega) (by omega) ?_
    refine ih _ (k + 1) (by omega) (by omega) (fun σ2 h1 h2 => h σ2 (fun i a c2 => ?_) (fun x j q => ?_))
    · by_cases z : i = k
      · subst z; rw [h2 _ _ (by omega), st_self]
      · exact h1 i (by omega) c2
    · rw [h2 x j (by omega), st_ne (by omega)]
theorem I_shelf_row {σ σ2 : Mem} {s t n : Int} (hI : I_shelf σ) (ht : 0 ≤ t ∧ t ≤ 4) (hn : 0 ≤ n ∧ n ≤ 60)
    (a1 : σ2 (344 + 2 * s) 1 = 2) (a2 : σ2 (344 + 2 * s) 3 = t) (a3 : σ2 (344 + 2 * s) 4 = n)
    (a4 : σ2 375 s = -1) (a5 : σ2 376 s = t) (a6 : σ2 377 s = n) (a7 : ∀ i, 0 ≤ i → i < 60 → σ2 (344 + 1 + 2 * s) i = σ2 378 (60 * s + i))
    (f : ∀ x j : Int, ¬ (x = 344 + 2 * s) → ¬ (x = 344 + 1 + 2 * s) → ¬ (x = 375 ∧ j = s) → ¬ (x = 376 ∧ j = s) → ¬ (x = 377 ∧ j = s) → ¬ (x = 378 ∧ 60 * s ≤ j ∧ j < 60 * s + 60) → σ2 x j = σ x j) (a : 0 ≤ s) (b : s < 6) : I_shelf σ2 := by
  intro z z0 z1
  by_cases q : z = s
  · subst q
    exact Or.inr (Or.inr ⟨a1, a4, by rw [a5]; exact ht, by rw [a2, a5], by rw [a3, a6], by rw [a6]; exact hn, a7⟩)
  · unfold I_sh
    rw [f (344 + 2 * z) 1 (by omega) (by omega) (by omega) (by omega) (by omega) (by omega), f 375 z (by omega) (by omega) (by omega) (by omega) (by omega) (by omega), f 376 z (by omega) (by omega) (by omega) (by omega) (by omega) (by omega), f 356 10 (by omega) (by omega) (by omega) (by omega) (by omega) (by omega), f (344 + 2 * z) 2 (by omega) (by omega) (by omega) (by omega) (by omega) (by omega), f 366 _ (by omega) (by omega) (by omega) (by omega) (by omega) (by omega), f (344 + 2 * z) 3 (by omega) (by omega) (by omega) (by omega) (by omega) (by omega), f (344 + 2 * z) 4 (by omega) (by omega) (by omega) (by omega) (by omega) (by omega), f 377 z (by omega) (by omega) (by omega) (by omega) (by omega) (by omega)]
    rcases hI z z0 z1 with h | h | ⟨e1, e2, e3, e4, e5, e6, e7⟩
    · exact Or.inl h
    · exact Or.inr (Or.inl h)
    · refine Or.inr (Or.inr ⟨e1, e2, e3, e4, e5, e6, fun k2 k0 k1 => ?_⟩)
      rw [f _ _ (by omega) (by omega) (by omega) (by omega) (by omega) (by omega), f 378 _ (by omega) (by omega) (by omega) (by omega) (by omega) (by omega)]
      exact e7 k2 k0 k1
theorem call_row {d : Nat} {σ : Mem} {s t n : Int} {P : Int → Int → Mem → Prop} (hI : I_shelf σ) (h : ∀ r σ2, (∀ b j, ¬ (344 ≤ b ∧ b < 344 + 12) → ¬ b = 375 → ¬ b = 376 → ¬ b = 377 → ¬ b = 378 → σ2 b j = σ b j) → I_shelf σ2 → (I_byte σ → I_byte σ2) → P r r σ2) :
    AM2 i_X_row (d + 3) [(2, 0), (0, s), (0, t), (0, n)] σ (fun w1 σ1 => AM2 i_M_row (d + 3) [(2, 356), (0, s), (0, t), (0, n)] σ1 (fun w2 σ2 => P w1 w2 σ2)) := by
  have same : ∀ r, P r r σ := fun r => h r σ (fun _ _ _ _ _ _ _ => rfl) hI id
  refine e_X_row fun _ _ _ => X_isShelf_ok (fun a b => br1 ?_) (fun c => br0 ?_)
  · refine ⟨fun c => ?_, fun c => ⟨fun c2 => ⟨fun c3 => ?_, fun c3 => ⟨fun c4 => ?_, fun c4 => ?_⟩⟩, fun c2 => ?_⟩⟩
    · exact e_M_row fun _ _ _ => M_isShelf_ok (fun _ _ => br1 (M_in_ok (fun x _ => absurd x (by omega)) (fun _ => br0 (same _)))) (fun z => absurd ⟨a, b⟩ z)
    · exact e_M_row fun _ _ _ => M_isShelf_ok (fun _ _ => br1 (M_in_ok (fun _ _ => br1 ⟨fun _ => same _, fun z => absurd c3 z⟩) (fun z => absurd z (by omega)))) (fun z => absurd ⟨a, b⟩ z)
    · exact e_M_row fun _ _ _ => M_isShelf_ok (fun _ _ => br1 (M_in_ok (fun _ _ => br1 ⟨fun z => absurd z c3, fun _ => ⟨fun _ => same _, fun z => absurd c4 z⟩⟩) (fun z => absurd z (by omega)))) (fun z => absurd ⟨a, b⟩ z)
    · obtain ⟨p1, p2, p3, p4, p5⟩ := sh_at s a b
      rw [p1]
      refine inb_i a b (chkK_i p2 (e_Shelf_keepRow fun _ _ => chkK_i p2 (chkK_i p2 (chkK_i p2 (chkK_i p2 ?_)))))
      rw [p3]
      refine e_Arrays_fill_J fun _ => ⟨by rw [p4]; exact ⟨by decide, by decide⟩, ?_⟩
      refine fill_J p4 (by rw [p5]; decide) 60 _ 0 (Int.le_refl 0) (by rw [p5]; rfl) (fun σ2 g1 g2 => ?_)
      rw [p5] at g1 g2
      refine e_M_row fun _ _ _ => M_isShelf_ok (fun _ _ => br1 (M_in_ok (fun _ _ => br1 ⟨fun z => absurd z c3, fun _ => ⟨fun z => absurd z c4, fun _ => inb_i a b (inb_i a b (inb_i a b ?_))⟩⟩) (fun z => absurd z (by omega)))) (fun z => absurd ⟨a, b⟩ z)
      refine row_loop a b 60 _ 0 (Int.le_refl 0) rfl (fun σ3 g3 g4 => ?_)
      have f : ∀ x j : Int, ¬ (x = 344 + 2 * s) → ¬ (x = 344 + 1 + 2 * s) → ¬ (x = 375 ∧ j = s) → ¬ (x = 376 ∧ j = s) → ¬ (x = 377 ∧ j = s) → ¬ (x = 378 ∧ 60 * s ≤ j ∧ j < 60 * s + 60) → σ3 x j = σ x j := fun x j h1 h2 h3 h4 h5 h6 => by
        rw [g4 x j (by omega), st_ne h5, st_ne h4, st_ne h3, g2 x j (by omega), st_ne (fun q => h1 q.1), st_ne (fun q => h1 q.1), st_ne (fun q => h1 q.1)]
      refine h 1 σ3 (fun x j h1 h2 h3 h4 h5 => f x j (by omega) (by omega) (by omega) (by omega) (by omega) (by omega)) (I_shelf_row (s := s) (t := t) (n := n) hI (by omega) (by omega) ?_ ?_ ?_ ?_ ?_ ?_ ?_ f a b) (fun hY z i z0 z1 e i0 i1 => ?_)
      · rw [g4 _ _ (by omega), st_ne (by omega), st_ne (by omega), st_ne (by omega), g2 _ _ (by omega), st_ne (by omega), st_ne (by omega), st_self]
      · rw [g4 _ _ (by omega), st_ne (by omega), st_ne (by omega), st_ne (by omega), g2 _ _ (by omega), st_ne (by omega), st_self]
      · rw [g4 _ _ (by omega), st_ne (by omega), st_ne (by omega), st_ne (by omega), g2 _ _ (by omega), st_self]
      · rw [g4 _ _ (by omega), st_ne (by omega), st_ne (by omega), st_self]
      · rw [g4 _ _ (by omega), st_ne (by omega), st_self]
      · rw [g4 _ _ (by omega), st_self]
      · intro i i0 i1
        rw [g3 i i0 i1, g4 _ _ (by omega), st_ne (by omega), st_ne (by omega), st_ne (by omega), g1 i i0 i1]
      · by_cases q : z = s
        · rw [q, g3 i i0 i1]; exact ⟨by decide, by decide⟩
        · rw [f _ _ (by omega) (by omega) (by omega) (by omega) (by omega) (by omega)] at e
          rw [f _ _ (by omega) (by omega) (by omega) (by omega) (by omega) (by omega)]
          exact hY z i z0 z1 e i0 i1
    · exact e_M_row fun _ _ _ => M_isShelf_ok (fun _ _ => br1 (M_in_ok (fun _ _ => absurd c2 (by omega)) (fun _ => br0 (same _)))) (fun z => absurd ⟨a, b⟩ z)
  · exact e_M_row fun _ _ _ => M_isShelf_ok (fun a b => absurd ⟨a, b⟩ c) (fun _ => br0 (same _))
