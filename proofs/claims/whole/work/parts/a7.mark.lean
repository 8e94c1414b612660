/-! ===== .. behind tables told, rounds, new givings ===== -/
theorem Inv_G {σ s : Mem} (T : Int → Int → Prop) (h : Inv σ) (f : ∀ b j, ¬ T b j → s b j = σ b j) (d0 : ∀ b j, b < 0 → ¬ T b j)
    (d1 : (∀ b j, pTape b j → ¬ T b j) ∨ I_tape s) (d2 : ∀ b j, pWays b j → ¬ T b j) (d3 : ∀ b j, pActs b j → ¬ T b j) (d4 : ∀ b j, pShelf b j → ¬ T b j)
    (nG : I_giv s) (nW : I_GW s) (f2 : s 356 0 ≥ σ 356 0) (f3 : ∀ b j, (b = 357 ∨ b = 358) → j < σ 356 0 → ¬ T b j) (f4 : ∀ j, j < 56 * σ 356 0 → ¬ T 364 j)
    (d7 : ∀ b j, pRR b j → ¬ T b j) (d8 : ∀ b j, pEven b j → ¬ T b j) (n9 : I_swap s) (n10 : I_fresh s) (n11 : I_part s) : Inv s := by
  obtain ⟨h1, h2, h3, h4, h5, h6, h7, h8, h9, h10, h11⟩ := h
  have fs : ∀ b j, pShelf b j → s b j = σ b j := fun b j z => f b j (d4 b j z)
  unfold pShelf at fs
  have g3 : ∀ j, j < σ 356 0 → s 357 j = σ 357 j ∧ s 358 j = σ 358 j := fun j z => ⟨f _ _ (f3 _ _ (Or.inl rfl) z), f _ _ (f3 _ _ (Or.inr rfl) z)⟩
  exact ⟨d1.elim (fun d => tape_fr (fun b j z => f b j (d b j z)) h1) id, ways_fr (fun b j z => f b j (d2 b j z)) h2, acts_fr (fun b j z => f b j (d3 b j z)) h3,
    ⟨shelf_fr (fun b j z => fs b j (by omega)) (by rw [fs 356 10 (by omega)]; exact Int.le_refl _) (fun j _ => fs _ _ (by omega)) h4.1, byte_fr (fun b j z => fs b j (by omega)) h4.2⟩,
    stat_fr (fun b j z => f b j (d0 b j z)) h5, ⟨nG, nW⟩, rr_fr h6.1 (fun b j z => f b j (d7 b j z)) f2 g3 (fun j z => f _ _ (f4 j z)) h7, even_fr (fun b j z => f b j (d8 b j z)) f2 (fun j z => (g3 j z).1) h8, n9, n10, n11⟩
def t_TE (g b j : Int) : Prop := (25 + 43 * g ≤ b ∧ b ≤ 31 + 43 * g) ∨ (b = 365 ∧ 56 * g ≤ j ∧ j < 56 * g + 56) ∨ (b = 33 + 43 * g + 2 * 5 ∧ j = 2) ∨ (b = 33 + 43 * g + 2 * 6 ∧ j = 2) ∨ (b = 316 ∧ j = 3)
theorem inv_TE {σ s : Mem} {g : Int} (h : Inv σ) (g0 : 0 ≤ g) (g1 : g < σ 356 0) (ht : TE σ s g) (n : I_giv s) : Inv s := by
  obtain ⟨⟨z5, z6, z7⟩, f⟩ := ht
  obtain ⟨h1, h2, h3, h4, h5, h6, h7, h8, h9, h10, h11⟩ := id h
  have h5b := h6.1.2.2.1
  have f : ∀ b j, ¬ t_TE g b j → s b j = σ b j := fun b j z => by
    unfold t_TE at z
    exact f b j (by omega) (by omega) (by omega) (by omega) (by omega)
  have e0 : s 356 0 = σ 356 0 := f _ _ (by unfold t_TE; omega)
  refine Inv_G (t_TE g) h f (fun b j w z => by unfold t_TE at z; omega) (Or.inl (fun b j w z => by unfold pTape at w; unfold t_TE at z; omega)) (fun b j w z => by unfold pWays at w; unfold t_TE at z; omega) (fun b j w z => by unfold pActs at w; unfold t_TE at z; omega) (fun b j w z => by unfold pShelf at w; unfold t_TE at z; omega)
    n (IGW_fr h6.1 e0 (fun b j z w q => f b j (by unfold pM at z; unfold t_TE; omega)) h6.2) (by omega) (fun b j w w2 z => by unfold t_TE at z; omega) (fun j w z => by unfold t_TE at z; omega) (fun b j w z => by unfold pRR fRun at w; unfold t_TE at z; omega) (fun b j w z => by unfold pEven at w; unfold t_TE at z; omega) ?_ ?_ ?_
  · exact swap_fr h6.1 n (fun g2 a0 a1 => Or.inr ⟨by omega, fun j j0 j1 => f _ _ (by unfold t_TE; omega), fun b j z w => f b j (by unfold fA fB at z; unfold t_TE; omega)⟩) h9
  · refine fresh_fr h6.1 (fun g2 k a0 a1 k0 k7 => ?_) h10
    by_cases q : g2 = g ∧ 5 ≤ k
    · refine Or.inl ?_
      obtain ⟨q1, q2⟩ := q
      rw [q1]
      rcases (by omega : k = 5 ∨ k = 6) with e | e
      · rw [e]; exact z5
      · rw [e]; exact z6
    · refine Or.inr ⟨by omega, fun b j z => f b j ?_, fun b j z w => f b j (by unfold fA fB at z; unfold t_TE; omega), fun k5 b j z w => f b j (by unfold fC at z; unfold t_TE; omega)⟩
      unfold t_TE
      rcases (by omega : g2 = g ∨ g2 ≤ g - 1 ∨ g + 1 ≤ g2) with e | e | e
      · rw [e] at z; omega
      · omega
      · omega
  · exact ⟨Or.inl z7, fun g2 a0 a1 e => by omega⟩
def t_RE (g b j : Int) : Prop := (33 + 43 * g ≤ b ∧ b < 47 + 43 * g ∧ j = 2) ∨ (b = 4 + 43 * g ∧ (j = 10 ∨ j = 2)) ∨ (b = 359 ∧ j = g)
theorem inv_RE {σ s : Mem} {g : Int} (h : Inv σ) (g0 : 0 ≤ g) (g1 : g < σ 356 0) (ht : RE σ s g) (n : I_giv s) : Inv s := by
  obtain ⟨zk, z10, f⟩ := ht
  obtain ⟨h1, h2, h3, h4, h5, h6, h7, h8, h9, h10, h11⟩ := id h
  have h5b := h6.1.2.2.1
  have f : ∀ b j, ¬ t_RE g b j → s b j = σ b j := fun b j z => by
    unfold t_RE at z
    exact f b j (by omega) (by omega) (by omega)
  have e0 : s 356 0 = σ 356 0 := f _ _ (by unfold t_RE; omega)
  refine Inv_G (t_RE g) h f (fun b j w z => by unfold t_RE at z; omega) (Or.inl (fun b j w z => by unfold pTape at w; unfold t_RE at z; omega)) (fun b j w z => by unfold pWays at w; unfold t_RE at z; omega) (fun b j w z => by unfold pActs at w; unfold t_RE at z; omega) (fun b j w z => by unfold pShelf at w; unfold t_RE at z; omega)
    n (IGW_fr h6.1 e0 (fun b j z w q => f b j (by unfold pM at z; unfold t_RE; omega)) h6.2) (by omega) (fun b j w w2 z => by unfold t_RE at z; omega) (fun j w z => by unfold t_RE at z; omega) (fun b j w z => by unfold pRR fRun at w; unfold t_RE at z; omega) (fun b j w z => by unfold pEven at w; unfold t_RE at z; omega) ?_ ?_ ?_
  · refine swap_fr h6.1 n (fun g2 a0 a1 => ?_) h9
    by_cases q : g2 = g
    · rw [q]; exact Or.inl z10
    · exact Or.inr ⟨by omega, fun j j0 j1 => f _ _ (by unfold t_RE; omega), fun b j z w => f b j (by unfold fA fB at z; unfold t_RE; omega)⟩
  · refine fresh_fr h6.1 (fun g2 k a0 a1 k0 k7 => ?_) h10
    by_cases q : g2 = g
    · rw [q]; exact Or.inl (zk k k0 k7)
    · exact Or.inr ⟨by omega, fun b j z => f b j (by unfold t_RE; omega), fun b j z w => f b j (by unfold fA fB at z; unfold t_RE; omega), fun k5 b j z w => f b j (by unfold fC at z; unfold t_RE; omega)⟩
  · exact part_fr h6.1 (by omega) (fun b j z w => f b j (by unfold t_RE; omega)) (fun b j z => f b j (by unfold t_RE; omega)) h11
def t_NE (g b j : Int) : Prop := b = 1 ∨ (b = 0 ∧ j = 2) ∨ (b = 356 ∧ (j = 0 ∨ j = 13 ∨ j = 31)) ∨ fNX g b j ∨ fNM g b j ∨ (b = 359 ∧ j = g) ∨ (b = 365 ∧ 56 * g ≤ j ∧ j < 56 * g + 56)
theorem inv_NE {σ s : Mem} (h : Inv σ) (ht : NewE σ s) (n : I_giv s) (n2 : I_GW s) (n3 : I_tape s) : Inv s := by
  obtain ⟨zz, f⟩ := ht
  obtain ⟨h1, h2, h3, h4, h5, h6, h7, h8, h9, h10, h11⟩ := id h
  have h5b := h6.1.2.2.1
  have h5a := h6.1.2.1
  have f : ∀ b j, ¬ t_NE (σ 356 0) b j → s b j = σ b j := fun b j z => by
    unfold t_NE at z
    exact f b j (by omega) (by omega) (by omega) (fun q => z (Or.inr (Or.inr (Or.inr (Or.inl q))))) (fun q => z (Or.inr (Or.inr (Or.inr (Or.inr (Or.inl q)))))) (by omega) (by omega)
  have e0 : σ 356 0 ≤ s 356 0 ∧ (s 356 0 = σ 356 0 ∨ (s 356 0 = σ 356 0 + 1 ∧ σ 356 0 < 5)) := by
    rcases zz with z | ⟨z, z2, _⟩
    · omega
    · omega
  refine Inv_G (t_NE (σ 356 0)) h f (fun b j w z => by unfold t_NE fNX fNM at z; omega) (Or.inr n3) (fun b j w z => by unfold pWays at w; unfold t_NE fNX fNM at z; omega) (fun b j w z => by unfold pActs at w; unfold t_NE fNX fNM at z; omega) (fun b j w z => by unfold pShelf at w; unfold t_NE fNX fNM at z; omega)
    n n2 (by omega) (fun b j w w2 z => by unfold t_NE fNX fNM at z; omega) (fun j w z => by unfold t_NE fNX fNM at z; omega) (fun b j w z => by unfold pRR fRun at w; unfold t_NE fNX fNM at z; omega) (fun b j w z => by unfold pEven at w; unfold t_NE fNX fNM at z; omega) ?_ ?_ ?_
  · refine swap_fr h6.1 n (fun g2 a0 a1 => ?_) h9
    by_cases q : g2 = σ 356 0
    · rcases zz with z | ⟨_, _, _, z⟩
      · omega
      · rw [q]; exact Or.inl z
    · exact Or.inr ⟨by omega, fun j j0 j1 => f _ _ (by unfold t_NE fNX fNM; omega), fun b j z w => f b j (by unfold fA fB at z; unfold t_NE fNX fNM; omega)⟩
  · refine fresh_fr h6.1 (fun g2 k a0 a1 k0 k7 => ?_) h10
    by_cases q : g2 = σ 356 0
    · rcases zz with z | ⟨_, _, z, _⟩
      · omega
      · rw [q]; exact Or.inl (z k k0 k7)
    · exact Or.inr ⟨by omega, fun b j z => f b j (by unfold t_NE fNX fNM; omega), fun b j z w => f b j (by unfold fA fB at z; unfold t_NE fNX fNM; omega), fun k5 b j z w => f b j (by unfold fC at z; unfold t_NE fNX fNM; omega)⟩
  · exact part_fr h6.1 (by omega) (fun b j z w => f b j (by unfold t_NE fNX fNM; omega)) (fun b j z => f b j (by unfold t_NE fNX fNM; omega)) h11
theorem rr_run {s : Mem} (h : I_run s) (e : s 282 3 = 0) : I_rr s := by
  rcases h with h | ⟨g, S, h⟩
  · exact Or.inl h
  · exact Or.inr ⟨g, S, h, Or.inl e⟩
