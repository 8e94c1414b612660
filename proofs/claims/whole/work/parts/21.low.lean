-- ===== small things
theorem w32_id {x : Int} (h1 : -2147483648 ≤ x) (h2 : x ≤ 2147483647) : w32 x = x := by unfold w32; omega
theorem w64_id {x : Int} (h1 : -9223372036854775808 ≤ x) (h2 : x ≤ 9223372036854775807) : w64 x = x := by unfold w64; omega
theorem br1 {P Q : Prop} (q : Q) : ((1 : Int) = 0 → P) ∧ (¬ (1 : Int) = 0 → Q) := ⟨fun h => absurd h (by decide), fun _ => q⟩
theorem br0 {P Q : Prop} (p : P) : ((0 : Int) = 0 → P) ∧ (¬ (0 : Int) = 0 → Q) := ⟨fun _ => p, fun h => absurd rfl h⟩
theorem st_row {σ : Mem} {a i v b : Int} (h : ¬ b = a) : st σ a i v b = σ b := by
  funext j
  exact st_ne (fun q => h q.1)
theorem M_in_ok {d : Nat} {K : Int → Mem → Prop} {σ : Mem} {v lo hi : Int} (h1 : lo ≤ v → v ≤ hi → K 1 σ) (h0 : ¬ (lo ≤ v ∧ v ≤ hi) → K 0 σ) : AM2 i_M_in (d + 1) [(0, v), (0, lo), (0, hi)] σ K :=
  e_M_in fun _ _ _ => ⟨fun c => h0 (by omega), fun c => ⟨fun c2 => h0 (by omega), fun c2 => h1 (by omega) (by omega)⟩⟩
/-- how many givings the model has, and the like -/
def mG (σ : Mem) : Int := σ 356 0
theorem M_isGiving_ok {d : Nat} {K : Int → Mem → Prop} {σ : Mem} {g : Int} (hn : 0 ≤ mG σ ∧ mG σ ≤ 5) (h1 : 0 ≤ g → g < mG σ → K 1 σ) (h0 : ¬ (0 ≤ g ∧ g < mG σ) → K 0 σ) : AM2 i_M_isGiving (d + 2) [(2, 356), (0, g)] σ K := by
  unfold mG at *
  refine e_M_isGiving fun _ => ?_
  rw [w32_id (by omega) (by omega)]
  refine M_in_ok (fun a b => ?_) (fun c => ?_)
  · exact boolP_i (Or.inr rfl) (h1 (by omega) (by omega))
  · exact boolP_i (Or.inl rfl) (h0 (by omega))
theorem M_isPerson_ok {d : Nat} {K : Int → Mem → Prop} {σ : Mem} {g p : Int} (hn : 0 ≤ mG σ ∧ mG σ ≤ 5) (hp : ∀ g, 0 ≤ g → g < mG σ → 1 ≤ σ 357 g ∧ σ 357 g ≤ 7) (h1 : 0 ≤ g → g < mG σ → 0 ≤ p → p < σ 357 g → K 1 σ) (h0 : ¬ ((0 ≤ g ∧ g < mG σ) ∧ 0 ≤ p ∧ p < σ 357 g) → K 0 σ) : AM2 i_M_isPerson (d + 3) [(2, 356), (0, g), (0, p)] σ K := by
  refine e_M_isPerson fun _ _ => M_isGiving_ok hn (fun a b => ?_) (fun c => br0 (h0 (by omega)))
  have h2 := hp g a b
  refine br1 (inb_i a (by omega) ?_)
  rw [w32_id (by omega) (by omega)]
  exact M_in_ok (fun _ _ => br1 (h1 (by omega) (by omega) (by omega) (by omega))) (fun _ => br0 (h0 (by omega)))
theorem M_isThing_ok {d : Nat} {K : Int → Mem → Prop} {σ : Mem} {g t : Int} (hn : 0 ≤ mG σ ∧ mG σ ≤ 5) (hp : ∀ g, 0 ≤ g → g < mG σ → 1 ≤ σ 358 g ∧ σ 358 g ≤ 8) (h1 : 0 ≤ g → g < mG σ → 0 ≤ t → t < σ 358 g → K 1 σ) (h0 : ¬ ((0 ≤ g ∧ g < mG σ) ∧ 0 ≤ t ∧ t < σ 358 g) → K 0 σ) : AM2 i_M_isThing (d + 3) [(2, 356), (0, g), (0, t)] σ K := by
  refine e_M_isThing fun _ _ => M_isGiving_ok hn (fun a b => ?_) (fun c => br0 (h0 (by omega)))
  have h2 := hp g a b
  refine br1 (inb_i a (by omega) ?_)
  rw [w32_id (by omega) (by omega)]
  exact M_in_ok (fun _ _ => br1 (h1 (by omega) (by omega) (by omega) (by omega))) (fun _ => br0 (h0 (by omega)))
theorem M_isWay_ok {d : Nat} {K : Int → Mem → Prop} {σ : Mem} {w : Int} (hn : 0 ≤ σ 356 10 ∧ σ 356 10 ≤ 15) (h1 : 0 ≤ w → w < σ 356 10 → K 1 σ) (h0 : ¬ (0 ≤ w ∧ w < σ 356 10) → K 0 σ) : AM2 i_M_isWay (d + 2) [(2, 356), (0, w)] σ K := by
  refine e_M_isWay fun _ => ?_
  rw [w32_id (by omega) (by omega)]
  refine M_in_ok (fun a b => ?_) (fun c => ?_)
  · exact boolP_i (Or.inr rfl) (h1 (by omega) (by omega))
  · exact boolP_i (Or.inl rfl) (h0 (by omega))
theorem M_isShelf_ok {d : Nat} {K : Int → Mem → Prop} {σ : Mem} {s : Int} (h1 : 0 ≤ s → s < 6 → K 1 σ) (h0 : ¬ (0 ≤ s ∧ s < 6) → K 0 σ) : AM2 i_M_isShelf (d + 2) [(0, s)] σ K := by
  refine e_M_isShelf fun _ => ?_
  refine M_in_ok (fun a b => ?_) (fun c => ?_)
  · exact boolP_i (Or.inr rfl) (h1 (by omega) (by omega))
  · exact boolP_i (Or.inl rfl) (h0 (by omega))
theorem M_here_ok {d : Nat} {K : Int → Mem → Prop} {σ : Mem} (hn : 0 ≤ σ 356 13 ∧ σ 356 13 ≤ 120) (ha : 0 ≤ σ 356 31) (h : K (if σ 356 31 < σ 356 13 then σ 367 (σ 356 31) else -1) σ) : AM2 i_M_here (d + 1) [(2, 356)] σ K := by
  refine e_M_here ⟨fun c => inb_i ha (by omega) ?_, fun c => ?_⟩
  · rw [if_pos c] at h; exact h
  · rw [if_neg c] at h; exact h
-- the same of the class
theorem X_isGiving_ok {d : Nat} {K : Int → Mem → Prop} {σ : Mem} {g : Int} (h1 : 0 ≤ g → g < σ 0 2 → K 1 σ) (h0 : ¬ (0 ≤ g ∧ g < σ 0 2) → K 0 σ) : AM2 i_X_isGiving (d + 1) [(2, 0), (0, g)] σ K :=
  e_X_isGiving fun _ => ⟨fun c => h0 (by omega), fun c => ⟨fun c2 => h1 (by omega) c2, fun c2 => h0 (by omega)⟩⟩
theorem X_isShelf_ok {d : Nat} {K : Int → Mem → Prop} {σ : Mem} {s : Int} (h1 : 0 ≤ s → s < 6 → K 1 σ) (h0 : ¬ (0 ≤ s ∧ s < 6) → K 0 σ) : AM2 i_X_isShelf (d + 1) [(0, s)] σ K :=
  e_X_isShelf fun _ => ⟨fun c => h0 (by omega), fun c => ⟨fun c2 => h1 (by omega) c2, fun c2 => h0 (by omega)⟩⟩
