/-! ===== the whole invariant ===== -/
def Inv (σ : Mem) : Prop := I_tape σ ∧ I_ways σ ∧ I_acts σ ∧ (I_shelf σ ∧ I_byte σ) ∧ (I_stat σ ∧ I_bod σ) ∧ (I_giv σ ∧ I_GW σ) ∧ I_rr σ ∧ I_even σ ∧ I_swap σ ∧ I_fresh σ ∧ I_part σ
theorem Inv_count {σ : Mem} (h : Inv σ) : I_count σ := by
  obtain ⟨h1, h2, h3, h4, h5, h6, h7, h8, h9, h10, h11⟩ := h
  exact ⟨h6.1.1, h2.1, h1.1, h8.1.1, h3.1⟩
def pM (b j : Int) : Prop := (b = 356 ∧ j = 0) ∨ (357 ≤ b ∧ b ≤ 359 ∧ j < 5) ∨ (b = 360 ∧ j < 40) ∨ (361 ≤ b ∧ b ≤ 362 ∧ j < 35) ∨ (363 ≤ b ∧ b ≤ 365 ∧ j < 280)
def pTape (b j : Int) : Prop := b = 2 ∨ b = 367 ∨ (b = 1 ∧ j = 1) ∨ (b = 356 ∧ j = 13)
def pWays (b j : Int) : Prop := b = 262 ∨ b = 366 ∨ (b = 0 ∧ j = 5) ∨ (b = 356 ∧ j = 10)
def pActs (b j : Int) : Prop := (b = 341 ∧ j = 1) ∨ (b = 356 ∧ j = 26) ∨ b = 342 ∨ b = 374
def pShelf (b j : Int) : Prop := (344 ≤ b ∧ b < 356) ∨ (375 ≤ b ∧ b ≤ 378) ∨ (b = 356 ∧ j = 10) ∨ b = 366
def pRR (b j : Int) : Prop := fRun b j ∨ (b = 282 ∧ (j = 2 ∨ j = 3)) ∨ b = 283 ∨ b = 284
def pEven (b j : Int) : Prop := (b = 332 ∧ 1 ≤ j ∧ j ≤ 4) ∨ (b = 356 ∧ (j = 20 ∨ j = 21 ∨ j = 23 ∨ j = 24)) ∨ b = 333 ∨ b = 373
theorem tape_fr {σ s : Mem} (f : ∀ b j, pTape b j → s b j = σ b j) (h : I_tape σ) : I_tape s := by
  unfold pTape at f
  obtain ⟨a, b, c, e⟩ := h
  have e1 := f 1 1 (by omega)
  have e2 := f 356 13 (by omega)
  refine ⟨?_, ?_, ?_, fun i i0 i1 => ?_⟩
  · rw [e1, e2]; exact a
  · rw [e2]; exact b
  · rw [e2]; exact c
  · rw [e2] at i1
    rw [f 2 i (by omega), f 367 i (by omega)]; exact e i i0 i1
theorem ways_fr {σ s : Mem} (f : ∀ b j, pWays b j → s b j = σ b j) (h : I_ways σ) : I_ways s := by
  unfold pWays at f
  obtain ⟨a, b, c, e⟩ := h
  have e1 := f 0 5 (by omega)
  have e2 := f 356 10 (by omega)
  refine ⟨?_, ?_, ?_, fun i i0 i1 => ?_⟩
  · rw [e1, e2]; exact a
  · rw [e2]; exact b
  · rw [e2]; exact c
  · rw [e2] at i1
    rw [f 262 i (by omega), f 366 i (by omega)]; exact e i i0 i1
theorem acts_fr {σ s : Mem} (f : ∀ b j, pActs b j → s b j = σ b j) (h : I_acts σ) : I_acts s := by
  unfold pActs at f
  obtain ⟨a, b, c, e⟩ := h
  have e1 := f 341 1 (by omega)
  have e2 := f 356 26 (by omega)
  refine ⟨?_, ?_, ?_, fun i i0 i1 i2 => ?_⟩
  · rw [e1, e2]; exact a
  · rw [e2]; exact b
  · rw [e2]; exact c
  · rw [e2] at i1
    rw [f 342 i (by omega), f 374 i (by omega)]; exact e i i0 i1 i2
/-- more ways, the old ones as they were -/
theorem shelf_fr {σ s : Mem} (f : ∀ b j, ((344 ≤ b ∧ b < 356) ∨ (375 ≤ b ∧ b ≤ 378)) → s b j = σ b j) (hw : σ 356 10 ≤ s 356 10) (hk : ∀ j, j < σ 356 10 → s 366 j = σ 366 j) (h : I_shelf σ) : I_shelf s := by
  intro z z0 z1
  unfold I_sh
  rw [f (344 + 2 * z) _ (by omega), f 375 _ (by omega), f 376 _ (by omega), f (344 + 2 * z) 2 (by omega), f (344 + 2 * z) 3 (by omega), f (344 + 2 * z) 4 (by omega), f 377 _ (by omega)]
  rcases h z z0 z1 with h | ⟨e1, e2, e3, e4, e5⟩ | ⟨e1, e2, e3, e4, e5, e6, e7⟩
  · exact Or.inl h
  · have e3 : σ 375 z < σ 356 10 := e3
    exact Or.inr (Or.inl ⟨e1, e2, Int.lt_of_lt_of_le e3 hw, e4, by rw [hk _ e3]; exact e5⟩)
  · refine Or.inr (Or.inr ⟨e1, e2, e3, e4, e5, e6, fun k k0 k1 => ?_⟩)
    rw [f _ _ (by omega), f 378 _ (by omega)]
    exact e7 k k0 k1
theorem byte_fr {σ s : Mem} (f : ∀ b j, (b = 376 ∨ b = 378) → s b j = σ b j) (h : I_byte σ) : I_byte s := by
  intro z i z0 z1 e i0 i1
  rw [f _ _ (by omega)] at e
  rw [f _ _ (by omega)]
  exact h z i z0 z1 e i0 i1
theorem stat_fr {σ s : Mem} (f : ∀ b j, b < 0 → s b j = σ b j) (h : I_stat σ ∧ I_bod σ) : I_stat s ∧ I_bod s := by
  refine ⟨?_, fun i i0 i1 => ?_⟩
  · unfold I_stat
    rw [f _ _ (by decide), f _ _ (by decide), f _ _ (by decide), f _ _ (by decide), f _ _ (by decide), f _ _ (by decide), f _ _ (by decide)]
    exact h.1
  · rw [f _ _ (by decide)]; exact h.2 i i0 i1
theorem GW_fr2 {σ s : Mem} {g : Int} (hA : GA σ g) (f : ∀ b j, (fA g b j ∨ fB g b j) → 357 ≤ b → ¬ b = 359 → s b j = σ b j) (h : GW σ g) : GW s g := by
  have hn := hA.1
  have e7 : s 357 g = σ 357 g := f _ _ (Or.inl (by unfold fA; omega)) (by decide) (by decide)
  have e8 : s 358 g = σ 358 g := f _ _ (Or.inl (by unfold fA; omega)) (by decide) (by decide)
  refine ⟨fun p p0 p1 => ?_, fun t t0 t1 => ?_⟩
  · have hz := hA.2.2.2.1 p p0 (by omega)
    have h1 := h.1 p p0 (by omega)
    rw [e8, f 362 (7 * g + p) (Or.inl (by unfold fA; omega)) (by decide) (by decide)]
    exact GWl_congr (fun i i0 i1 => f _ _ (Or.inl (by unfold fA; omega)) (by decide) (by decide)) (fun t t0 t1 => f _ _ (Or.inr (by unfold fB; omega)) (by decide) (by decide)) h1
  · rw [e7, f 360 (8 * g + t) (Or.inl (by unfold fA; omega)) (by decide) (by decide), sm_congr (f' := fun v => if σ 361 (7 * g + v) = t then 1 else 0) _ 0 0 (fun v v0 v1 => by
      show (if s 361 (7 * g + v) = t then (1 : Int) else 0) = _
      rw [f 361 (7 * g + v) (Or.inr (by unfold fB; omega)) (by decide) (by decide)])]
    exact h.2 t t0 (by omega)
theorem IGW_fr {σ s : Mem} (hI : I_giv σ) (e : s 356 0 = σ 356 0) (f : ∀ b j, pM b j → ¬ b = 359 → ¬ b = 365 → s b j = σ b j) (h : I_GW σ) : I_GW s := by
  intro g g0 g1
  rw [e] at g1
  have h5 := hI.2.2.1
  exact GW_fr2 (hI.2.2.2 g g0 g1).1 (fun b j z w q => f b j (by unfold fA fB at z; unfold pM; omega) q (by unfold fA fB at z; omega)) (h g g0 g1)
theorem rr_fr {σ s : Mem} (hI : I_giv σ) (f : ∀ b j, pRR b j → s b j = σ b j) (f2 : s 356 0 ≥ σ 356 0) (f3 : ∀ j, j < σ 356 0 → s 357 j = σ 357 j ∧ s 358 j = σ 358 j) (f4 : ∀ j, j < 56 * σ 356 0 → s 364 j = σ 364 j) (h : I_rr σ) : I_rr s := by
  unfold pRR at f
  rcases h with ⟨a, b⟩ | ⟨g, S, h, hc⟩
  · exact Or.inl ⟨by rw [f 0 7 (by unfold fRun; omega)]; exact a, by rw [f 356 14 (by unfold fRun; omega)]; exact b⟩
  · have g1 := h.1.2
    refine Or.inr ⟨g, S, RunIs_fr hI (fun b j z => f b j (Or.inl z)) f2 f3 h, RC_fr (fun b j z => ?_) (f3 g g1).1 (f3 g g1).2 hc⟩
    by_cases q : b = 364
    · rw [q]; exact f4 j (by omega)
    · exact f b j (by omega)
theorem even_fr {σ s : Mem} (f : ∀ b j, pEven b j → s b j = σ b j) (f2 : s 356 0 ≥ σ 356 0) (f3 : ∀ j, j < σ 356 0 → s 357 j = σ 357 j) (h : I_even σ) : I_even s := by
  unfold pEven at f
  exact ⟨EvL_fr (fun b j z => f b j (by omega)) f2 f3 h.1, EvI_fr (fun b j z => f b j (by omega)) h.2⟩
theorem swap_fr {σ s : Mem} (hI : I_giv σ) (hI2 : I_giv s) (c : ∀ g, 0 ≤ g → g < s 356 0 → s (4 + 43 * g) 10 = 0 ∨ (g < σ 356 0 ∧ (∀ j, 10 ≤ j → j ≤ 12 → s (4 + 43 * g) j = σ (4 + 43 * g) j) ∧ ∀ b j, (fA g b j ∨ fB g b j) → 357 ≤ b → s b j = σ b j)) (h : I_swap σ) : I_swap s := by
  intro g g0 g1
  rcases c g g0 g1 with z | ⟨z1, z2, z3⟩
  · exact Or.inl z
  · rw [z2 10 (by decide) (by decide), z2 11 (by decide) (by decide), z2 12 (by decide) (by decide), swG_cells (hI.2.2.2 g g0 z1).1 (hI2.2.2.2 g g0 g1).1 z3]
    exact h g g0 z1
theorem fresh_fr {σ s : Mem} (hI : I_giv σ) (c : ∀ g k, 0 ≤ g → g < s 356 0 → 0 ≤ k → k < 7 → s (33 + 43 * g + 2 * k) 2 = 0 ∨ (g < σ 356 0 ∧ (∀ b j, (b = 33 + 43 * g + 2 * k ∨ b = 34 + 43 * g + 2 * k) → s b j = σ b j) ∧ (∀ b j, (fA g b j ∨ fB g b j) → 357 ≤ b → s b j = σ b j) ∧ (5 ≤ k → ∀ b j, fC g b j → 357 ≤ b → s b j = σ b j))) (h : I_fresh σ) : I_fresh s := by
  intro g k g0 g1 k0 k7
  rcases c g k g0 g1 k0 k7 with z | ⟨z1, z2, z3, z4⟩
  · exact Or.inl z
  · have e7 : s 357 g = σ 357 g := z3 _ _ (Or.inl (by unfold fA; omega)) (by decide)
    have e8 : s 358 g = σ 358 g := z3 _ _ (Or.inl (by unfold fA; omega)) (by decide)
    have sf := sh_fr (σ := σ) (s := s) (g := g) (k := k) z3 z4
    have fx : ∀ j, s (33 + 43 * g + 2 * k) j = σ (33 + 43 * g + 2 * k) j := fun j => z2 _ _ (Or.inl rfl)
    rw [fx 2, e7, e8, sf.1, sf.2.1, sf.2.2]
    rcases h g k g0 z1 k0 k7 with z | z
    · exact Or.inl z
    · refine Or.inr ⟨z.1, ⟨by rw [fx 1]; exact z.2.1.1, by rw [fx 3]; exact z.2.1.2.1, by rw [fx 4]; exact z.2.1.2.2⟩, fun p t p0 p1 t0 t1 => ?_⟩
      rw [z2 _ _ (Or.inr (by omega))]
      exact z.2.2 p t p0 p1 t0 t1
theorem part_fr {σ s : Mem} (hI : I_giv σ) (f0 : s 356 0 ≥ σ 356 0) (f1 : ∀ b j, 316 ≤ b → b ≤ 318 → s b j = σ b j) (f2 : ∀ b j, (((b = 357 ∨ b = 358) ∧ j < σ 356 0) ∨ (b = 360 ∧ j < 8 * σ 356 0) ∨ (b = 365 ∧ j < 56 * σ 356 0)) → s b j = σ b j) (h : I_part σ) : I_part s := by
  have e3 : s 316 3 = σ 316 3 := f1 _ _ (by decide) (by decide)
  obtain ⟨h1, h2⟩ := h
  refine ⟨?_, fun g g0 g1 e => ?_⟩
  · rcases h1 with z | ⟨g, g0, g1, z⟩
    · exact Or.inl (by rw [e3]; exact z)
    · exact Or.inr ⟨g, g0, by omega, by rw [e3]; exact z⟩
  · rw [e3] at e
    have gb : g < σ 356 0 := by
      rcases h1 with z | ⟨g', g0', g1', z⟩
      · omega
      · omega
    obtain ⟨l, hl, hS⟩ := h2 g g0 gb e
    have c1 : cam s g = cam σ g := funext fun t => by
      unfold cam; split
      · exact f2 _ _ (by omega)
      · rfl
    have c2 : ctb s g = ctb σ g := funext fun x => by
      unfold ctb; split
      · exact f2 _ _ (by omega)
      · rfl
    rw [f2 357 g (by omega), f2 358 g (by omega), c1, c2]
    exact ⟨l, hl, PtS_fr f1 hS⟩
/-- the pieces of which a call speaks, and the rest by what it leaves as it was -/
def pSwap (b j : Int) : Prop := pM b j ∨ (4 ≤ b ∧ b < 219 ∧ (b - 4) % 43 = 0 ∧ 10 ≤ j ∧ j ≤ 12)
def pFresh (b j : Int) : Prop := pM b j ∨ (33 ≤ b ∧ b < 219 ∧ 29 ≤ (b - 4) % 43)
def pPart (b j : Int) : Prop := pM b j ∨ (316 ≤ b ∧ b ≤ 318)
theorem Inv_T {σ s : Mem} (T : Int → Int → Prop) (h : Inv σ) (f : ∀ b j, ¬ T b j → s b j = σ b j) (d0 : ∀ b j, (b < 0 ∨ (b = 356 ∧ j = 0)) → ¬ T b j)
    (d1 : (∀ b j, pTape b j → ¬ T b j) ∨ I_tape s) (d2 : (∀ b j, pWays b j → ¬ T b j) ∨ I_ways s) (d3 : (∀ b j, pActs b j → ¬ T b j) ∨ I_acts s) (d4 : (∀ b j, pShelf b j → ¬ T b j) ∨ (I_shelf s ∧ I_byte s))
    (d6 : (∀ b j, fG b j → ¬ T b j) ∨ I_giv s) (d6b : ∀ b j, pM b j → ¬ T b j) (d7 : (∀ b j, pRR b j → ¬ T b j) ∨ I_rr s) (d8 : (∀ b j, pEven b j → ¬ T b j) ∨ I_even s)
    (d9 : (∀ b j, pSwap b j → ¬ T b j) ∨ I_swap s) (d10 : (∀ b j, pFresh b j → ¬ T b j) ∨ I_fresh s) (d11 : (∀ b j, pPart b j → ¬ T b j) ∨ I_part s) : Inv s := by
  obtain ⟨h1, h2, h3, h4, h5, h6, h7, h8, h9, h10, h11⟩ := h
  have h5b := h6.1.2.2.1
  have hG : I_giv s := d6.elim (fun d => I_giv_fr (fun b j z => f b j (d b j z)) h6.1) id
  have e0 : s 356 0 = σ 356 0 := f _ _ (d0 _ _ (Or.inr ⟨rfl, rfl⟩))
  have fM : ∀ b j, pM b j → s b j = σ b j := fun b j z => f b j (d6b b j z)
  refine ⟨d1.elim (fun d => tape_fr (fun b j z => f b j (d b j z)) h1) id, d2.elim (fun d => ways_fr (fun b j z => f b j (d b j z)) h2) id, d3.elim (fun d => acts_fr (fun b j z => f b j (d b j z)) h3) id, ?_, stat_fr (fun b j z => f b j (d0 b j (Or.inl z))) h5, ⟨hG, IGW_fr h6.1 e0 (fun b j z _ _ => fM b j z) h6.2⟩, ?_, ?_, ?_, ?_, ?_⟩
  · rcases d4 with d | d
    · have fs : ∀ b j, pShelf b j → s b j = σ b j := fun b j z => f b j (d b j z)
      unfold pShelf at fs
      exact ⟨shelf_fr (fun b j z => fs b j (by omega)) (by rw [fs 356 10 (by omega)]; exact Int.le_refl _) (fun j _ => fs _ _ (by omega)) h4.1, byte_fr (fun b j z => fs b j (by omega)) h4.2⟩
    · exact d
  · rcases d7 with d | d
    · exact rr_fr h6.1 (fun b j z => f b j (d b j z)) (by omega) (fun j j1 => ⟨fM _ _ (by unfold pM; omega), fM _ _ (by unfold pM; omega)⟩) (fun j j1 => fM _ _ (by unfold pM; omega)) h7
    · exact d
  · rcases d8 with d | d
    · exact even_fr (fun b j z => f b j (d b j z)) (by omega) (fun j j1 => fM _ _ (by unfold pM; omega)) h8
    · exact d
  · rcases d9 with d | d
    · exact swap_fr h6.1 hG (fun g g0 g1 => Or.inr ⟨by omega, fun j j0 j1 => f _ _ (d _ _ (by unfold pSwap; omega)), fun b j z w => fM b j (by unfold fA fB at z; unfold pM; omega)⟩) h9
    · exact d
  · rcases d10 with d | d
    · refine fresh_fr h6.1 (fun g k g0 g1 k0 k7 => Or.inr ⟨by omega, fun b j z => f _ _ (d _ _ ?_), fun b j z w => fM b j (by unfold fA fB at z; unfold pM; omega), fun _ b j z w => fM b j (by unfold fC at z; unfold pM; omega)⟩) h10
      have m0 := gmod (g := g) 0 k0 k7 (by decide) (by decide)
      have m1 := gmod (g := g) 1 k0 k7 (by decide) (by decide)
      rw [Int.add_zero] at m0
      refine Or.inr ?_
      rcases z with z | z
      · rw [z]; omega
      · rw [z, show 34 + 43 * g + 2 * k = 33 + 43 * g + 2 * k + 1 by omega]; omega
    · exact d
  · rcases d11 with d | d
    · exact part_fr h6.1 (by omega) (fun b j z w => f b j (d b j (Or.inr ⟨z, w⟩))) (fun b j z => fM b j (by unfold pM; omega)) h11
    · exact d
