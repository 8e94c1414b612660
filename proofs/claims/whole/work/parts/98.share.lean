-- ===== share, stops
theorem gmod {g k : Int} (e : Int) (k0 : 0 ≤ k) (k7 : k < 7) (e0 : 0 ≤ e) (e1 : e ≤ 1) : (33 + 43 * g + 2 * k + e - 4) % 43 = 29 + 2 * k + e := by
  rw [show 33 + 43 * g + 2 * k + e - 4 = (29 + 2 * k + e) + 43 * g by omega, Int.add_mul_emod_self_left]
  exact Int.emod_eq_of_lt (by omega) (by omega)
/-- what is fresh is so -/
def I_fresh (σ : Mem) : Prop := ∀ g k, 0 ≤ g → g < σ 356 0 → 0 ≤ k → k < 7 → σ (33 + 43 * g + 2 * k) 2 = 0 ∨ (¬ σ (33 + 43 * g + 2 * k) 2 = 0 ∧ ShX σ (33 + 43 * g + 2 * k) (σ 357 g) (σ 358 g) (shN σ g k) (shB σ g k) (shH σ g k))
theorem I_fresh_fr {σ s : Mem} (hI : I_giv σ) (f0 : s 356 0 = σ 356 0) (f1 : ∀ b j, 33 ≤ b → b < 219 → 29 ≤ (b - 4) % 43 → s b j = σ b j) (f2 : ∀ g b j, 0 ≤ g → g < σ 356 0 → (fA g b j ∨ fB g b j ∨ fC g b j) → 357 ≤ b → s b j = σ b j) (h : I_fresh σ) : I_fresh s := by
  intro g k g0 g1 k0 k7
  rw [f0] at g1
  have h5 := hI.2.2.1
  have e7 : s 357 g = σ 357 g := f2 g _ _ g0 g1 (Or.inl (by unfold fA; omega)) (by decide)
  have e8 : s 358 g = σ 358 g := f2 g _ _ g0 g1 (Or.inl (by unfold fA; omega)) (by decide)
  have sf := sh_fr (σ := σ) (s := s) (g := g) (k := k) (fun b j z w => f2 g b j g0 g1 (by rcases z with z | z; exact Or.inl z; exact Or.inr (Or.inl z)) w) (fun _ b j z w => f2 g b j g0 g1 (Or.inr (Or.inr z)) w)
  have m0 := gmod (g := g) 0 k0 k7 (by decide) (by decide)
  have m1 := gmod (g := g) 1 k0 k7 (by decide) (by decide)
  have fx : ∀ j, s (33 + 43 * g + 2 * k) j = σ (33 + 43 * g + 2 * k) j := fun j => f1 _ _ (by omega) (by omega) (by rw [Int.add_zero] at m0; omega)
  have hn := (hI.2.2.2 g g0 g1).1.1
  rw [fx 2, e7, e8, sf.1, sf.2.1, sf.2.2]
  rcases h g k g0 g1 k0 k7 with z | z
  · exact Or.inl z
  · refine Or.inr ⟨z.1, ⟨by rw [fx 1]; exact z.2.1.1, by rw [fx 3]; exact z.2.1.2.1, by rw [fx 4]; exact z.2.1.2.2⟩, fun p t p0 p1 t0 t1 => ?_⟩
    rw [f1 _ _ (by omega) (by omega) (by rw [m1]; omega)]
    exact z.2.2 p t p0 p1 t0 t1
/-- what calls about shares may change -/
def sE (b j : Int) : Prop := (4 ≤ b ∧ b < 219 ∧ 29 ≤ (b - 4) % 43) ∨ (219 ≤ b ∧ b < 262) ∨ (285 ≤ b ∧ b ≤ 305) ∨ (307 ≤ b ∧ b ≤ 315) ∨ (b = 356 ∧ (j = 43 ∨ j = 44 ∨ j = 48 ∨ j = 49)) ∨ (357 ≤ b ∧ b ≤ 359 ∧ 5 ≤ j) ∨ (b = 360 ∧ 40 ≤ j) ∨ (361 ≤ b ∧ b ≤ 362 ∧ 35 ≤ j) ∨ (363 ≤ b ∧ b ≤ 365 ∧ 280 ≤ j) ∨ (379 ≤ b ∧ b ≤ 384) ∨ (387 ≤ b ∧ b ≤ 401)
def SE (σ σ2 : Mem) : Prop := ∀ b j, ¬ sE b j → σ2 b j = σ b j
theorem SE_r (σ : Mem) : SE σ σ := fun _ _ _ => rfl
theorem SE_t {a b c : Mem} (h1 : SE a b) (h2 : SE b c) : SE a c := fun x j z => by rw [h2 x j z]; exact h1 x j z
theorem SE_A {σ s : Mem} {g b j : Int} (h : SE σ s) (g0 : 0 ≤ g) (g5 : g < 5) (z : fA g b j ∨ fB g b j ∨ fC g b j) : s b j = σ b j := by
  unfold fA fB fC at z
  exact h b j (by unfold sE; omega)
theorem SE_giv {σ s : Mem} (h : SE σ s) (hI : I_giv σ) : I_giv s := by
  obtain ⟨e, a0, a5, hg⟩ := hI
  have e0 : s 356 0 = σ 356 0 := h _ _ (by unfold sE; omega)
  refine ⟨?_, by omega, by omega, fun g g0 g1 => ?_⟩
  · rw [e0, ← e]; exact h _ _ (by unfold sE; omega)
  · obtain ⟨hA, hB, hC⟩ := hg g g0 (by omega)
    have hn := hA.1
    exact ⟨GA_fr (fun b j z => SE_A h g0 (by omega) (Or.inl z)) hA, GB_fr (by omega) (fun b j z => SE_A h g0 (by omega) (Or.inr (Or.inl z))) hB, GC_fr (by omega) (fun b j z => SE_A h g0 (by omega) (Or.inr (Or.inr z))) hC⟩
theorem SE_ways {σ s : Mem} (h : SE σ s) (hW : I_ways σ) : I_ways s := by
  obtain ⟨e, a0, a5, hg⟩ := hW
  have e0 : s 356 10 = σ 356 10 := h _ _ (by unfold sE; omega)
  have e1 : s 0 4 = σ 0 4 := h _ _ (by unfold sE; omega)
  refine ⟨?_, ?_, ?_, fun i i0 i1 => ?_⟩
  · show s 0 5 = s 356 10
    rw [e0, ← e]; exact h _ _ (by unfold sE; omega)
  · show 0 ≤ s 356 10
    rw [e0]; exact a0
  · show s 356 10 ≤ 15
    rw [e0]; exact a5
  · have i1 : i < s 356 10 := i1
    rw [e0] at i1
    have := hg i i0 i1
    rw [h 262 i (by unfold sE; omega), h 366 i (by unfold sE; omega)]
    exact this
/-- the class's shares of a giving -/
theorem Xsh {d : Nat} {K : Int → Mem → Prop} {σ : Mem} {g k : Int} (hI : I_giv σ) (hF : I_fresh σ) (g0 : 0 ≤ g) (g1 : g < σ 356 0) (k0 : 0 ≤ k) (k7 : k < 7)
    (q : ∀ s2 : Mem, SE σ s2 → I_fresh s2 → ShX s2 (33 + 43 * g + 2 * k) (σ 357 g) (σ 358 g) (shN σ g k) (shB σ g k) (shH σ g k) → (∀ b j, ¬ b = 34 + 43 * g + 2 * k → ¬ b = 33 + 43 * g + 2 * k → ¬ (285 ≤ b ∧ b ≤ 304) → ¬ (307 ≤ b ∧ b ≤ 315) → s2 b j = σ b j) → K (33 + 43 * g + 2 * k) s2) : AM2 i_X_sharesOf (d + 5) [(2, 0), (2, 4 + 43 * g), (0, k)] σ K := by
  obtain ⟨hA, hB, hC⟩ := hI.2.2.2 g g0 g1
  have h5 := hI.2.2.1
  refine X_sharesOf_ok g0 (by omega) k0 k7 hA hB hC (hF g k g0 g1 k0 k7) (fun s2 hS hz f2 => ?_)
  have m0 := gmod (g := g) 0 k0 k7 (by decide) (by decide)
  have m1 := gmod (g := g) 1 k0 k7 (by decide) (by decide)
  rw [Int.add_zero] at m0
  have hse : SE σ s2 := fun b j z => f2 b j (fun e => z (by rw [e, show 34 + 43 * g + 2 * k = 33 + 43 * g + 2 * k + 1 by omega]; unfold sE; left; rw [m1]; omega)) (fun e => z (by rw [e]; unfold sE; left; rw [m0]; omega)) (by unfold sE at z; omega) (by unfold sE at z; omega)
  refine q s2 hse (fun g' k' g0' g1' k0' k7' => ?_) hS f2
  have e0 : s2 356 0 = σ 356 0 := f2 _ _ (by omega) (by omega) (by omega) (by omega)
  rw [e0] at g1'
  have sf := fun g' k' => sh_fr (σ := σ) (s := s2) (g := g') (k := k') (fun b j _ w => f2 b j (by omega) (by omega) (by omega) (by omega)) (fun _ b j _ w => f2 b j (by omega) (by omega) (by omega) (by omega))
  have e7 : s2 357 g' = σ 357 g' := f2 _ _ (by omega) (by omega) (by omega) (by omega)
  have e8 : s2 358 g' = σ 358 g' := f2 _ _ (by omega) (by omega) (by omega) (by omega)
  rw [e7, e8, (sf g' k').1, (sf g' k').2.1, (sf g' k').2.2]
  by_cases c : g' = g ∧ k' = k
  · obtain ⟨rfl, rfl⟩ := c
    exact Or.inr ⟨hz, hS⟩
  · have hn := (hI.2.2.2 g' g0' g1').1.1
    have fx : ∀ j, s2 (33 + 43 * g' + 2 * k') j = σ (33 + 43 * g' + 2 * k') j := fun j => f2 _ _ (by omega) (by omega) (by omega) (by omega)
    rw [fx 2]
    rcases hF g' k' g0' g1' k0' k7' with z | z
    · exact Or.inl z
    · refine Or.inr ⟨z.1, ⟨by rw [fx 1]; exact z.2.1.1, by rw [fx 3]; exact z.2.1.2.1, by rw [fx 4]; exact z.2.1.2.2⟩, fun p t p0 p1 t0 t1 => ?_⟩
      rw [f2 _ _ (by omega) (by omega) (by omega) (by omega)]
      exact z.2.2 p t p0 p1 t0 t1
/-- the model's -/
theorem Msh {d : Nat} {K : Int → Mem → Prop} {σ : Mem} {g k : Int} (g0 : 0 ≤ g) (g5 : g ≤ 5) (k0 : 0 ≤ k) (k7 : k < 7) (hA : GA σ g) (hB : GB σ g) (hC : GC σ g)
    (q : ∀ s2 : Mem, SE σ s2 → ShM s2 (σ 357 g) (σ 358 g) (shN σ g k) (shB σ g k) → (k = 3 → s2 356 44 = shH σ g k) → (∀ b j, ¬ (b = 356 ∧ (j = 43 ∨ j = 44 ∨ j = 48 ∨ j = 49)) → ¬ (379 ≤ b ∧ b ≤ 384) → ¬ (387 ≤ b ∧ b ≤ 398) → s2 b j = σ b j) → K 0 s2) : AM2 i_M_shares (d + 4) [(2, 356), (0, g), (0, k)] σ K := by
  refine M_shares_ok g0 g5 k0 k7 hA hB hC (fun s2 h1 h2 f2 => q s2 (fun b j z => f2 b j (by unfold sE at z; omega) (by unfold sE at z; omega) (by unfold sE at z; omega)) h1 h2 f2)
theorem fresh_M {σ s2 : Mem} (hI : I_giv σ) (f2 : ∀ b j, ¬ (b = 356 ∧ (j = 43 ∨ j = 44 ∨ j = 48 ∨ j = 49)) → ¬ (379 ≤ b ∧ b ≤ 384) → ¬ (387 ≤ b ∧ b ≤ 401) → s2 b j = σ b j) (h : I_fresh σ) : I_fresh s2 :=
  I_fresh_fr hI (f2 _ _ (by omega) (by omega) (by omega)) (fun b j _ _ _ => f2 b j (by omega) (by omega) (by omega)) (fun g b j _ g1 z w => f2 b j (by have := hI.2.2.1; unfold fA fB fC at z; omega) (by have := hI.2.2.1; unfold fA fB fC at z; omega) (by have := hI.2.2.1; unfold fA fB fC at z; omega)) h
theorem call_share {d : Nat} {σ : Mem} {g w a v : Int} {P : Int → Int → Mem → Prop} (hI : I_giv σ) (hW : I_ways σ) (hF : I_fresh σ) (h : ∀ r σ2, SE σ σ2 → I_fresh σ2 → P r r σ2) :
    AM2 i_X_share (d + 6) [(2, 0), (0, g), (0, w), (0, a), (0, v)] σ (fun w1 σ1 => AM2 i_M_share (d + 6) [(2, 356), (0, g), (0, w), (0, a), (0, v)] σ1 (fun w2 σ2 => P w1 w2 σ2)) := by
  have bad : ¬ ((0 ≤ g ∧ g < σ 356 0) ∧ (0 ≤ w ∧ w < σ 356 10) ∧ (0 ≤ a ∧ a / 10 < σ 357 g ∧ a % 10 < σ 358 g) ∧ (v = 0 ∨ v = 1)) → AM2 i_M_share (d + 6) [(2, 356), (0, g), (0, w), (0, a), (0, v)] σ (fun w2 σ2 => P (-1) w2 σ2) := fun c => by
    have hh := h (-1) σ (SE_r σ) hF
    refine e_M_share fun _ _ ha _ => Mg hI (fun a1 a5 b hA hB hC => br1 (M_isWay_ok ⟨hW.2.1, hW.2.2.1⟩ (fun x y => br1 ⟨fun _ => hh, fun c0 => M_in_ok (fun z0 z1 => br1 ?_) (fun _ => br0 hh)⟩) (fun _ => br0 hh))) (fun _ => br0 hh)
    unfold r32 at ha
    rw [divI_nn (by omega) (by omega) (by decide) (by decide), remI_nn (by omega) (by omega) (by decide) (by decide)]
    exact Mp hI (fun _ _ _ x1 y1 _ _ _ _ => br1 (Mt hI (fun _ _ _ u v1 _ _ _ _ => absurd ⟨⟨a1, b⟩, ⟨x, y⟩, ⟨by omega, y1, v1⟩, by omega⟩ c) (fun _ => br0 hh))) (fun _ => br0 hh)
  refine e_X_share fun _ _ ha _ => X_kindAt_ok hW (fun w0 w1 k0 k6 => Xg hI (fun g0 g5 b hA hB hC => br1 (brF_i (by have k0 : 0 ≤ σ 366 w := k0; omega) ?_)) (fun c => br0 (bad (fun z => c z.1)))) (fun c => Xg hI (fun _ _ _ _ _ _ => br1 (brT_i (by decide) (bad (fun z => c z.2.1)))) (fun _ => br0 (bad (fun z => c z.2.1))))
  have k0 : 0 ≤ σ 366 w := k0
  have k6 : σ 366 w ≤ 6 := k6
  have w1 : w < σ 356 10 := w1
  unfold r32 at ha
  have hn := hA.1
  have en := hA.2.1.1
  have em := hA.2.1.2.1
  rw [pt3 g0 g5]
  refine inb_i g0 g5 (X_isCell_ok g0 (by omega) (fun a0 x y => br1 (X_isNoSide_ok (fun hv => br0 (inb_i g0 g5 ?_)) (fun hv => br1 (bad (fun z => hv z.2.2.2))))) (fun z => br0 (bad (by omega))))
  refine Xsh hI hF g0 b k0 (by omega) (fun s2 hse hf2 hS _ => ?_)
  have ck := fun {P : Prop} => ck_sh (P := P) g0 (show g ≤ 5 by omega) k0 (show σ 366 w < 7 by omega)
  rw [ck, hS.1.2.1]
  refine brT_i rfl ?_
  rw [ck, pt_to g0 (by omega) k0 (by omega), ck_to g0 (by omega) k0 (by omega), ck, divI_nn (by omega) (by omega) (by decide) (by decide), remI_nn (by omega) (by omega) (by decide) (by decide), sn_to g0 (by omega) k0 (by omega)]
  have hr := sh_r (k := σ 366 w) hA hB hC
  have I2 := SE_giv hse hI
  have W2 := SE_ways hse hW
  have e0 : s2 356 0 = σ 356 0 := hse _ _ (by unfold sE; omega)
  have e10 : s2 356 10 = σ 356 10 := hse _ _ (by unfold sE; omega)
  have e366 : s2 366 w = σ 366 w := hse _ _ (by unfold sE; omega)
  obtain ⟨hA2, hB2, hC2⟩ := I2.2.2.2 g g0 (by omega)
  have e7 : s2 357 g = σ 357 g := hse _ _ (by unfold sE; omega)
  have e8 : s2 358 g = σ 358 g := hse _ _ (by unfold sE; omega)
  have sf := sh_fr (σ := σ) (s := s2) (g := g) (k := σ 366 w) (fun b j z _ => SE_A hse g0 g5 (by rcases z with z | z; exact Or.inl z; exact Or.inr (Or.inl z))) (fun _ b j z _ => SE_A hse g0 g5 (Or.inr (Or.inr z)))
  have hv2 := hS.2 (a / 10) (a % 10) (by omega) (by omega) (by omega) (by omega)
  have hv3 := hr.2 (a / 10) (a % 10) (by omega) (by omega) (by omega) (by omega)
  rw [w32_id (x := a / 10 * 8) (by omega) (by omega), w32_id (x := a / 10 * 8 + a % 10) (by omega) (by omega), show a / 10 * 8 + a % 10 = 8 * (a / 10) + a % 10 by omega, show 34 + 43 * g + 2 * σ 366 w = 33 + 43 * g + 2 * σ 366 w + 1 by omega, hv2, hS.1.1]
  have lr := lo_r (N := shN σ g (σ 366 w) (8 * (a / 10) + a % 10)) (B := shB σ g (σ 366 w)) hv3.1 (by omega)
  have hcp := cm_pos (shN σ g (σ 366 w) (8 * (a / 10) + a % 10)) (shB σ g (σ 366 w))
  have hcl := cm_le (a := shN σ g (σ 366 w) (8 * (a / 10) + a % 10)) (b := shB σ g (σ 366 w)) (by omega)
  refine inb_i (by omega) (by omega) (X_common_ok hv3.1 (by omega) (by omega) (by omega) ?_)
  -- the model's
  have model : ∀ r : Int, (v = 0 → r = shN σ g (σ 366 w) (8 * (a / 10) + a % 10) / cm (shN σ g (σ 366 w) (8 * (a / 10) + a % 10)) (shB σ g (σ 366 w))) → (¬ v = 0 → r = shB σ g (σ 366 w) / cm (shN σ g (σ 366 w) (8 * (a / 10) + a % 10)) (shB σ g (σ 366 w))) → AM2 i_M_share (d + 6) [(2, 356), (0, g), (0, w), (0, a), (0, v)] s2 (fun w2 σ2 => P r w2 σ2) := fun r r0 r1 => by
    refine e_M_share fun _ _ _ _ => Mg I2 (fun _ _ _ _ _ _ => br1 (M_isWay_ok ⟨W2.2.1, W2.2.2.1⟩ (fun _ _ => br1 (brF_i (by omega) (M_in_ok (fun _ _ => br1 ?_) (fun z => absurd ⟨by omega, by omega⟩ z)))) (fun z => absurd ⟨w0, by show w < s2 356 10; omega⟩ z))) (fun z => absurd ⟨g0, by omega⟩ z)
    rw [divI_nn (by omega) (by omega) (by decide) (by decide), remI_nn (by omega) (by omega) (by decide) (by decide)]
    refine Mp I2 (fun _ _ _ _ _ _ _ _ _ => br1 (Mt I2 (fun _ _ _ _ _ _ _ _ _ => br1 (inb_i w0 (by have := hW.2.2.1; omega) ?_)) (fun z => absurd ⟨⟨g0, by omega⟩, by omega, by omega⟩ z))) (fun z => absurd ⟨⟨g0, by omega⟩, by omega, by omega⟩ z)
    rw [e366]
    refine Msh (d := d + 1) g0 (by omega) k0 (by omega) hA2 hB2 hC2 (fun s3 hse3 hM _ f3 => ?_)
    have hm := hM.2 (a / 10) (a % 10) (by omega) (by omega) (by omega) (by omega)
    rw [sf.1, sf.2.1] at hm
    have hP := h r s3 (SE_t hse hse3) (fresh_M I2 (fun b j z1 z2 z3 => f3 b j z1 z2 (by omega)) hf2)
    rw [hM.1, w32_id (x := 8 * (a / 10)) (by omega) (by omega), w32_id (x := 8 * (a / 10) + a % 10) (by omega) (by omega), hm.1, hm.2]
    refine brT_i rfl ⟨fun z => inb_i (by omega) (by omega) ?_, fun z => inb_i (by omega) (by omega) ?_⟩
    · rw [← r0 z]; exact hP
    · rw [← r1 z]; exact hP
  rw [ck, hS.1.1, divL_nn hv3.1 (by omega) (by omega) (by omega), divL_nn (by omega) (by omega) (by omega) (by omega)]
  exact ⟨fun z => nzP_i (by omega) (model _ (fun _ => rfl) (fun y => absurd z y)), fun z => nzP_i (by omega) (model _ (fun y => absurd y z) (fun _ => rfl))⟩
theorem call_stops {d : Nat} {σ : Mem} {g : Int} {P : Int → Int → Mem → Prop} (hI : I_giv σ) (hF : I_fresh σ) (h : ∀ r σ2, SE σ σ2 → I_fresh σ2 → P r r σ2) :
    AM2 i_X_stops (d + 6) [(2, 0), (0, g)] σ (fun w1 σ1 => AM2 i_M_stops (d + 6) [(2, 356), (0, g)] σ1 (fun w2 σ2 => P w1 w2 σ2)) := by
  refine e_X_stops fun _ => Xg hI (fun g0 g5 b hA hB hC => br1 ?_) (fun c => br0 (e_M_stops fun _ => Mg hI (fun a _ b _ _ _ => absurd ⟨a, b⟩ c) (fun _ => br0 (h _ _ (SE_r σ) hF))))
  rw [pt3 g0 g5]
  refine inb_i g0 g5 (Xsh hI hF g0 b (by decide) (by decide) (fun s2 hse hf2 hS _ => ?_))
  have ck := fun {P : Prop} => ck_sh (P := P) g0 (show g ≤ 5 by omega) (show (0 : Int) ≤ 3 by decide) (show (3 : Int) < 7 by decide)
  rw [ck, hS.1.2.1, ck, hS.1.2.2]
  refine brT_i rfl ?_
  have I2 := SE_giv hse hI
  have e0 : s2 356 0 = σ 356 0 := hse _ _ (by unfold sE; omega)
  obtain ⟨hA2, hB2, hC2⟩ := I2.2.2.2 g g0 (by omega)
  have sf := sh_fr (σ := σ) (s := s2) (g := g) (k := 3) (fun b j z _ => SE_A hse g0 g5 (by rcases z with z | z; exact Or.inl z; exact Or.inr (Or.inl z))) (fun _ b j z _ => SE_A hse g0 g5 (Or.inr (Or.inr z)))
  refine e_M_stops fun _ => Mg I2 (fun _ _ _ _ _ _ => br1 (Msh (d := d + 1) g0 (by omega) (by decide) (by decide) hA2 hB2 hC2 (fun s3 hse3 hM hH f3 => ?_))) (fun z => absurd ⟨g0, by omega⟩ z)
  rw [hM.1, hH rfl, sf.2.2]
  exact brT_i rfl (h _ _ (SE_t hse hse3) (fresh_M I2 (fun b j z1 z2 z3 => f3 b j z1 z2 (by omega)) hf2))
