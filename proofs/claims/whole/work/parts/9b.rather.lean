-- ===== rather, envy
theorem rowsX {σ s : Mem} {g p : Int} (hse : SE σ s) (g0 : 0 ≤ g) (g5 : g < 5) (hA : GA σ g) (hB : GB σ g) (p0 : 0 ≤ p) (p1 : p < σ 357 g) : s (7 + 43 * g) p = σ 362 (7 * g + p) ∧ (∀ i, 0 ≤ i → i < σ 362 (7 * g + p) → s (9 + 43 * g + p) i = σ 363 (56 * g + 8 * p + i)) ∧ ∀ t, 0 ≤ t → t < σ 358 g → s (17 + 43 * g + p) t = σ 364 (56 * g + 8 * p + t) := by
  have hn := hA.1
  refine ⟨?_, fun i i0 i1 => ?_, fun t t0 t1 => ?_⟩
  · rw [SE_A hse g0 g5 (Or.inl (by unfold fA; omega))]; exact (hA.2.2.2.1 p p0 p1).1
  · rw [SE_A hse g0 g5 (Or.inl (by unfold fA; omega))]; exact (hA.2.2.2.2 p i p0 p1 i0 i1).1
  · rw [SE_A hse g0 g5 (Or.inr (Or.inl (by unfold fB; omega)))]; exact (hB.2 p t p0 p1 t0 t1).1
theorem call_rather {d : Nat} {σ : Mem} {g p w v : Int} {P : Int → Int → Mem → Prop} (hI : I_giv σ) (hW : I_ways σ) (hF : I_fresh σ) (hG : I_GW σ) (h : ∀ r σ2, SE σ σ2 → I_fresh σ2 → P r r σ2) :
    AM2 i_X_rather (d + 6) [(2, 0), (0, g), (0, p), (0, w), (0, v)] σ (fun w1 σ1 => AM2 i_M_rather (d + 6) [(2, 356), (0, g), (0, p), (0, w), (0, v)] σ1 (fun w2 σ2 => P w1 w2 σ2)) := by
  have hh := h (-2000000000) σ (SE_r σ) hF
  by_cases C : 0 ≤ g ∧ g < σ 356 0 ∧ 0 ≤ p ∧ p < σ 357 g ∧ 0 ≤ w ∧ w < σ 356 10 ∧ 0 ≤ v ∧ v < σ 356 10
  · obtain ⟨g0, gb, p0, p1, w0, w1, v0, v1⟩ := C
    obtain ⟨hA, hB, hC⟩ := hI.2.2.2 g g0 gb
    have h5 := hI.2.2.1
    have hn := hA.1
    have en := hA.2.1.1
    have hk1 := (hW.2.2.2 w w0 w1).2
    have hk2 := (hW.2.2.2 v v0 v1).2
    have hk1 : 0 ≤ σ 366 w ∧ σ 366 w ≤ 6 := hk1
    have hk2 : 0 ≤ σ 366 v ∧ σ 366 v ≤ 6 := hk2
    have h15 : σ 356 10 ≤ 15 := hW.2.2.1
    refine e_X_rather fun _ _ _ _ => X_kindAt_ok hW (fun _ _ _ _ => X_kindAt_ok hW (fun _ _ _ _ => Xg hI (fun _ g5 _ _ _ _ => br1 ?_) (fun c => absurd ⟨g0, gb⟩ c)) (fun c => absurd ⟨v0, v1⟩ c)) (fun c => absurd ⟨w0, w1⟩ c)
    rw [pt3 g0 g5]
    refine inb_i g0 g5 (X_isPerson_ok g0 (by omega) (fun _ _ => br1 (brF_i (by show ¬ σ 366 w < 0; omega) (brF_i (by show ¬ σ 366 v < 0; omega) (inb_i g0 g5 ?_)))) (fun c => absurd ⟨p0, by omega⟩ c))
    refine Xsh (k := σ 366 w) hI hF g0 gb hk1.1 (by omega) (fun s2 hse hf2 hS _ => ?_)
    have I2 := SE_giv hse hI
    have e0 : s2 356 0 = σ 356 0 := hse _ _ (by unfold sE; omega)
    have e7 : s2 357 g = σ 357 g := hse _ _ (by unfold sE; omega)
    have e8 : s2 358 g = σ 358 g := hse _ _ (by unfold sE; omega)
    have sf := fun k => sh_fr (σ := σ) (s := s2) (g := g) (k := k) (fun b j z _ => SE_A hse g0 g5 (by rcases z with z | z; exact Or.inl z; exact Or.inr (Or.inl z))) (fun _ b j z _ => SE_A hse g0 g5 (Or.inr (Or.inr z)))
    refine Xsh (k := σ 366 v) I2 hf2 g0 (by omega) hk2.1 (by omega) (fun s3 hse3 hf3 hS3 f3 => ?_)
    rw [e7, e8, (sf _).1, (sf _).2.1, (sf _).2.2] at hS3
    have hse13 := SE_t hse hse3
    have I3 := SE_giv hse13 hI
    have W3 := SE_ways hse13 hW
    -- the first one's still stands
    have hS1 : ShX s3 (33 + 43 * g + 2 * σ 366 w) (σ 357 g) (σ 358 g) (shN σ g (σ 366 w)) (shB σ g (σ 366 w)) (shH σ g (σ 366 w)) := by
      by_cases c : σ 366 w = σ 366 v
      · rw [c]; exact hS3
      · refine ⟨⟨by rw [f3 _ _ (by omega) (by omega) (by omega) (by omega)]; exact hS.1.1, by rw [f3 _ _ (by omega) (by omega) (by omega) (by omega)]; exact hS.1.2.1, by rw [f3 _ _ (by omega) (by omega) (by omega) (by omega)]; exact hS.1.2.2⟩, fun a b a0 a1 b0 b1 => ?_⟩
        rw [f3 _ _ (by omega) (by omega) (by omega) (by omega)]
        exact hS.2 a b a0 a1 b0 b1
    rw [ck_sh g0 (by omega) hk1.1 (by omega), hS1.1.2.1, ck_sh g0 (by omega) hk2.1 (by omega), hS3.1.2.1]
    refine brT_i rfl (brT_i rfl ?_)
    have hr1 := sh_r (k := σ 366 w) hA hB hC
    have hr2 := sh_r (k := σ 366 v) hA hB hC
    have hx := rowsX hse13 g0 g5 hA hB p0 p1
    have hw := (hG g g0 gb).1 p p0 p1
    refine X_compareRows_ok (m := σ 358 g) (z := σ 362 (7 * g + p)) (ls := fun i => σ 363 (56 * g + 8 * p + i)) (lv := fun t => σ 364 (56 * g + 8 * p + t)) (A := fun t => shN σ g (σ 366 w) (8 * p + t)) (C := fun t => shN σ g (σ 366 v) (8 * p + t)) g0 (by omega) p0 (by omega) ⟨p0, by omega⟩ ⟨p0, by omega⟩ ⟨g0, by omega⟩ ⟨hk1.1, by omega⟩ ⟨g0, by omega⟩ ⟨hk2.1, by omega⟩ (by omega) hw hx.1 hx.2.1 hx.2.2 (fun t t0 t1 => ⟨hS1.2 p t p0 p1 t0 t1, hr1.2 p t p0 p1 t0 t1⟩) ⟨hS1.1.1, hr1.1⟩ (fun t t0 t1 => ⟨hS3.2 p t p0 p1 t0 t1, hr2.2 p t p0 p1 t0 t1⟩) ⟨hS3.1.1, hr2.1⟩ (fun r hR => ?_)
    -- the model
    have e03 : s3 356 0 = σ 356 0 := hse13 _ _ (by unfold sE; omega)
    have e73 : s3 357 g = σ 357 g := hse13 _ _ (by unfold sE; omega)
    have e83 : s3 358 g = σ 358 g := hse13 _ _ (by unfold sE; omega)
    have e103 : s3 356 10 = σ 356 10 := hse13 _ _ (by unfold sE; omega)
    have e366 : ∀ i, s3 366 i = σ 366 i := fun i => hse13 _ _ (by unfold sE; omega)
    obtain ⟨hA3, hB3, hC3⟩ := I3.2.2.2 g g0 (by omega)
    have sf3 := fun k => sh_fr (σ := σ) (s := s3) (g := g) (k := k) (fun b j z _ => SE_A hse13 g0 g5 (by rcases z with z | z; exact Or.inl z; exact Or.inr (Or.inl z))) (fun _ b j z _ => SE_A hse13 g0 g5 (Or.inr (Or.inr z)))
    refine e_M_rather fun _ _ _ _ => Mp I3 (fun _ _ _ _ _ _ _ _ _ => br1 (M_isWay_ok ⟨W3.2.1, W3.2.2.1⟩ (fun _ _ => br1 (M_isWay_ok ⟨W3.2.1, W3.2.2.1⟩ (fun _ _ => br1 (inb_i v0 (by omega) ?_)) (fun c => absurd ⟨v0, by show v < s3 356 10; omega⟩ c))) (fun c => absurd ⟨w0, by show w < s3 356 10; omega⟩ c))) (fun c => absurd ⟨⟨g0, by omega⟩, p0, by omega⟩ c)
    rw [e366]
    refine Msh (d := d + 1) g0 (by omega) hk2.1 (by omega) hA3 hB3 hC3 (fun s4 hse4 hM4 _ f4 => ?_)
    rw [hM4.1]
    refine brT_i rfl (M_keepsRow_ok p0 (by omega) (fun s5 hk5 f5 => inb_i w0 (by omega) ?_))
    rw [f5 366 w (by omega) (by omega), f4 366 w (by omega) (by omega) (by omega), e366]
    have hA5 : GA s5 g := GA_fr (fun b j z => by unfold fA at z; rw [f5 b j (by omega) (by omega)]; exact f4 b j (by omega) (by omega) (by omega)) hA3
    have hB5 : GB s5 g := GB_fr (by omega) (fun b j z => by unfold fB at z; rw [f5 b j (by omega) (by omega)]; exact f4 b j (by omega) (by omega) (by omega)) hB3
    have hC5 : GC s5 g := GC_fr (by omega) (fun b j z => by unfold fC at z; rw [f5 b j (by omega) (by omega)]; exact f4 b j (by omega) (by omega) (by omega)) hC3
    have sf5 := fun k => sh_fr (σ := s3) (s := s5) (g := g) (k := k) (fun b j z _ => by unfold fA fB at z; rw [f5 b j (by omega) (by omega)]; exact f4 b j (by omega) (by omega) (by omega)) (fun _ b j z _ => by unfold fC at z; rw [f5 b j (by omega) (by omega)]; exact f4 b j (by omega) (by omega) (by omega))
    have e75 : s5 357 g = σ 357 g := by rw [f5 _ _ (by omega) (by omega), f4 _ _ (by omega) (by omega) (by omega)]; exact e73
    have e85 : s5 358 g = σ 358 g := by rw [f5 _ _ (by omega) (by omega), f4 _ _ (by omega) (by omega) (by omega)]; exact e83
    refine Msh (d := d + 1) g0 (by omega) hk1.1 (by omega) hA5 hB5 hC5 (fun s6 hse6 hM6 _ f6 => ?_)
    rw [hM6.1]
    rw [e73, e83, (sf3 _).1, (sf3 _).2.1] at hM4
    rw [e75, e85, (sf5 _).1, (sf5 _).2.1, (sf3 _).1, (sf3 _).2.1] at hM6
    have fall : ∀ b j, ¬ (b = 356 ∧ (j = 43 ∨ j = 44 ∨ j = 48 ∨ j = 49)) → ¬ (379 ≤ b ∧ b ≤ 384) → ¬ (387 ≤ b ∧ b ≤ 401) → s6 b j = s3 b j := fun b j z1 z2 z3 => by
      rw [f6 b j z1 z2 (by omega), f5 b j (by omega) (by omega), f4 b j z1 z2 (by omega)]
    refine brT_i rfl (M_against_ok (d := d + 2) (m := σ 358 g) (lv := fun t => σ 364 (56 * g + 8 * p + t)) (A := fun t => shN σ g (σ 366 w) (8 * p + t)) (C := fun t => shN σ g (σ 366 v) (8 * p + t)) (B1 := shB σ g (σ 366 w)) (B2 := shB σ g (σ 366 v)) g0 (by omega) p0 (by omega) ⟨p0, by omega⟩ (by omega) (by rw [fall _ _ (by omega) (by omega) (by omega)]; exact e83) (fun t t0 t1 => by rw [fall _ _ (by omega) (by omega) (by omega)]; exact SE_A hse13 g0 g5 (Or.inr (Or.inl (by unfold fB; omega)))) (fun t t0 t1 => ⟨hM6.2 p t p0 p1 t0 t1, hr1.2 p t p0 p1 t0 t1⟩) hr1.1 (fun t t0 t1 => ⟨?_, hr2.2 p t p0 p1 t0 t1⟩) hr2.1 hM6.1 (fun r2 s7 hR2 _ f7 => ?_))
    · have h4 := hM4.2 p t p0 p1 t0 t1
      have h6 := hk5 t t0 (by omega)
      refine ⟨?_, ?_⟩
      · rw [f6 _ _ (by omega) (by omega) (by omega), h6.1]; exact h4.1
      · rw [f6 _ _ (by omega) (by omega) (by omega), h6.2]; exact h4.2
    · rw [← CmpR_u hR hR2]
      have fin : ∀ b j, ¬ (b = 356 ∧ (j = 43 ∨ j = 44 ∨ j = 48 ∨ j = 49)) → ¬ (379 ≤ b ∧ b ≤ 384) → ¬ (387 ≤ b ∧ b ≤ 401) → s7 b j = s3 b j := fun b j z1 z2 z3 => by rw [f7 b j (by omega)]; exact fall b j z1 z2 z3
      exact h r s7 (SE_t hse13 (fun b j z => fin b j (by unfold sE at z; omega) (by unfold sE at z; omega) (by unfold sE at z; omega))) (fresh_M I3 fin hf3)
  · have bad : AM2 i_M_rather (d + 6) [(2, 356), (0, g), (0, p), (0, w), (0, v)] σ (fun w2 σ2 => P (-2000000000) w2 σ2) :=
      e_M_rather fun _ _ _ _ => Mp hI (fun g0 _ gb x y _ _ _ _ => br1 (M_isWay_ok ⟨hW.2.1, hW.2.2.1⟩ (fun u0 u1 => br1 (M_isWay_ok ⟨hW.2.1, hW.2.2.1⟩ (fun z0 z1 => absurd ⟨g0, gb, x, y, u0, u1, z0, z1⟩ C) (fun _ => br0 hh))) (fun _ => br0 hh))) (fun _ => br0 hh)
    refine e_X_rather fun _ _ _ _ => X_kindAt_ok hW (fun u0 u1 _ _ => X_kindAt_ok hW (fun z0 z1 _ _ => ?_) (fun c2 => ?_)) (fun c => X_kindAt_ok hW (fun z0 z1 _ _ => ?_) (fun c2 => ?_))
    all_goals
      refine Xg hI (fun g0 g5 gb hA hB hC => br1 ?_) (fun _ => br0 bad)
      rw [pt3 g0 g5]
      refine inb_i g0 g5 (X_isPerson_ok g0 (by omega) (fun x y => br1 ⟨fun _ => bad, fun c3 => ⟨fun _ => bad, fun c4 => ?_⟩⟩) (fun _ => br0 bad))
      have := hA.2.1.1
      exfalso
      omega
/-- the first pair of which one would rather be the other -/
def EnvR (n : Int) (E : Int → Int → Prop) (r : Int) : Prop := (r = -2 ∧ ∀ i j, 0 ≤ i → i < n → 0 ≤ j → j < n → ¬ j = i → ¬ E i j) ∨ ∃ i j, (0 ≤ i ∧ i < n ∧ 0 ≤ j ∧ j < n ∧ ¬ j = i ∧ E i j) ∧ r = 10 * i + j ∧ ∀ i' j', 0 ≤ i' → i' < n → 0 ≤ j' → j' < n → ¬ j' = i' → (i' < i ∨ (i' = i ∧ j' < j)) → ¬ E i' j'
theorem EnvR_u {n r r' : Int} {E : Int → Int → Prop} (h : EnvR n E r) (h' : EnvR n E r') : r = r' := by
  rcases h with ⟨e, a⟩ | ⟨i, j, ⟨i0, i1, j0, j1, ne, hE⟩, e, a⟩ <;> rcases h' with ⟨e', a'⟩ | ⟨i', j', ⟨i0', i1', j0', j1', ne', hE'⟩, e', a'⟩
  · omega
  · exact absurd hE' (a i' j' i0' i1' j0' j1' ne')
  · exact absurd hE (a' i j i0 i1 j0 j1 ne)
  · by_cases c : i' < i ∨ (i' = i ∧ j' < j)
    · exact absurd hE' (a i' j' i0' i1' j0' j1' ne' c)
    · by_cases c2 : i < i' ∨ (i = i' ∧ j < j')
      · exact absurd hE (a' i j i0 i1 j0 j1 ne c2)
      · omega
theorem call_envy {d : Nat} {σ : Mem} {g w : Int} {P : Int → Int → Mem → Prop} (hI : I_giv σ) (hW : I_ways σ) (hF : I_fresh σ) (hG : I_GW σ) (h : ∀ r σ2, SE σ σ2 → I_fresh σ2 → P r r σ2) :
    AM2 i_X_envy (d + 6) [(2, 0), (0, g), (0, w)] σ (fun w1 σ1 => AM2 i_M_envy (d + 6) [(2, 356), (0, g), (0, w)] σ1 (fun w2 σ2 => P w1 w2 σ2)) := by
  have hh := h (-1) σ (SE_r σ) hF
  by_cases C : 0 ≤ g ∧ g < σ 356 0 ∧ 0 ≤ w ∧ w < σ 356 10
  · obtain ⟨g0, gb, w0, w1⟩ := C
    obtain ⟨hA, hB, hC⟩ := hI.2.2.2 g g0 gb
    have h5 := hI.2.2.1
    have hn := hA.1
    have en := hA.2.1.1
    have hk : 0 ≤ σ 366 w ∧ σ 366 w ≤ 6 := (hW.2.2.2 w w0 w1).2
    have h15 : σ 356 10 ≤ 15 := hW.2.2.1
    refine e_X_envy fun _ _ => X_kindAt_ok hW (fun _ _ _ _ => Xg hI (fun _ g5 _ _ _ _ => br1 (brF_i (by show ¬ σ 366 w < 0; omega) ?_)) (fun c => absurd ⟨g0, gb⟩ c)) (fun c => absurd ⟨w0, w1⟩ c)
    rw [pt3 g0 g5]
    refine inb_i g0 g5 (Xsh (k := σ 366 w) hI hF g0 gb hk.1 (by omega) (fun s2 hse hf2 hS _ => ?_))
    have I2 := SE_giv hse hI
    have W2 := SE_ways hse hW
    have e0 : s2 356 0 = σ 356 0 := hse _ _ (by unfold sE; omega)
    have e7 : s2 357 g = σ 357 g := hse _ _ (by unfold sE; omega)
    have e8 : s2 358 g = σ 358 g := hse _ _ (by unfold sE; omega)
    have e10 : s2 356 10 = σ 356 10 := hse _ _ (by unfold sE; omega)
    have e366 : s2 366 w = σ 366 w := hse _ _ (by unfold sE; omega)
    have en2 : s2 (4 + 43 * g) 1 = σ 357 g := by rw [SE_A hse g0 g5 (Or.inl (by unfold fA; omega))]; exact en
    have sf := fun k => sh_fr (σ := σ) (s := s2) (g := g) (k := k) (fun b j z _ => SE_A hse g0 g5 (by rcases z with z | z; exact Or.inl z; exact Or.inr (Or.inl z))) (fun _ b j z _ => SE_A hse g0 g5 (Or.inr (Or.inr z)))
    have hr := sh_r (k := σ 366 w) hA hB hC
    obtain ⟨hA2, hB2, hC2⟩ := I2.2.2.2 g g0 (by omega)
    have cku := fun {P : Prop} => ck_sh (P := P) g0 (show g ≤ 5 by omega) hk.1 (show σ 366 w < 7 by omega)
    have ckg := fun {P : Prop} => ck_g (P := P) g0 (show g ≤ 5 by omega)
    rw [cku, hS.1.2.1]
    refine brT_i rfl ?_
    -- the model
    have model : ∀ r, EnvR (σ 357 g) (fun i j => CmpR (σ 358 g) (fun t => σ 364 (56 * g + 8 * i + t)) (fun t => shN σ g (σ 366 w) (8 * j + t)) (shB σ g (σ 366 w)) (fun t => shN σ g (σ 366 w) (8 * i + t)) (shB σ g (σ 366 w)) 1) r → AM2 i_M_envy (d + 6) [(2, 356), (0, g), (0, w)] s2 (fun w2 σ2 => P r w2 σ2) := fun r hE => by
      refine e_M_envy fun _ _ => Mg I2 (fun _ _ _ _ _ _ => br1 (M_isWay_ok ⟨W2.2.1, W2.2.2.1⟩ (fun _ _ => br1 (inb_i w0 (by omega) ?_)) (fun c => absurd ⟨w0, by show w < s2 356 10; omega⟩ c))) (fun c => absurd ⟨g0, by omega⟩ c)
      rw [e366]
      refine Msh (d := d + 1) g0 (by omega) hk.1 (by omega) hA2 hB2 hC2 (fun s3 hse3 hM _ f3 => ?_)
      rw [hM.1]
      rw [e7, e8, (sf _).1, (sf _).2.1] at hM
      have fin : ∀ (r' : Int) (s4 : Mem), EnvR (σ 357 g) (fun i j => CmpR (σ 358 g) (fun t => σ 364 (56 * g + 8 * i + t)) (fun t => shN σ g (σ 366 w) (8 * j + t)) (shB σ g (σ 366 w)) (fun t => shN σ g (σ 366 w) (8 * i + t)) (shB σ g (σ 366 w)) 1) r' → (∀ b j, ¬ (b = 356 ∧ (j = 43 ∨ j = 48 ∨ j = 49)) → ¬ (399 ≤ b ∧ b ≤ 400) → s4 b j = s3 b j) → P r r' s4 := fun r' s4 hE' f4 => by
        rw [← EnvR_u hE hE']
        have ff : ∀ b j, ¬ (b = 356 ∧ (j = 43 ∨ j = 44 ∨ j = 48 ∨ j = 49)) → ¬ (379 ≤ b ∧ b ≤ 384) → ¬ (387 ≤ b ∧ b ≤ 401) → s4 b j = s2 b j := fun b j z1 z2 z3 => by rw [f4 b j (by omega) (by omega)]; exact f3 b j z1 z2 (by omega)
        exact h r s4 (SE_t hse (fun b j z => ff b j (by unfold sE at z; omega) (by unfold sE at z; omega) (by unfold sE at z; omega))) (fresh_M I2 ff hf2)
      refine brT_i rfl ?_
      have l24 : ∀ (q : Nat) (i : Int) (s4 : Mem), 0 ≤ i → i + q = σ 357 g → (∀ i' j', 0 ≤ i' → i' < i → 0 ≤ j' → j' < σ 357 g → ¬ j' = i' → ¬ CmpR (σ 358 g) (fun t => σ 364 (56 * g + 8 * i' + t)) (fun t => shN σ g (σ 366 w) (8 * j' + t)) (shB σ g (σ 366 w)) (fun t => shN σ g (σ 366 w) (8 * i' + t)) (shB σ g (σ 366 w)) 1) → s4 356 43 = 0 → (∀ b j, ¬ (b = 356 ∧ (j = 43 ∨ j = 48 ∨ j = 49)) → ¬ (399 ≤ b ∧ b ≤ 400) → s4 b j = s3 b j) → AW2 i_M_envy (d + 6) 24 [] [(0, (2, 356)), (1, (0, g)), (3, (0, i))] s4 (fun w2 σ2 => P r w2 σ2) := by
        intro q
        induction q with
        | zero =>
          intro i s4 i0 e ha hb f4
          refine s_M_envy_24 (inb_i g0 (by omega) ?_)
          rw [f4 357 g (by omega) (by omega), f3 357 g (by omega) (by omega) (by omega), e7]
          exact brF_i (by omega) (fin _ s4 (Or.inl ⟨rfl, fun i' j' a0 a1 b0 b1 ne => ha i' j' a0 (by omega) b0 b1 ne⟩) f4)
        | succ q ih =>
          intro i s4 i0 e ha hb f4
          refine s_M_envy_24 (inb_i g0 (by omega) ?_)
          rw [f4 357 g (by omega) (by omega), f3 357 g (by omega) (by omega) (by omega), e7]
          refine brT_i (by omega) (M_keepsRow_ok i0 (by omega) (fun s5 hk5 f5 => ?_))
          have l35 : ∀ (u : Nat) (j : Int) (s6 : Mem), 0 ≤ j → j + u = σ 357 g → (∀ j', 0 ≤ j' → j' < j → ¬ j' = i → ¬ CmpR (σ 358 g) (fun t => σ 364 (56 * g + 8 * i + t)) (fun t => shN σ g (σ 366 w) (8 * j' + t)) (shB σ g (σ 366 w)) (fun t => shN σ g (σ 366 w) (8 * i + t)) (shB σ g (σ 366 w)) 1) → s6 356 43 = 0 → (∀ b j, ¬ (b = 356 ∧ (j = 43 ∨ j = 48 ∨ j = 49)) → s6 b j = s5 b j) → AW2 i_M_envy (d + 6) 35 [] [(0, (2, 356)), (1, (0, g)), (3, (0, i)), (4, (0, j))] s6 (fun w2 σ2 => P r w2 σ2) := by
            intro u
            induction u with
            | zero =>
              intro j s6 j0 e2 hj hb6 f6
              refine s_M_envy_35 (inb_i g0 (by omega) ?_)
              rw [f6 357 g (by omega), f5 357 g (by omega) (by omega), f4 357 g (by omega) (by omega), f3 357 g (by omega) (by omega) (by omega), e7, w32_id (x := i + 1) (by omega) (by omega)]
              refine brF_i (by omega) (ih (i + 1) s6 (by omega) (by omega) (fun i' j' a0 a1 b0 b1 ne => ?_) hb6 (fun b j z1 z2 => by rw [f6 b j z1, f5 b j (by omega) (by omega)]; exact f4 b j z1 z2))
              by_cases y : i' = i
              · rw [y] at ne ⊢; exact hj j' b0 (by omega) ne
              · exact ha i' j' a0 (by omega) b0 b1 ne
            | succ u ihu =>
              intro j s6 j0 e2 hj hb6 f6
              refine s_M_envy_35 (inb_i g0 (by omega) ?_)
              rw [f6 357 g (by omega), f5 357 g (by omega) (by omega), f4 357 g (by omega) (by omega), f3 357 g (by omega) (by omega) (by omega), e7, w32_id (x := j + 1) (by omega) (by omega)]
              have ff : ∀ b j, ¬ (b = 356 ∧ (j = 43 ∨ j = 48 ∨ j = 49)) → ¬ (399 ≤ b ∧ b ≤ 400) → s6 b j = s3 b j := fun b j z1 z2 => by rw [f6 b j z1, f5 b j (by omega) (by omega)]; exact f4 b j z1 z2
              refine brT_i (by omega) ⟨fun c => ihu (j + 1) s6 (by omega) (by omega) (fun j' b0 b1 ne => hj j' b0 (by omega) ne) hb6 f6, fun c => ?_⟩
              refine M_against_ok (d := d + 2) (m := σ 358 g) (lv := fun t => σ 364 (56 * g + 8 * i + t)) (A := fun t => shN σ g (σ 366 w) (8 * j + t)) (C := fun t => shN σ g (σ 366 w) (8 * i + t)) (B1 := shB σ g (σ 366 w)) (B2 := shB σ g (σ 366 w)) g0 (by omega) i0 (by omega) ⟨j0, by omega⟩ (by omega) (by rw [ff _ _ (by omega) (by omega), f3 _ _ (by omega) (by omega) (by omega)]; exact e8) (fun t t0 t1 => by rw [ff _ _ (by omega) (by omega), f3 _ _ (by omega) (by omega) (by omega)]; exact SE_A hse g0 g5 (Or.inr (Or.inl (by unfold fB; omega)))) (fun t t0 t1 => ⟨?_, hr.2 j t j0 (by omega) t0 t1⟩) hr.1 (fun t t0 t1 => ⟨?_, hr.2 i t i0 (by omega) t0 t1⟩) hr.1 hb6 (fun r2 s7 hR2 hb7 f7 => ⟨fun c2 => ?_, fun c2 => ?_⟩)
              · have := hM.2 j t j0 (by omega) t0 t1
                unfold FQ
                rw [ff _ _ (by omega) (by omega), ff _ _ (by omega) (by omega)]
                exact this
              · have h1 := hM.2 i t i0 (by omega) t0 t1
                have h2 := hk5 t t0 (by omega)
                unfold FQ
                rw [f6 _ _ (by omega), f6 _ _ (by omega), h2.1, h2.2, f4 _ _ (by omega) (by omega), f4 _ _ (by omega) (by omega)]
                exact h1
              · rw [w32_id (x := 10 * i) (by omega) (by omega), w32_id (x := 10 * i + j) (by omega) (by omega)]
                rw [c2] at hR2
                refine fin _ s7 (Or.inr ⟨i, j, ⟨i0, by omega, j0, by omega, c, hR2⟩, rfl, fun i' j' a0 a1 b0 b1 ne z => ?_⟩) (fun b j z1 z2 => by rw [f7 b j z1]; exact ff b j z1 z2)
                rcases z with z | z
                · exact ha i' j' a0 z b0 b1 ne
                · obtain ⟨z1, z2⟩ := z
                  rw [z1] at ne ⊢; exact hj j' b0 z2 ne
              · refine ihu (j + 1) s7 (by omega) (by omega) (fun j' b0 b1 ne => ?_) hb7 (fun b j z => by rw [f7 b j z]; exact f6 b j z)
                by_cases y : j' = j
                · rw [y]; intro hE1; exact c2 (CmpR_u hR2 hE1)
                · exact hj j' b0 (by omega) ne
          exact l35 (σ 357 g).toNat 0 s5 (Int.le_refl 0) (by omega) (fun j' a b => by omega) (by rw [f5 _ _ (by omega) (by omega)]; exact hb) (fun _ _ _ => rfl)
      exact l24 (σ 357 g).toNat 0 s3 (Int.le_refl 0) (by omega) (fun i' j' a b => by omega) hM.1 (fun _ _ _ _ => rfl)
    -- the class
    have x29 : ∀ (q : Nat) (i : Int), 0 ≤ i → i + q = σ 357 g → (∀ i' j', 0 ≤ i' → i' < i → 0 ≤ j' → j' < σ 357 g → ¬ j' = i' → ¬ CmpR (σ 358 g) (fun t => σ 364 (56 * g + 8 * i' + t)) (fun t => shN σ g (σ 366 w) (8 * j' + t)) (shB σ g (σ 366 w)) (fun t => shN σ g (σ 366 w) (8 * i' + t)) (shB σ g (σ 366 w)) 1) → AW2 i_X_envy (d + 6) 29 [] [(4, (2, 4 + 43 * g)), (5, (2, 33 + 43 * g + 2 * σ 366 w)), (6, (0, i))] s2 (fun w1 σ1 => AM2 i_M_envy (d + 6) [(2, 356), (0, g), (0, w)] σ1 (fun w2 σ2 => P w1 w2 σ2)) := by
      intro q
      induction q with
      | zero =>
        intro i i0 e ha
        refine s_X_envy_29 ?_
        rw [ckg, en2]
        exact brF_i (by omega) (model _ (Or.inl ⟨rfl, fun i' j' a0 a1 b0 b1 ne => ha i' j' a0 (by omega) b0 b1 ne⟩))
      | succ q ih =>
        intro i i0 e ha
        refine s_X_envy_29 ?_
        rw [ckg, en2]
        refine brT_i (by omega) ?_
        have x35 : ∀ (u : Nat) (j : Int), 0 ≤ j → j + u = σ 357 g → (∀ j', 0 ≤ j' → j' < j → ¬ j' = i → ¬ CmpR (σ 358 g) (fun t => σ 364 (56 * g + 8 * i + t)) (fun t => shN σ g (σ 366 w) (8 * j' + t)) (shB σ g (σ 366 w)) (fun t => shN σ g (σ 366 w) (8 * i + t)) (shB σ g (σ 366 w)) 1) → AW2 i_X_envy (d + 6) 35 [] [(4, (2, 4 + 43 * g)), (5, (2, 33 + 43 * g + 2 * σ 366 w)), (6, (0, i)), (7, (0, j))] s2 (fun w1 σ1 => AM2 i_M_envy (d + 6) [(2, 356), (0, g), (0, w)] σ1 (fun w2 σ2 => P w1 w2 σ2)) := by
          intro u
          induction u with
          | zero =>
            intro j j0 e2 hj
            refine s_X_envy_35 ?_
            rw [ckg, en2, w32_id (x := i + 1) (by omega) (by omega)]
            refine brF_i (by omega) (ih (i + 1) (by omega) (by omega) (fun i' j' a0 a1 b0 b1 ne => ?_))
            by_cases y : i' = i
            · rw [y] at ne ⊢; exact hj j' b0 (by omega) ne
            · exact ha i' j' a0 (by omega) b0 b1 ne
          | succ u ihu =>
            intro j j0 e2 hj
            refine s_X_envy_35 ?_
            rw [ckg, en2, w32_id (x := j + 1) (by omega) (by omega)]
            refine brT_i (by omega) ⟨fun c => ihu (j + 1) (by omega) (by omega) (fun j' b0 b1 ne => hj j' b0 (by omega) ne), fun c => ?_⟩
            have hx := rowsX hse g0 g5 hA hB i0 (show i < σ 357 g by omega)
            have hw := (hG g g0 gb).1 i i0 (by omega)
            refine X_compareRows_ok (m := σ 358 g) (z := σ 362 (7 * g + i)) (ls := fun x => σ 363 (56 * g + 8 * i + x)) (lv := fun t => σ 364 (56 * g + 8 * i + t)) (A := fun t => shN σ g (σ 366 w) (8 * j + t)) (C := fun t => shN σ g (σ 366 w) (8 * i + t)) g0 (by omega) i0 (by omega) ⟨j0, by omega⟩ ⟨i0, by omega⟩ ⟨g0, by omega⟩ ⟨hk.1, by omega⟩ ⟨g0, by omega⟩ ⟨hk.1, by omega⟩ (by omega) hw hx.1 hx.2.1 hx.2.2 (fun t t0 t1 => ⟨hS.2 j t j0 (by omega) t0 t1, hr.2 j t j0 (by omega) t0 t1⟩) ⟨hS.1.1, hr.1⟩ (fun t t0 t1 => ⟨hS.2 i t i0 (by omega) t0 t1, hr.2 i t i0 (by omega) t0 t1⟩) ⟨hS.1.1, hr.1⟩ (fun r hR => ⟨fun c2 => ?_, fun c2 => ?_⟩)
            · rw [w32_id (x := 10 * i) (by omega) (by omega), w32_id (x := 10 * i + j) (by omega) (by omega)]
              rw [c2] at hR
              refine model _ (Or.inr ⟨i, j, ⟨i0, by omega, j0, by omega, c, hR⟩, rfl, fun i' j' a0 a1 b0 b1 ne z => ?_⟩)
              rcases z with z | z
              · exact ha i' j' a0 z b0 b1 ne
              · obtain ⟨z1, z2⟩ := z
                rw [z1] at ne ⊢; exact hj j' b0 z2 ne
            · refine ihu (j + 1) (by omega) (by omega) (fun j' b0 b1 ne => ?_)
              by_cases y : j' = j
              · rw [y]; intro hE1; exact c2 (CmpR_u hR hE1)
              · exact hj j' b0 (by omega) ne
        exact x35 (σ 357 g).toNat 0 (Int.le_refl 0) (by omega) (fun j' a b => by omega)
    exact x29 (σ 357 g).toNat 0 (Int.le_refl 0) (by omega) (fun i' j' a b => by omega)
  · have bad : AM2 i_M_envy (d + 6) [(2, 356), (0, g), (0, w)] σ (fun w2 σ2 => P (-1) w2 σ2) :=
      e_M_envy fun _ _ => Mg hI (fun g0 _ gb _ _ _ => br1 (M_isWay_ok ⟨hW.2.1, hW.2.2.1⟩ (fun u0 u1 => absurd ⟨g0, gb, u0, u1⟩ C) (fun _ => br0 hh))) (fun _ => br0 hh)
    refine e_X_envy fun _ _ => X_kindAt_ok hW (fun u0 u1 _ _ => Xg hI (fun g0 g5 gb _ _ _ => absurd ⟨g0, gb, u0, u1⟩ C) (fun _ => br0 bad)) (fun c => Xg hI (fun g0 g5 gb _ _ _ => br1 (brT_i (by decide) bad)) (fun _ => br0 bad))
