theorem giv_P2 {σ σ1 : Mem} (hI : I_giv σ) (f : ∀ b j, 356 ≤ b → b ≤ 358 → σ1 b j = σ b j) : (0 ≤ mG σ1 ∧ mG σ1 ≤ 5) ∧ (∀ g, 0 ≤ g → g < mG σ1 → 1 ≤ σ1 357 g ∧ σ1 357 g ≤ 7) ∧ (∀ g, 0 ≤ g → g < mG σ1 → 1 ≤ σ1 358 g ∧ σ1 358 g ≤ 8) := by
  have h := giv_P hI
  unfold mG at *
  rw [f 356 0 (by omega) (by omega)]
  exact ⟨h.1, fun g a b => by rw [f 357 g (by omega) (by omega)]; exact h.2.1 g a b, fun g a b => by rw [f 358 g (by omega) (by omega)]; exact h.2.2 g a b⟩
/-- what a table's change leaves -/
def TE (σ σ2 : Mem) (g : Int) : Prop := (σ2 (33 + 43 * g + 2 * 5) 2 = 0 ∧ σ2 (33 + 43 * g + 2 * 6) 2 = 0 ∧ σ2 316 3 = -1) ∧ ∀ b j, ¬ (25 + 43 * g ≤ b ∧ b ≤ 31 + 43 * g) → ¬ (b = 365 ∧ 56 * g ≤ j ∧ j < 56 * g + 56) → ¬ (b = 33 + 43 * g + 2 * 5 ∧ j = 2) → ¬ (b = 33 + 43 * g + 2 * 6 ∧ j = 2) → ¬ (b = 316 ∧ j = 3) → σ2 b j = σ b j
theorem TE_giv {σ σ2 : Mem} {g : Int} (hI : I_giv σ) (g0 : 0 ≤ g) (g1 : g < σ 356 0) (ht : TE σ σ2 g) (hC : GC σ2 g) : I_giv σ2 := by
  obtain ⟨-, f⟩ := ht
  obtain ⟨e, a0, a5, hg⟩ := hI
  have e1 := f 0 2 (by omega) (by omega) (by omega) (by omega) (by omega)
  have e2 := f 356 0 (by omega) (by omega) (by omega) (by omega) (by omega)
  refine ⟨by omega, by omega, by omega, fun x x0 x1 => ?_⟩
  obtain ⟨hA, hB, hC1⟩ := hg x x0 (by omega)
  have hn := hA.1
  refine ⟨GA_fr (fun b j c => ?_) hA, GB_fr (by omega) (fun b j c => ?_) hB, ?_⟩
  · unfold fA at c; exact f b j (by omega) (by omega) (by omega) (by omega) (by omega)
  · unfold fB at c; exact f b j (by omega) (by omega) (by omega) (by omega) (by omega)
  · by_cases q : x = g
    · rw [q]; exact hC
    · refine GC_fr (by omega) (fun b j c => ?_) hC1
      unfold fC at c; exact f b j (by omega) (by omega) (by omega) (by omega) (by omega)
theorem div10 {x : Int} (h : 0 ≤ x) : 0 ≤ x / 10 ∧ 0 ≤ x % 10 ∧ x % 10 < 10 ∧ x = 10 * (x / 10) + x % 10 := by omega
theorem X_isCell_ok {d : Nat} {K : Int → Mem → Prop} {σ : Mem} {g a : Int} (h0 : 0 ≤ g) (h5 : g ≤ 5) (k1 : 0 ≤ a → a / 10 < σ (4 + 43 * g) 1 → a % 10 < σ (4 + 43 * g) 0 → K 1 σ) (k0 : ¬ (0 ≤ a ∧ a / 10 < σ (4 + 43 * g) 1 ∧ a % 10 < σ (4 + 43 * g) 0) → K 0 σ) : AM2 i_X_isCell (d + 2) [(2, 4 + 43 * g), (0, a)] σ K := by
  refine e_X_isCell fun ha => ⟨fun c => k0 (by omega), fun c => ?_⟩
  unfold r32 at ha
  rw [divI_nn (by omega) (by omega) (by decide) (by decide), remI_nn (by omega) (by omega) (by decide) (by decide)]
  refine X_isPerson_ok h0 h5 (fun x y => br1 (X_isThing_ok h0 h5 (fun u v => br1 (k1 (by omega) y v)) (fun z => br0 (k0 (by omega))))) (fun z => br0 (k0 (by omega)))
theorem call_told {d : Nat} {σ : Mem} {g a v : Int} {P : Int → Int → Mem → Prop} (hI : I_giv σ) (h : ∀ r σ2, (σ2 = σ ∨ (0 ≤ g ∧ g < σ 356 0 ∧ TE σ σ2 g)) → I_giv σ2 → P r r σ2) :
    AM2 i_X_told (d + 4) [(2, 0), (0, g), (0, a), (0, v)] σ (fun w1 σ1 => AM2 i_M_told (d + 4) [(2, 356), (0, g), (0, a), (0, v)] σ1 (fun w2 σ2 => P w1 w2 σ2)) := by
  have bad : ¬ ((0 ≤ g ∧ g < σ 356 0) ∧ (0 ≤ a ∧ a / 10 < σ 357 g ∧ a % 10 < σ 358 g) ∧ 0 ≤ v ∧ v ≤ 60) → AM2 i_M_told (d + 4) [(2, 356), (0, g), (0, a), (0, v)] σ (fun w2 σ2 => P (-1) w2 σ2) := fun c => by
    have hh := h (-1) σ (Or.inl rfl) hI
    refine e_M_told fun _ ha _ => ⟨fun _ => hh, fun c0 => ?_⟩
    unfold r32 at ha
    rw [divI_nn (by omega) (by omega) (by decide) (by decide), remI_nn (by omega) (by omega) (by decide) (by decide)]
    refine Mp hI (fun a1 a5 b x y _ hA hB hC => br1 (Mt hI (fun _ _ _ u v1 _ _ _ _ => br1 ?_) (fun _ => br0 hh))) (fun _ => br0 hh)
    exact M_in_ok (fun z0 z1 => absurd ⟨⟨a1, b⟩, ⟨by omega, y, v1⟩, z0, z1⟩ c) (fun _ => br0 hh)
  refine e_X_told fun _ ha _ => Xg hI (fun g0 g5 b hA hB hC => br1 ?_) (fun c => br0 (bad (by omega)))
  unfold r32 at ha
  have hA0 := hA.1
  obtain ⟨m1, m2, m3⟩ := hA.2.1
  (try simp (disch := omega) only [w32_id, w64_id, inb_eq, st_self, st_ne, pt3, ck_g, ck_am, ck_he, ck_sz, ck_ls, ck_lv, ck_pa, ck_kn, sn_am, sn_he, sn_sz, sn_ls, sn_lv, sn_pa, sn_kn, pt_am, pt_he, pt_sz, pt_ls, pt_lv, pt_pa, pt_kn, ck_lr, ck_vr, ck_pr, sn_lr, sn_vr, sn_pr, pt_lr, pt_vr, pt_pr, pt_sh, ck_sh, pt_to, ck_to, sn_to])
  refine X_isCell_ok g0 (by omega) (fun a0 x y => br1 ?_) (fun z => br0 (bad (by omega)))
  rw [divI_nn (by omega) (by omega) (by decide) (by decide), remI_nn (by omega) (by omega) (by decide) (by decide)]
  generalize hp : a / 10 = p at *
  generalize ht : a % 10 = t at *
  refine ⟨fun c => bad (by omega), fun c => ⟨fun c2 => bad (by omega), fun c2 => ?_⟩⟩
  (try simp (disch := omega) only [w32_id, w64_id, inb_eq, st_self, st_ne, pt3, ck_g, ck_am, ck_he, ck_sz, ck_ls, ck_lv, ck_pa, ck_kn, sn_am, sn_he, sn_sz, sn_ls, sn_lv, sn_pa, sn_kn, pt_am, pt_he, pt_sz, pt_ls, pt_lv, pt_pa, pt_kn, ck_lr, ck_vr, ck_pr, sn_lr, sn_vr, sn_pr, pt_lr, pt_vr, pt_pr, pt_sh, ck_sh, pt_to, ck_to, sn_to])
  refine X_forgetTable_ok g0 (by omega) ?_
  generalize hs : st (st (st (st σ (25 + 43 * g + p) t v) (33 + 43 * g + 2 * 5) 2 0) (33 + 43 * g + 2 * 6) 2 0) 316 3 (-1) = s1
  have f : ∀ b j, ¬ (b = 25 + 43 * g + p ∧ j = t) → ¬ (b = 33 + 43 * g + 2 * 5 ∧ j = 2) → ¬ (b = 33 + 43 * g + 2 * 6 ∧ j = 2) → ¬ (b = 316 ∧ j = 3) → s1 b j = σ b j := fun b j h1 h2 h3 h4 => by rw [← hs, st_ne h4, st_ne h3, st_ne h2, st_ne h1]
  have w1 : s1 (33 + 43 * g + 2 * 5) 2 = 0 := by rw [← hs, st_ne (by omega), st_ne (by omega), st_self]
  have w2 : s1 (33 + 43 * g + 2 * 6) 2 = 0 := by rw [← hs, st_ne (by omega), st_self]
  have w3 : s1 316 3 = -1 := by rw [← hs, st_self]
  have w4 : s1 (25 + 43 * g + p) t = v := by rw [← hs, st_ne (by omega), st_ne (by omega), st_ne (by omega), st_self]
  have f2 : ∀ b j, 356 ≤ b → s1 b j = σ b j := fun b j q => f b j (by omega) (by omega) (by omega) (by omega)
  have hq := giv_P2 (σ1 := s1) hI (fun b j q _ => f2 b j q)
  have e0 : mG s1 = σ 356 0 := f2 _ _ (by omega)
  have e7 := f2 357 g (by omega)
  have e8 := f2 358 g (by omega)
  refine e_M_told fun _ _ _ => ⟨fun c => by omega, fun _ => ?_⟩
  rw [divI_nn (by omega) (by omega) (by decide) (by decide), remI_nn (by omega) (by omega) (by decide) (by decide), hp, ht]
  refine M_isPerson_ok hq.1 hq.2.1 (fun _ _ _ _ => br1 (M_isThing_ok hq.1 hq.2.2 (fun _ _ _ _ => br1 (M_in_ok (fun _ _ => br1 ?_) (fun z => absurd ⟨by omega, by omega⟩ z))) (fun z => absurd ⟨⟨g0, by omega⟩, by omega, by omega⟩ z))) (fun z => absurd ⟨⟨g0, by omega⟩, by omega, by omega⟩ z)
  (try simp (disch := omega) only [w32_id, w64_id, inb_eq, st_self, st_ne, pt3, ck_g, ck_am, ck_he, ck_sz, ck_ls, ck_lv, ck_pa, ck_kn, sn_am, sn_he, sn_sz, sn_ls, sn_lv, sn_pa, sn_kn, pt_am, pt_he, pt_sz, pt_ls, pt_lv, pt_pa, pt_kn, ck_lr, ck_vr, ck_pr, sn_lr, sn_vr, sn_pr, pt_lr, pt_vr, pt_pr, pt_sh, ck_sh, pt_to, ck_to, sn_to])
  rw [f2 _ _ (by omega), (hC p t (by omega) (by omega) (by omega) (by omega)).1]
  have te : TE σ (st s1 365 (56 * g + 8 * p + t) v) g := by
    refine ⟨⟨by rw [st_ne (by omega)]; exact w1, by rw [st_ne (by omega)]; exact w2, by rw [st_ne (by omega)]; exact w3⟩, fun b j h1 h2 h3 h4 h5 => ?_⟩
    rw [st_ne (by omega), f b j (by omega) (by omega) (by omega) (by omega)]
  refine h _ _ (Or.inr ⟨g0, b, te⟩) (TE_giv hI g0 b te (fun p' t' p0 p1 t0 t1 => ?_))
  rw [st_ne (by omega)] at p1 t1
  by_cases q : p' = p ∧ t' = t
  · obtain ⟨rfl, rfl⟩ := q
    rw [st_self, st_ne (by omega), w4]; omega
  · rw [st_ne (by omega), st_ne (by omega), f _ _ (by omega) (by omega) (by omega) (by omega), f2 _ _ (by omega)]
    exact hC p' t' p0 (by omega) t0 (by omega)
-- ===== rounds
theorem X_forgetAll_ok {d : Nat} {K : Int → Mem → Prop} {σ : Mem} {g : Int} (h0 : 0 ≤ g) (h5 : g ≤ 5) (h : ∀ σ2 : Mem, (∀ k, 0 ≤ k → k < 7 → σ2 (33 + 43 * g + 2 * k) 2 = 0) → σ2 (4 + 43 * g) 10 = 0 → (∀ b j, ¬ (33 + 43 * g ≤ b ∧ b < 47 + 43 * g ∧ j = 2) → ¬ (b = 4 + 43 * g ∧ j = 10) → σ2 b j = σ b j) → K 0 σ2) : AM2 i_Giving_forgetAll (d + 1) [(2, 4 + 43 * g)] σ K := by
  have go : ∀ (m : Nat) (k : Int) (s : Mem), 0 ≤ k → k + m = 7 → (∀ i, 0 ≤ i → i < k → s (33 + 43 * g + 2 * i) 2 = 0) → (∀ b j, ¬ (33 + 43 * g ≤ b ∧ b < 47 + 43 * g ∧ j = 2) → s b j = σ b j) → AW2 i_Giving_forgetAll (d + 1) 2 [] [(0, (2, 4 + 43 * g)), (1, (0, k))] s K := by
    intro m
    induction m with
    | zero =>
      intro k s k0 e x f
      refine s_Giving_forgetAll_2 ⟨fun c => by omega, fun _ => ?_⟩
      (try simp (disch := omega) only [w32_id, w64_id, inb_eq, st_self, st_ne, pt3, ck_g, ck_am, ck_he, ck_sz, ck_ls, ck_lv, ck_pa, ck_kn, sn_am, sn_he, sn_sz, sn_ls, sn_lv, sn_pa, sn_kn, pt_am, pt_he, pt_sz, pt_ls, pt_lv, pt_pa, pt_kn, ck_lr, ck_vr, ck_pr, sn_lr, sn_vr, sn_pr, pt_lr, pt_vr, pt_pr, pt_sh, ck_sh, pt_to, ck_to, sn_to])
      exact h _ (fun i i0 i1 => by rw [st_ne (by omega)]; exact x i i0 (by omega)) (st_self _ _ _ _) (fun b j h1 h2 => by rw [st_ne h2, f b j h1])
    | succ m ih =>
      intro k s k0 e x f
      refine s_Giving_forgetAll_2 ⟨fun _ => ?_, fun c => by omega⟩
      (try simp (disch := omega) only [w32_id, w64_id, inb_eq, st_self, st_ne, pt3, ck_g, ck_am, ck_he, ck_sz, ck_ls, ck_lv, ck_pa, ck_kn, sn_am, sn_he, sn_sz, sn_ls, sn_lv, sn_pa, sn_kn, pt_am, pt_he, pt_sz, pt_ls, pt_lv, pt_pa, pt_kn, ck_lr, ck_vr, ck_pr, sn_lr, sn_vr, sn_pr, pt_lr, pt_vr, pt_pr, pt_sh, ck_sh, pt_to, ck_to, sn_to])
      refine ih (k + 1) _ (by omega) (by omega) (fun i i0 i1 => ?_) (fun b j c => ?_)
      · by_cases q : i = k
        · rw [q, st_self]
        · rw [st_ne (by omega)]; exact x i i0 (by omega)
      · rw [st_ne (by omega), f b j c]
  exact e_Giving_forgetAll (go 7 0 σ (Int.le_refl 0) rfl (fun i _ _ => by omega) (fun _ _ _ => rfl))
/-- what a change of rounds leaves -/
def RE (σ σ2 : Mem) (g : Int) : Prop := (∀ k, 0 ≤ k → k < 7 → σ2 (33 + 43 * g + 2 * k) 2 = 0) ∧ σ2 (4 + 43 * g) 10 = 0 ∧ ∀ b j, ¬ (33 + 43 * g ≤ b ∧ b < 47 + 43 * g ∧ j = 2) → ¬ (b = 4 + 43 * g ∧ (j = 10 ∨ j = 2)) → ¬ (b = 359 ∧ j = g) → σ2 b j = σ b j
theorem st_same {σ : Mem} {a i : Int} : st σ a i (σ a i) = σ := by
  funext b j
  by_cases q : b = a ∧ j = i
  · rw [q.1, q.2, st_self]
  · rw [st_ne q]
theorem call_rounds {d : Nat} {σ : Mem} {g n : Int} {P : Int → Int → Mem → Prop} (hI : I_giv σ) (h : ∀ r σ2, (σ2 = σ ∨ (0 ≤ g ∧ g < σ 356 0 ∧ RE σ σ2 g)) → I_giv σ2 → P r r σ2) :
    AM2 i_X_rounds (d + 3) [(2, 0), (0, g), (0, n)] σ (fun w1 σ1 => AM2 i_M_rounds (d + 3) [(2, 356), (0, g), (0, n)] σ1 (fun w2 σ2 => P w1 w2 σ2)) := by
  have hh := h (-1) σ (Or.inl rfl) hI
  have bad : ¬ ((0 ≤ g ∧ g < σ 356 0) ∧ 1 ≤ n ∧ n ≤ 3) → AM2 i_M_rounds (d + 3) [(2, 356), (0, g), (0, n)] σ (fun w2 σ2 => P (-1) w2 σ2) := fun c =>
    e_M_rounds fun _ _ => Mg hI (fun a _ b _ _ _ => br1 (M_in_ok (fun x y => absurd ⟨⟨a, b⟩, x, y⟩ c) (fun _ => br0 hh))) (fun _ => br0 hh)
  refine e_X_rounds fun _ _ => Xg hI (fun g0 g5 b hA hB hC => br1 ⟨fun c => bad (by omega), fun c => ⟨fun c2 => bad (by omega), fun c2 => ?_⟩⟩) (fun c => br0 (bad (by omega)))
  have hA0 := hA.1
  obtain ⟨m1, m2, m3⟩ := hA.2.1
  (try simp (disch := omega) only [w32_id, w64_id, inb_eq, st_self, st_ne, pt3, ck_g, ck_am, ck_he, ck_sz, ck_ls, ck_lv, ck_pa, ck_kn, sn_am, sn_he, sn_sz, sn_ls, sn_lv, sn_pa, sn_kn, pt_am, pt_he, pt_sz, pt_ls, pt_lv, pt_pa, pt_kn, ck_lr, ck_vr, ck_pr, sn_lr, sn_vr, sn_pr, pt_lr, pt_vr, pt_pr, pt_sh, ck_sh, pt_to, ck_to, sn_to])
  refine ⟨fun q => ?_, fun q => ?_⟩
  · refine e_M_rounds fun _ _ => Mg hI (fun _ _ _ _ _ _ => br1 (M_in_ok (fun _ _ => br1 ?_) (fun z => absurd ⟨by omega, by omega⟩ z))) (fun z => absurd ⟨g0, b⟩ z)
    (try simp (disch := omega) only [w32_id, w64_id, inb_eq, st_self, st_ne, pt3, ck_g, ck_am, ck_he, ck_sz, ck_ls, ck_lv, ck_pa, ck_kn, sn_am, sn_he, sn_sz, sn_ls, sn_lv, sn_pa, sn_kn, pt_am, pt_he, pt_sz, pt_ls, pt_lv, pt_pa, pt_kn, ck_lr, ck_vr, ck_pr, sn_lr, sn_vr, sn_pr, pt_lr, pt_vr, pt_pr, pt_sh, ck_sh, pt_to, ck_to, sn_to])
    rw [show n = σ 359 g by omega, st_same, m3]
    exact h _ _ (Or.inl rfl) hI
  · refine X_forgetAll_ok g0 (by omega) (fun s1 x1 x2 f => ?_)
    have f2 : ∀ b j, 356 ≤ b → s1 b j = σ b j := fun b j q => by rw [f b j (by omega) (by omega), st_ne (by omega)]
    have hq := giv_P2 (σ1 := s1) hI (fun b j q _ => f2 b j q)
    have e0 : mG s1 = σ 356 0 := f2 _ _ (by omega)
    refine e_M_rounds fun _ _ => M_isGiving_ok hq.1 (fun _ _ => br1 (M_in_ok (fun _ _ => br1 ?_) (fun z => absurd ⟨by omega, by omega⟩ z))) (fun z => absurd ⟨g0, by omega⟩ z)
    (try simp (disch := omega) only [w32_id, w64_id, inb_eq, st_self, st_ne, pt3, ck_g, ck_am, ck_he, ck_sz, ck_ls, ck_lv, ck_pa, ck_kn, sn_am, sn_he, sn_sz, sn_ls, sn_lv, sn_pa, sn_kn, pt_am, pt_he, pt_sz, pt_ls, pt_lv, pt_pa, pt_kn, ck_lr, ck_vr, ck_pr, sn_lr, sn_vr, sn_pr, pt_lr, pt_vr, pt_pr, pt_sh, ck_sh, pt_to, ck_to, sn_to])
    rw [f2 _ _ (by omega), m3]
    have fr : ∀ b j, ¬ (33 + 43 * g ≤ b ∧ b < 47 + 43 * g ∧ j = 2) → ¬ (b = 4 + 43 * g ∧ (j = 10 ∨ j = 2)) → ¬ (b = 359 ∧ j = g) → st s1 359 g n b j = σ b j := fun b j h1 h2 h3 => by rw [st_ne h3, f b j h1 (by omega), st_ne (by omega)]
    refine h _ _ (Or.inr ⟨g0, b, fun k k0 k1 => by rw [st_ne (by omega)]; exact x1 k k0 k1, by rw [st_ne (by omega)]; exact x2, fr⟩) ?_
    obtain ⟨i1, i2, i3, i4⟩ := hI
    have e1 := fr 0 2 (by omega) (by omega) (by omega)
    have e2 := fr 356 0 (by omega) (by omega) (by omega)
    refine ⟨by omega, by omega, by omega, fun x x0 y1 => ?_⟩
    obtain ⟨qA, qB, qC⟩ := i4 x x0 (by omega)
    have hn := qA.1
    refine ⟨?_, GB_fr (by omega) (fun b j c => by unfold fB at c; exact fr b j (by omega) (by omega) (by omega)) qB, GC_fr (by omega) (fun b j c => by unfold fC at c; exact fr b j (by omega) (by omega) (by omega)) qC⟩
    by_cases q : x = g
    · subst q
      obtain ⟨⟨n1, n2, n3, n4, n5, n6⟩, ⟨o1, o2, o3⟩, ham, hsz, hls⟩ := qA
      have f7 := fr 357 x (by omega) (by omega) (by omega)
      have f8 := fr 358 x (by omega) (by omega) (by omega)
      have f9 : st s1 359 x n 359 x = n := st_self _ _ _ _
      refine ⟨by omega, ⟨?_, ?_, ?_⟩, fun t t0 t1 => ?_, fun p p0 p1 => ?_, fun p i p0 p1 i0 i1 => ?_⟩
      · rw [fr _ _ (by omega) (by omega) (by omega), f7, o1]
      · rw [fr _ _ (by omega) (by omega) (by omega), f8, o2]
      · rw [st_self, st_ne (by omega), f _ _ (by omega) (by omega), st_self]
      · rw [fr _ _ (by omega) (by omega) (by omega), fr _ _ (by omega) (by omega) (by omega)]; exact ham t t0 (by omega)
      · rw [fr _ _ (by omega) (by omega) (by omega), fr _ _ (by omega) (by omega) (by omega)]; exact hsz p p0 (by omega)
      · have e2 := fr 362 (7 * x + p) (by omega) (by omega) (by omega)
        rw [e2] at i1
        rw [fr _ _ (by omega) (by omega) (by omega), fr _ _ (by omega) (by omega) (by omega), f8]; exact hls p i p0 (by omega) i0 i1
    · exact GA_fr (fun b j c => by unfold fA at c; exact fr b j (by omega) (by omega) (by omega)) qA
