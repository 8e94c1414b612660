theorem X_hasUnlisted_ok {d : Nat} {K : Int → Mem → Prop} {σ : Mem} {g p : Int} (h0 : 0 ≤ g) (h5 : g ≤ 5) (p0 : 0 ≤ p) (p7 : p < 7) (hn : 1 ≤ σ (4 + 43 * g) 0 ∧ σ (4 + 43 * g) 0 ≤ 8) (h1 : unl (σ (4 + 43 * g) 0) (σ (25 + 43 * g + p)) (σ (17 + 43 * g + p)) = true → K 1 σ) (h2 : unl (σ (4 + 43 * g) 0) (σ (25 + 43 * g + p)) (σ (17 + 43 * g + p)) = false → K 0 σ) :
    AM2 i_Giving_hasUnlisted (d + 1) [(2, 4 + 43 * g), (0, p)] σ K := by
  have go : ∀ (m : Nat) (i : Int), 0 ≤ i → i + m = σ (4 + 43 * g) 0 → ((¬ fsT (fun t => decide (0 < σ (25 + 43 * g + p) t ∧ σ (17 + 43 * g + p) t < 0)) (fun t => t) m i = -1) → K 1 σ) → (fsT (fun t => decide (0 < σ (25 + 43 * g + p) t ∧ σ (17 + 43 * g + p) t < 0)) (fun t => t) m i = -1 → K 0 σ) → AW2 i_Giving_hasUnlisted (d + 1) 2 [] [(0, (2, 4 + 43 * g)), (1, (0, p)), (2, (0, i))] σ K := by
    intro m
    induction m with
    | zero => intro i i0 e a b; refine s_Giving_hasUnlisted_2 ?_; rw [ck_g h0 h5]; exact ⟨fun c => by omega, fun _ => b rfl⟩
    | succ m ih =>
      intro i i0 e a b
      refine s_Giving_hasUnlisted_2 ?_
      (try simp (disch := omega) only [w32_id, w64_id, inb_eq, st_self, st_ne, pt3, ck_g, ck_am, ck_he, ck_sz, ck_ls, ck_lv, ck_pa, ck_kn, sn_am, sn_he, sn_sz, sn_ls, sn_lv, sn_pa, sn_kn, pt_am, pt_he, pt_sz, pt_ls, pt_lv, pt_pa, pt_kn, ck_lr, ck_vr, ck_pr, sn_lr, sn_vr, sn_pr, pt_lr, pt_vr, pt_pr, pt_sh, ck_sh, pt_to, ck_to, sn_to])
      refine ⟨fun _ => ⟨fun c => ⟨fun c2 => ?_, fun c2 => ?_⟩, fun c => ?_⟩, fun c => by omega⟩
      · rw [fsT_T (decide_eq_true ⟨c, c2⟩)] at a; exact a (by omega)
      · rw [fsT_F (by simp; omega)] at a b; exact ih (i + 1) (by omega) (by omega) a b
      · rw [fsT_F (by simp; omega)] at a b; exact ih (i + 1) (by omega) (by omega) a b
  refine e_Giving_hasUnlisted fun _ => go (σ (4 + 43 * g) 0).toNat 0 (Int.le_refl 0) (by omega) (fun c => h1 ?_) (fun c => h2 ?_)
  · unfold unl; exact decide_eq_true c
  · unfold unl; exact decide_eq_false (fun z => z c)
theorem X_barring_ok {d : Nat} {K : Int → Mem → Prop} {σ : Mem} {g : Int} (h0 : 0 ≤ g) (h5 : g ≤ 5) (hn : 1 ≤ σ (4 + 43 * g) 0 ∧ σ (4 + 43 * g) 0 ≤ 8) (hn1 : 1 ≤ σ (4 + 43 * g) 1 ∧ σ (4 + 43 * g) 1 ≤ 7) (hr : 1 ≤ σ (4 + 43 * g) 2 ∧ σ (4 + 43 * g) 2 ≤ 3) (ha : ∀ t, 0 ≤ t → t < σ (4 + 43 * g) 0 → 1 ≤ σ (5 + 43 * g) t ∧ σ (5 + 43 * g) t ≤ 9) (hb : ∀ p t, 0 ≤ p → p < σ (4 + 43 * g) 1 → 0 ≤ t → t < σ (4 + 43 * g) 0 → 0 ≤ σ (25 + 43 * g + p) t ∧ σ (25 + 43 * g + p) t ≤ 60)
    (h : K (barD (σ (4 + 43 * g) 1) (σ (4 + 43 * g) 0) (σ (4 + 43 * g) 2) (fun p => σ (25 + 43 * g + p)) (fun p => σ (17 + 43 * g + p)) (σ (5 + 43 * g))) σ) : AM2 i_Giving_barring (d + 2) [(2, 4 + 43 * g)] σ K := by
  unfold barD at h
  have go2 : ∀ (m : Nat) (i : Int), 0 ≤ i → i + m = σ (4 + 43 * g) 0 → K (pk2 (fsT (fun t => decide (60 * σ (5 + 43 * g) t < sm (fun p => σ (25 + 43 * g + p) t) (σ (4 + 43 * g) 1).toNat 0 0)) (fun t => t) m i)) σ → AW2 i_Giving_barring (d + 2) 24 [] [(0, (2, 4 + 43 * g)), (1, (0, i))] σ K := by
    intro m
    induction m with
    | zero => intro i i0 e h; refine s_Giving_barring_24 ?_; rw [ck_g h0 h5]; exact ⟨fun c => by omega, fun _ => h⟩
    | succ m ih =>
      intro i i0 e h
      have hq := ha i i0 (by omega)
      refine s_Giving_barring_24 ?_
      (try simp (disch := omega) only [w32_id, w64_id, inb_eq, st_self, st_ne, pt3, ck_g, ck_am, ck_he, ck_sz, ck_ls, ck_lv, ck_pa, ck_kn, sn_am, sn_he, sn_sz, sn_ls, sn_lv, sn_pa, sn_kn, pt_am, pt_he, pt_sz, pt_ls, pt_lv, pt_pa, pt_kn, ck_lr, ck_vr, ck_pr, sn_lr, sn_vr, sn_pr, pt_lr, pt_vr, pt_pr, pt_sh, ck_sh, pt_to, ck_to, sn_to])
      refine ⟨fun _ => X_partsOfThing_ok h0 h5 i0 (by omega) hn1 (fun p p0 p1 => hb p i p0 p1 i0 (by omega)) ?_, fun c => by omega⟩
      (try simp (disch := omega) only [w32_id, w64_id, inb_eq, st_self, st_ne, pt3, ck_g, ck_am, ck_he, ck_sz, ck_ls, ck_lv, ck_pa, ck_kn, sn_am, sn_he, sn_sz, sn_ls, sn_lv, sn_pa, sn_kn, pt_am, pt_he, pt_sz, pt_ls, pt_lv, pt_pa, pt_kn, ck_lr, ck_vr, ck_pr, sn_lr, sn_vr, sn_pr, pt_lr, pt_vr, pt_pr, pt_sh, ck_sh, pt_to, ck_to, sn_to])
      refine ⟨fun c => ?_, fun c => ?_⟩
      · rw [fsT_T (decide_eq_true c), pk2_n (by omega)] at h; exact h
      · rw [fsT_F (by simp; omega)] at h; exact ih (i + 1) (by omega) (by omega) h
  have go1 : ∀ (m : Nat) (i : Int), 0 ≤ i → i + m = σ (4 + 43 * g) 1 → K (pk (fsT (fun p => decide (60 * σ (4 + 43 * g) 2 < sm (σ (25 + 43 * g + p)) (σ (4 + 43 * g) 0).toNat 0 0) || unl (σ (4 + 43 * g) 0) (σ (25 + 43 * g + p)) (σ (17 + 43 * g + p))) (fun p => p) m i) (pk2 (fsT (fun t => decide (60 * σ (5 + 43 * g) t < sm (fun p => σ (25 + 43 * g + p) t) (σ (4 + 43 * g) 1).toNat 0 0)) (fun t => t) (σ (4 + 43 * g) 0).toNat 0))) σ → AW2 i_Giving_barring (d + 2) 2 [] [(0, (2, 4 + 43 * g)), (1, (0, i))] σ K := by
    intro m
    induction m with
    | zero => intro i i0 e h; refine s_Giving_barring_2 ?_; rw [ck_g h0 h5]; exact ⟨fun c => by omega, fun _ => go2 _ 0 (Int.le_refl 0) (by omega) h⟩
    | succ m ih =>
      intro i i0 e h
      refine s_Giving_barring_2 ?_
      (try simp (disch := omega) only [w32_id, w64_id, inb_eq, st_self, st_ne, pt3, ck_g, ck_am, ck_he, ck_sz, ck_ls, ck_lv, ck_pa, ck_kn, sn_am, sn_he, sn_sz, sn_ls, sn_lv, sn_pa, sn_kn, pt_am, pt_he, pt_sz, pt_ls, pt_lv, pt_pa, pt_kn, ck_lr, ck_vr, ck_pr, sn_lr, sn_vr, sn_pr, pt_lr, pt_vr, pt_pr, pt_sh, ck_sh, pt_to, ck_to, sn_to])
      refine ⟨fun _ => X_partsOfPerson_ok h0 h5 i0 (by omega) hn (fun t t0 t1 => hb i t i0 (by omega) t0 t1) ?_, fun c => by omega⟩
      (try simp (disch := omega) only [w32_id, w64_id, inb_eq, st_self, st_ne, pt3, ck_g, ck_am, ck_he, ck_sz, ck_ls, ck_lv, ck_pa, ck_kn, sn_am, sn_he, sn_sz, sn_ls, sn_lv, sn_pa, sn_kn, pt_am, pt_he, pt_sz, pt_ls, pt_lv, pt_pa, pt_kn, ck_lr, ck_vr, ck_pr, sn_lr, sn_vr, sn_pr, pt_lr, pt_vr, pt_pr, pt_sh, ck_sh, pt_to, ck_to, sn_to])
      refine ⟨fun c => ?_, fun c => ?_⟩
      · rw [fsT_T (by rw [Bool.or_eq_true]; exact Or.inl (decide_eq_true c)), pk_n (by omega)] at h; exact h
      · refine X_hasUnlisted_ok h0 h5 i0 (by omega) hn (fun u => br1 ?_) (fun u => br0 ?_)
        · rw [fsT_T (by rw [Bool.or_eq_true]; exact Or.inr u), pk_n (by omega)] at h; exact h
        · rw [fsT_F (by rw [Bool.or_eq_false_iff]; exact ⟨decide_eq_false c, u⟩)] at h; exact ih (i + 1) (by omega) (by omega) h
  exact e_Giving_barring (go1 _ 0 (Int.le_refl 0) (by omega) h)
/-- the model's copy of a table -/
theorem M_parts_loop {d : Nat} {K : Int → Mem → Prop} {g : Int} (h0 : 0 ≤ g) (h5 : g ≤ 5) : ∀ (m : Nat) (k : Int) (σ : Mem), 0 ≤ k → k + m = 56 → (∀ σ2 : Mem, (∀ j, k ≤ j → j < 56 → σ2 398 j = σ 365 (56 * g + j)) → (∀ b j, ¬ (b = 398 ∧ k ≤ j ∧ j < 56) → σ2 b j = σ b j) → AW2 i_M_barsOf (d + 1) 21 [] [(0, (2, 356)), (1, (0, g)), (2, (0, 0))] σ2 K) → AW2 i_M_barsOf (d + 1) 2 [] [(0, (2, 356)), (1, (0, g)), (2, (0, k))] σ K := by
  intro m
  induction m with
  | zero => intro k σ k0 e h; exact s_M_barsOf_2 ⟨fun c => by omega, fun _ => h σ (fun j a b => by omega) (fun _ _ _ => rfl)⟩
  | succ m ih =>
    intro k σ k0 e h
    refine s_M_barsOf_2 ⟨fun _ => ?_, fun c => by omega⟩
    (try simp (disch := omega) only [w32_id, w64_id, inb_eq, st_self, st_ne, pt3, ck_g, ck_am, ck_he, ck_sz, ck_ls, ck_lv, ck_pa, ck_kn, sn_am, sn_he, sn_sz, sn_ls, sn_lv, sn_pa, sn_kn, pt_am, pt_he, pt_sz, pt_ls, pt_lv, pt_pa, pt_kn, ck_lr, ck_vr, ck_pr, sn_lr, sn_vr, sn_pr, pt_lr, pt_vr, pt_pr, pt_sh, ck_sh, pt_to, ck_to, sn_to])
    refine ih (k + 1) _ (by omega) (by omega) (fun σ2 x1 x2 => h σ2 (fun j a b => ?_) (fun b j c => ?_))
    · by_cases q : j = k
      · subst q; rw [x2 _ _ (by omega), st_self]
      · rw [x1 j (by omega) b, st_ne (by omega)]
    · rw [x2 b j (by omega), st_ne (by omega)]
theorem M_barsOf_ok {d : Nat} {K : Int → Mem → Prop} {σ : Mem} {g : Int} (h0 : 0 ≤ g) (h5 : g ≤ 5) (hn : 1 ≤ σ 358 g ∧ σ 358 g ≤ 8) (hn1 : 1 ≤ σ 357 g ∧ σ 357 g ≤ 7) (hr : 1 ≤ σ 359 g ∧ σ 359 g ≤ 3) (ha : ∀ t, 0 ≤ t → t < σ 358 g → 1 ≤ σ 360 (8 * g + t) ∧ σ 360 (8 * g + t) ≤ 9) (hb : ∀ p t, 0 ≤ p → p < σ 357 g → 0 ≤ t → t < σ 358 g → 0 ≤ σ 365 (56 * g + 8 * p + t) ∧ σ 365 (56 * g + 8 * p + t) ≤ 60)
    (h : ∀ σ2 : Mem, (∀ j, 0 ≤ j → j < 56 → σ2 398 j = σ 365 (56 * g + j)) → (∀ b j, ¬ (b = 398 ∧ 0 ≤ j ∧ j < 56) → σ2 b j = σ b j) → K (barD (σ 357 g) (σ 358 g) (σ 359 g) (fun p t => σ 365 (56 * g + 8 * p + t)) (fun p t => σ 364 (56 * g + 8 * p + t)) (fun t => σ 360 (8 * g + t))) σ2) : AM2 i_M_barsOf (d + 2) [(2, 356), (0, g)] σ K := by
  refine e_M_barsOf fun _ => M_parts_loop h0 h5 56 0 σ (Int.le_refl 0) rfl (fun σ2 x1 x2 => ?_)
  have h := h σ2 x1 x2
  have e7 : σ2 357 g = σ 357 g := x2 _ _ (by omega)
  have e8 : σ2 358 g = σ 358 g := x2 _ _ (by omega)
  have e9 : σ2 359 g = σ 359 g := x2 _ _ (by omega)
  have e0 : ∀ t, σ2 360 (8 * g + t) = σ 360 (8 * g + t) := fun t => x2 _ _ (by omega)
  have e4 : ∀ p t, σ2 364 (56 * g + 8 * p + t) = σ 364 (56 * g + 8 * p + t) := fun p t => x2 _ _ (by omega)
  have e3 : ∀ p t, 0 ≤ p → p < σ 357 g → 0 ≤ t → t < σ 358 g → σ2 398 (8 * p + t) = σ 365 (56 * g + 8 * p + t) := fun p t p0 p1 t0 t1 => by rw [x1 _ (by omega) (by omega)]; congr 1; omega
  rw [barD_congr (pf' := fun p t => σ2 398 (8 * p + t)) (lf' := fun p t => σ2 364 (56 * g + 8 * p + t)) (af' := fun t => σ2 360 (8 * g + t)) (fun p t p0 p1 t0 t1 => ⟨(e3 p t p0 p1 t0 t1).symm, (e4 p t).symm⟩) (fun t _ _ => (e0 t).symm)] at h
  have hb2 : ∀ p t, 0 ≤ p → p < σ2 357 g → 0 ≤ t → t < σ2 358 g → 0 ≤ σ2 398 (8 * p + t) ∧ σ2 398 (8 * p + t) ≤ 60 := fun p t p0 p1 t0 t1 => by rw [e3 p t p0 (by omega) t0 (by omega)]; exact hb p t p0 (by omega) t0 (by omega)
  have ha2 : ∀ t, 0 ≤ t → t < σ2 358 g → 1 ≤ σ2 360 (8 * g + t) ∧ σ2 360 (8 * g + t) ≤ 9 := fun t t0 t1 => by rw [e0]; exact ha t t0 (by omega)
  rw [← e7] at hn1
  rw [← e8] at hn
  rw [← e9] at hr
  rw [← e7, ← e8, ← e9] at h
  clear e0 e4 e3 e7 e8 e9 x1 x2 ha hb
  unfold barD at h
  have go2 : ∀ (m : Nat) (i : Int), 0 ≤ i → i + m = σ2 358 g → K (pk2 (fsT (fun t => decide (60 * σ2 360 (8 * g + t) < sm (fun p => σ2 398 (8 * p + t)) (σ2 357 g).toNat 0 0)) (fun t => t) m i)) σ2 → AW2 i_M_barsOf (d + 2) 88 [] [(0, (2, 356)), (1, (0, g)), (2, (0, i))] σ2 K := by
    intro m
    induction m with
    | zero => intro i i0 e h; refine s_M_barsOf_88 ?_; rw [inb_eq h0 (by omega)]; exact ⟨fun c => by omega, fun _ => h⟩
    | succ m ih =>
      intro i i0 e h
      have hq := ha2 i i0 (by omega)
      refine s_M_barsOf_88 ?_
      (try simp (disch := omega) only [w32_id, w64_id, inb_eq, st_self, st_ne, pt3, ck_g, ck_am, ck_he, ck_sz, ck_ls, ck_lv, ck_pa, ck_kn, sn_am, sn_he, sn_sz, sn_ls, sn_lv, sn_pa, sn_kn, pt_am, pt_he, pt_sz, pt_ls, pt_lv, pt_pa, pt_kn, ck_lr, ck_vr, ck_pr, sn_lr, sn_vr, sn_pr, pt_lr, pt_vr, pt_pr, pt_sh, ck_sh, pt_to, ck_to, sn_to])
      refine ⟨fun _ => M_sumOver_ok h0 h5 i0 (by omega) hn1 (fun p p0 p1 => hb2 p i p0 p1 i0 (by omega)) ?_, fun c => by omega⟩
      (try simp (disch := omega) only [w32_id, w64_id, inb_eq, st_self, st_ne, pt3, ck_g, ck_am, ck_he, ck_sz, ck_ls, ck_lv, ck_pa, ck_kn, sn_am, sn_he, sn_sz, sn_ls, sn_lv, sn_pa, sn_kn, pt_am, pt_he, pt_sz, pt_ls, pt_lv, pt_pa, pt_kn, ck_lr, ck_vr, ck_pr, sn_lr, sn_vr, sn_pr, pt_lr, pt_vr, pt_pr, pt_sh, ck_sh, pt_to, ck_to, sn_to])
      refine ⟨fun c => ?_, fun c => ?_⟩
      · rw [fsT_T (decide_eq_true c), pk2_n (by omega)] at h; exact h
      · rw [fsT_F (by simp; omega)] at h; exact ih (i + 1) (by omega) (by omega) h
  have go3 : ∀ (p : Int), 0 ≤ p → p < σ2 357 g → ∀ (G B : Prop), (G → AW2 i_M_barsOf (d + 2) 21 [] [(0, (2, 356)), (1, (0, g)), (2, (0, p + 1))] σ2 K) → (B → K p σ2) → ∀ (m : Nat) (i v : Int), 0 ≤ i → i + m = σ2 358 g → (v = 0 ∨ v = 1) → (v = 0 → B) → (v = 1 → ¬ fsT (fun t => decide (0 < σ2 398 (8 * p + t) ∧ σ2 364 (56 * g + 8 * p + t) < 0)) (fun t => t) m i = -1 → B) → (v = 1 → fsT (fun t => decide (0 < σ2 398 (8 * p + t) ∧ σ2 364 (56 * g + 8 * p + t) < 0)) (fun t => t) m i = -1 → G) → AW2 i_M_barsOf (d + 2) 44 [] [(0, (2, 356)), (1, (0, g)), (2, (0, p)), (3, (0, v)), (4, (0, i))] σ2 K := by
    intro p p0 p1 G B kG kB m
    induction m with
    | zero =>
      intro i v i0 e hv hB h1 h2
      refine s_M_barsOf_44 ?_
      (try simp (disch := omega) only [w32_id, w64_id, inb_eq, st_self, st_ne, pt3, ck_g, ck_am, ck_he, ck_sz, ck_ls, ck_lv, ck_pa, ck_kn, sn_am, sn_he, sn_sz, sn_ls, sn_lv, sn_pa, sn_kn, pt_am, pt_he, pt_sz, pt_ls, pt_lv, pt_pa, pt_kn, ck_lr, ck_vr, ck_pr, sn_lr, sn_vr, sn_pr, pt_lr, pt_vr, pt_pr, pt_sh, ck_sh, pt_to, ck_to, sn_to])
      exact ⟨fun c => by omega, fun _ => ⟨fun c => kB (hB c), fun c => kG (h2 (by omega) rfl)⟩⟩
    | succ m ih =>
      intro i v i0 e hv hB h1 h2
      have hq := hb2 p i p0 (by omega) i0 (by omega)
      refine s_M_barsOf_44 ?_
      (try simp (disch := omega) only [w32_id, w64_id, inb_eq, st_self, st_ne, pt3, ck_g, ck_am, ck_he, ck_sz, ck_ls, ck_lv, ck_pa, ck_kn, sn_am, sn_he, sn_sz, sn_ls, sn_lv, sn_pa, sn_kn, pt_am, pt_he, pt_sz, pt_ls, pt_lv, pt_pa, pt_kn, ck_lr, ck_vr, ck_pr, sn_lr, sn_vr, sn_pr, pt_lr, pt_vr, pt_pr, pt_sh, ck_sh, pt_to, ck_to, sn_to])
      refine ⟨fun _ => ⟨fun c => ih (i + 1) 0 (by omega) (by omega) (Or.inl rfl) (fun _ => hB c) (fun z => absurd z (by decide)) (fun z => absurd z (by decide)), fun c => ⟨fun c2 => ?_, fun c2 => ⟨fun c3 => ?_, fun c3 => ?_⟩⟩⟩, fun c => by omega⟩
      · rw [fsT_F (by simp; omega)] at h1 h2; exact ih (i + 1) 1 (by omega) (by omega) (Or.inr rfl) (fun z => absurd z (by decide)) (fun _ => h1 (by omega)) (fun _ => h2 (by omega))
      · rw [fsT_T (decide_eq_true ⟨by omega, c3⟩)] at h1; exact ih (i + 1) 0 (by omega) (by omega) (Or.inl rfl) (fun _ => h1 (by omega) (by omega)) (fun z => absurd z (by decide)) (fun z => absurd z (by decide))
      · rw [fsT_F (by simp; omega)] at h1 h2; exact ih (i + 1) 1 (by omega) (by omega) (Or.inr rfl) (fun z => absurd z (by decide)) (fun _ => h1 (by omega)) (fun _ => h2 (by omega))
  have go1 : ∀ (m : Nat) (i : Int), 0 ≤ i → i + m = σ2 357 g → K (pk (fsT (fun p => decide (60 * σ2 359 g < sm (fun t => σ2 398 (8 * p + t)) (σ2 358 g).toNat 0 0) || unl (σ2 358 g) (fun t => σ2 398 (8 * p + t)) (fun t => σ2 364 (56 * g + 8 * p + t))) (fun p => p) m i) (pk2 (fsT (fun t => decide (60 * σ2 360 (8 * g + t) < sm (fun p => σ2 398 (8 * p + t)) (σ2 357 g).toNat 0 0)) (fun t => t) (σ2 358 g).toNat 0))) σ2 → AW2 i_M_barsOf (d + 2) 21 [] [(0, (2, 356)), (1, (0, g)), (2, (0, i))] σ2 K := by
    intro m
    induction m with
    | zero => intro i i0 e h; refine s_M_barsOf_21 ?_; rw [inb_eq h0 (by omega)]; exact ⟨fun c => by omega, fun _ => go2 _ 0 (Int.le_refl 0) (by omega) h⟩
    | succ m ih =>
      intro i i0 e h
      refine s_M_barsOf_21 ?_
      (try simp (disch := omega) only [w32_id, w64_id, inb_eq, st_self, st_ne, pt3, ck_g, ck_am, ck_he, ck_sz, ck_ls, ck_lv, ck_pa, ck_kn, sn_am, sn_he, sn_sz, sn_ls, sn_lv, sn_pa, sn_kn, pt_am, pt_he, pt_sz, pt_ls, pt_lv, pt_pa, pt_kn, ck_lr, ck_vr, ck_pr, sn_lr, sn_vr, sn_pr, pt_lr, pt_vr, pt_pr, pt_sh, ck_sh, pt_to, ck_to, sn_to])
      refine ⟨fun _ => M_sumOf_ok h0 h5 i0 (by omega) hn (fun t t0 t1 => hb2 i t i0 (by omega) t0 t1) ?_, fun c => by omega⟩
      (try simp (disch := omega) only [w32_id, w64_id, inb_eq, st_self, st_ne, pt3, ck_g, ck_am, ck_he, ck_sz, ck_ls, ck_lv, ck_pa, ck_kn, sn_am, sn_he, sn_sz, sn_ls, sn_lv, sn_pa, sn_kn, pt_am, pt_he, pt_sz, pt_ls, pt_lv, pt_pa, pt_kn, ck_lr, ck_vr, ck_pr, sn_lr, sn_vr, sn_pr, pt_lr, pt_vr, pt_pr, pt_sh, ck_sh, pt_to, ck_to, sn_to])
      refine ⟨fun c => ?_, fun c => ?_⟩
      · rw [fsT_T (by rw [Bool.or_eq_true]; exact Or.inl (decide_eq_true c)), pk_n (by omega)] at h
        exact go3 i i0 (by omega) False True (fun z => z.elim) (fun _ => h) (σ2 358 g).toNat 0 0 (Int.le_refl 0) (by omega) (Or.inl rfl) (fun _ => trivial) (fun z => absurd z (by decide)) (fun z => absurd z (by decide))
      · refine go3 i i0 (by omega) (unl (σ2 358 g) (fun t => σ2 398 (8 * i + t)) (fun t => σ2 364 (56 * g + 8 * i + t)) = false) (unl (σ2 358 g) (fun t => σ2 398 (8 * i + t)) (fun t => σ2 364 (56 * g + 8 * i + t)) = true) (fun u => ?_) (fun u => ?_) (σ2 358 g).toNat 0 1 (Int.le_refl 0) (by omega) (Or.inr rfl) (fun z => absurd z (by decide)) (fun _ z => decide_eq_true z) (fun _ z => decide_eq_false (fun y => y z))
        · rw [fsT_F (by rw [Bool.or_eq_false_iff]; exact ⟨decide_eq_false c, u⟩)] at h; exact ih (i + 1) (by omega) (by omega) h
        · rw [fsT_T (by rw [Bool.or_eq_true]; exact Or.inr u), pk_n (by omega)] at h; exact h
  exact go1 _ 0 (Int.le_refl 0) (by omega) h
