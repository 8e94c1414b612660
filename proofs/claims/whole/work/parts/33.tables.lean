-- ===== first ones, sums
def fsT (c : Int → Bool) (ls : Int → Int) : Nat → Int → Int
  | 0, _ => -1
  | m + 1, i => if c (ls i) then ls i else fsT c ls m (i + 1)
theorem fsT_congr {c c' : Int → Bool} {ls ls' : Int → Int} : ∀ (m : Nat) (i : Int), (∀ j, i ≤ j → j < i + m → ls j = ls' j ∧ c (ls j) = c' (ls' j)) → fsT c ls m i = fsT c' ls' m i
  | 0, _, _ => rfl
  | m + 1, i, h => by
    have h0 := h i (Int.le_refl i) (by omega)
    unfold fsT
    rw [h0.2, h0.1, fsT_congr m (i + 1) (fun j a b => h j (by omega) (by omega))]
theorem fsT_cases {c : Int → Bool} {ls : Int → Int} : ∀ (m : Nat) (i : Int), (fsT c ls m i = -1 ∧ ∀ j, i ≤ j → j < i + m → c (ls j) = false) ∨ (∃ j, i ≤ j ∧ j < i + m ∧ fsT c ls m i = ls j ∧ c (ls j) = true ∧ ∀ k, i ≤ k → k < j → c (ls k) = false)
  | 0, i => Or.inl ⟨rfl, fun j a b => by omega⟩
  | m + 1, i => by
    unfold fsT
    cases q : c (ls i) with
    | true => exact Or.inr ⟨i, Int.le_refl i, by omega, by rw [if_pos rfl], q, fun k a b => by omega⟩
    | false =>
      rw [if_neg (by simp)]
      rcases fsT_cases (c := c) (ls := ls) m (i + 1) with ⟨e, h⟩ | ⟨j, a, b, e, cj, h⟩
      · refine Or.inl ⟨e, fun j a b => ?_⟩
        by_cases z : j = i
        · rw [z]; exact q
        · exact h j (by omega) (by omega)
      · refine Or.inr ⟨j, by omega, by omega, e, cj, fun k a2 b2 => ?_⟩
        by_cases z : k = i
        · rw [z]; exact q
        · exact h k (by omega) b2
theorem fsT_T {c : Int → Bool} {ls : Int → Int} {m : Nat} {i : Int} (h : c (ls i) = true) : fsT c ls (m + 1) i = ls i := by
  show (if c (ls i) then ls i else fsT c ls m (i + 1)) = ls i
  rw [if_pos h]
theorem fsT_F {c : Int → Bool} {ls : Int → Int} {m : Nat} {i : Int} (h : c (ls i) = false) : fsT c ls (m + 1) i = fsT c ls m (i + 1) := by
  show (if c (ls i) then ls i else fsT c ls m (i + 1)) = _
  rw [if_neg (by rw [h]; decide)]
def pk (w x : Int) : Int := if w = -1 then x else w
def pk2 (t : Int) : Int := if t = -1 then -2 else 10 + t
theorem pk_n {w x : Int} (h : ¬ w = -1) : pk w x = w := if_neg h
theorem pk2_n {w : Int} (h : ¬ w = -1) : pk2 w = 10 + w := if_neg h
def sm (f : Int → Int) : Nat → Int → Int → Int
  | 0, _, a => a
  | m + 1, i, a => sm f m (i + 1) (a + f i)
theorem sm_congr {f f' : Int → Int} : ∀ (m : Nat) (i a : Int), (∀ j, i ≤ j → j < i + m → f j = f' j) → sm f m i a = sm f' m i a
  | 0, _, _, _ => rfl
  | m + 1, i, a, h => by
    unfold sm
    rw [h i (Int.le_refl i) (by omega), sm_congr m (i + 1) _ (fun j x y => h j (by omega) (by omega))]
theorem sm_acc {f : Int → Int} : ∀ (m : Nat) (i a : Int), sm f m i a = a + sm f m i 0
  | 0, _, a => by unfold sm; omega
  | m + 1, i, a => by
    unfold sm
    rw [sm_acc m (i + 1) (a + f i), sm_acc m (i + 1) (0 + f i)]
    omega
theorem sm_le {f : Int → Int} {lo hi : Int} : ∀ (m : Nat) (i a : Int), (∀ j, i ≤ j → j < i + m → lo ≤ f j ∧ f j ≤ hi) → a + (m : Int) * lo ≤ sm f m i a ∧ sm f m i a ≤ a + (m : Int) * hi
  | 0, _, a, _ => by unfold sm; omega
  | m + 1, i, a, h => by
    unfold sm
    have h0 := h i (Int.le_refl i) (by omega)
    have h1 := sm_le (lo := lo) (hi := hi) m (i + 1) (a + f i) (fun j x y => h j (by omega) (by omega))
    have e1 : ((m + 1 : Nat) : Int) * lo = (m : Int) * lo + lo := by rw [Int.natCast_add, Int.add_mul]; simp
    have e2 : ((m + 1 : Nat) : Int) * hi = (m : Int) * hi + hi := by rw [Int.natCast_add, Int.add_mul]; simp
    rw [e1, e2]
    omega
-- ===== what bars a table
def unl (m : Int) (pf lf : Int → Int) : Bool := decide (¬ fsT (fun t => decide (0 < pf t ∧ lf t < 0)) (fun t => t) m.toNat 0 = -1)
def barD (n m R : Int) (pf lf : Int → Int → Int) (af : Int → Int) : Int :=
  pk (fsT (fun p => decide (60 * R < sm (pf p) m.toNat 0 0) || unl m (pf p) (lf p)) (fun p => p) n.toNat 0) (pk2 (fsT (fun t => decide (60 * af t < sm (fun p => pf p t) n.toNat 0 0)) (fun t => t) m.toNat 0))
theorem unl_congr {m : Int} {pf lf pf' lf' : Int → Int} (h : ∀ t, 0 ≤ t → t < m → pf t = pf' t ∧ lf t = lf' t) : unl m pf lf = unl m pf' lf' := by
  unfold unl
  rw [fsT_congr (c' := fun t => decide (0 < pf' t ∧ lf' t < 0)) (ls' := fun t => t) m.toNat 0 (fun j a b => ⟨rfl, by rw [(h j a (by omega)).1, (h j a (by omega)).2]⟩)]
theorem barD_congr {n m R : Int} {pf lf pf' lf' : Int → Int → Int} {af af' : Int → Int} (h : ∀ p t, 0 ≤ p → p < n → 0 ≤ t → t < m → pf p t = pf' p t ∧ lf p t = lf' p t) (ha : ∀ t, 0 ≤ t → t < m → af t = af' t) : barD n m R pf lf af = barD n m R pf' lf' af' := by
  unfold barD
  rw [fsT_congr (c := fun p => decide (60 * R < sm (pf p) m.toNat 0 0) || unl m (pf p) (lf p)) (c' := fun p => decide (60 * R < sm (pf' p) m.toNat 0 0) || unl m (pf' p) (lf' p)) (ls' := fun t => t) n.toNat 0 (fun j a b => ⟨rfl, by
    rw [sm_congr m.toNat 0 0 (fun t x y => (h j t a (by omega) x (by omega)).1), unl_congr (fun t x y => h j t a (by omega) x y)]⟩)]
  rw [fsT_congr (c := fun t => decide (60 * af t < sm (fun p => pf p t) n.toNat 0 0)) (c' := fun t => decide (60 * af' t < sm (fun p => pf' p t) n.toNat 0 0)) (ls' := fun t => t) m.toNat 0 (fun j a b => ⟨rfl, by
    rw [sm_congr n.toNat 0 0 (fun t x y => (h t j x (by omega) a (by omega)).1), ha j a (by omega)]⟩)]
theorem X_partsOfPerson_ok {d : Nat} {K : Int → Mem → Prop} {σ : Mem} {g p : Int} (h0 : 0 ≤ g) (h5 : g ≤ 5) (p0 : 0 ≤ p) (p7 : p < 7) (hn : 1 ≤ σ (4 + 43 * g) 0 ∧ σ (4 + 43 * g) 0 ≤ 8) (hb : ∀ t, 0 ≤ t → t < σ (4 + 43 * g) 0 → 0 ≤ σ (25 + 43 * g + p) t ∧ σ (25 + 43 * g + p) t ≤ 60) (h : K (sm (fun t => σ (25 + 43 * g + p) t) (σ (4 + 43 * g) 0).toNat 0 0) σ) :
    AM2 i_Giving_partsOfPerson (d + 1) [(2, 4 + 43 * g), (0, p)] σ K := by
  have go : ∀ (m : Nat) (i a : Int), 0 ≤ i → i + m = σ (4 + 43 * g) 0 → 0 ≤ a → a ≤ 60 * i → K (sm (fun t => σ (25 + 43 * g + p) t) m i a) σ → AW2 i_Giving_partsOfPerson (d + 1) 4 [] [(0, (2, 4 + 43 * g)), (1, (0, p)), (2, (0, a)), (3, (0, i))] σ K := by
    intro m
    induction m with
    | zero => intro i a i0 e a0 a1 h; refine s_Giving_partsOfPerson_4 ?_; rw [ck_g h0 h5]; exact ⟨fun c => by omega, fun _ => h⟩
    | succ m ih =>
      intro i a i0 e a0 a1 h
      have hq := hb i i0 (by omega)
      refine s_Giving_partsOfPerson_4 ?_
      (try simp (disch := omega) only [w32_id, w64_id, inb_eq, st_self, st_ne, pt3, ck_g, ck_am, ck_he, ck_sz, ck_ls, ck_lv, ck_pa, ck_kn, sn_am, sn_he, sn_sz, sn_ls, sn_lv, sn_pa, sn_kn, pt_am, pt_he, pt_sz, pt_ls, pt_lv, pt_pa, pt_kn, ck_lr, ck_vr, ck_pr, sn_lr, sn_vr, sn_pr, pt_lr, pt_vr, pt_pr, pt_sh, ck_sh, pt_to, ck_to, sn_to])
      refine ⟨fun _ => ?_, fun c => by omega⟩
      exact ih (i + 1) _ (by omega) (by omega) (by omega) (by omega) h
  exact e_Giving_partsOfPerson fun _ => go _ 0 0 (Int.le_refl 0) (by omega) (Int.le_refl 0) (by omega) h
theorem X_partsOfThing_ok {d : Nat} {K : Int → Mem → Prop} {σ : Mem} {g t : Int} (h0 : 0 ≤ g) (h5 : g ≤ 5) (p0 : 0 ≤ t) (p7 : t < 8) (hn : 1 ≤ σ (4 + 43 * g) 1 ∧ σ (4 + 43 * g) 1 ≤ 7) (hb : ∀ p, 0 ≤ p → p < σ (4 + 43 * g) 1 → 0 ≤ σ (25 + 43 * g + p) t ∧ σ (25 + 43 * g + p) t ≤ 60) (h : K (sm (fun p => σ (25 + 43 * g + p) t) (σ (4 + 43 * g) 1).toNat 0 0) σ) :
    AM2 i_Giving_partsOfThing (d + 1) [(2, 4 + 43 * g), (0, t)] σ K := by
  have go : ∀ (m : Nat) (i a : Int), 0 ≤ i → i + m = σ (4 + 43 * g) 1 → 0 ≤ a → a ≤ 60 * i → K (sm (fun p => σ (25 + 43 * g + p) t) m i a) σ → AW2 i_Giving_partsOfThing (d + 1) 4 [] [(0, (2, 4 + 43 * g)), (1, (0, t)), (2, (0, a)), (3, (0, i))] σ K := by
    intro m
    induction m with
    | zero => intro i a i0 e a0 a1 h; refine s_Giving_partsOfThing_4 ?_; rw [ck_g h0 h5]; exact ⟨fun c => by omega, fun _ => h⟩
    | succ m ih =>
      intro i a i0 e a0 a1 h
      have hq := hb i i0 (by omega)
      refine s_Giving_partsOfThing_4 ?_
      (try simp (disch := omega) only [w32_id, w64_id, inb_eq, st_self, st_ne, pt3, ck_g, ck_am, ck_he, ck_sz, ck_ls, ck_lv, ck_pa, ck_kn, sn_am, sn_he, sn_sz, sn_ls, sn_lv, sn_pa, sn_kn, pt_am, pt_he, pt_sz, pt_ls, pt_lv, pt_pa, pt_kn, ck_lr, ck_vr, ck_pr, sn_lr, sn_vr, sn_pr, pt_lr, pt_vr, pt_pr, pt_sh, ck_sh, pt_to, ck_to, sn_to])
      refine ⟨fun _ => ?_, fun c => by omega⟩
      exact ih (i + 1) _ (by omega) (by omega) (by omega) (by omega) h
  exact e_Giving_partsOfThing fun _ => go _ 0 0 (Int.le_refl 0) (by omega) (Int.le_refl 0) (by omega) h
theorem M_sumOf_ok {d : Nat} {K : Int → Mem → Prop} {σ : Mem} {g p : Int} (h0 : 0 ≤ g) (h5 : g ≤ 5) (p0 : 0 ≤ p) (p7 : p < 7) (hn : 1 ≤ σ 358 g ∧ σ 358 g ≤ 8) (hb : ∀ t, 0 ≤ t → t < σ 358 g → 0 ≤ σ 398 (8 * p + t) ∧ σ 398 (8 * p + t) ≤ 60) (h : K (sm (fun t => σ 398 (8 * p + t)) (σ 358 g).toNat 0 0) σ) :
    AM2 i_M_sumOf (d + 1) [(2, 356), (0, g), (0, p)] σ K := by
  have go : ∀ (m : Nat) (i a : Int), 0 ≤ i → i + m = σ 358 g → 0 ≤ a → a ≤ 60 * i → K (sm (fun t => σ 398 (8 * p + t)) m i a) σ → AW2 i_M_sumOf (d + 1) 4 [] [(0, (2, 356)), (1, (0, g)), (2, (0, p)), (3, (0, a)), (4, (0, i))] σ K := by
    intro m
    induction m with
    | zero => intro i a i0 e a0 a1 h; refine s_M_sumOf_4 ?_; rw [inb_eq h0 (by omega)]; exact ⟨fun c => by omega, fun _ => h⟩
    | succ m ih =>
      intro i a i0 e a0 a1 h
      have hq := hb i i0 (by omega)
      refine s_M_sumOf_4 ?_
      (try simp (disch := omega) only [w32_id, w64_id, inb_eq, st_self, st_ne, pt3, ck_g, ck_am, ck_he, ck_sz, ck_ls, ck_lv, ck_pa, ck_kn, sn_am, sn_he, sn_sz, sn_ls, sn_lv, sn_pa, sn_kn, pt_am, pt_he, pt_sz, pt_ls, pt_lv, pt_pa, pt_kn, ck_lr, ck_vr, ck_pr, sn_lr, sn_vr, sn_pr, pt_lr, pt_vr, pt_pr, pt_sh, ck_sh, pt_to, ck_to, sn_to])
      refine ⟨fun _ => ?_, fun c => by omega⟩
      exact ih (i + 1) _ (by omega) (by omega) (by omega) (by omega) h
  exact e_M_sumOf fun _ _ => go _ 0 0 (Int.le_refl 0) (by omega) (Int.le_refl 0) (by omega) h
theorem M_sumOver_ok {d : Nat} {K : Int → Mem → Prop} {σ : Mem} {g t : Int} (h0 : 0 ≤ g) (h5 : g ≤ 5) (p0 : 0 ≤ t) (p7 : t < 8) (hn : 1 ≤ σ 357 g ∧ σ 357 g ≤ 7) (hb : ∀ p, 0 ≤ p → p < σ 357 g → 0 ≤ σ 398 (8 * p + t) ∧ σ 398 (8 * p + t) ≤ 60) (h : K (sm (fun p => σ 398 (8 * p + t)) (σ 357 g).toNat 0 0) σ) :
    AM2 i_M_sumOver (d + 1) [(2, 356), (0, g), (0, t)] σ K := by
  have go : ∀ (m : Nat) (i a : Int), 0 ≤ i → i + m = σ 357 g → 0 ≤ a → a ≤ 60 * i → K (sm (fun p => σ 398 (8 * p + t)) m i a) σ → AW2 i_M_sumOver (d + 1) 4 [] [(0, (2, 356)), (1, (0, g)), (2, (0, t)), (3, (0, a)), (4, (0, i))] σ K := by
    intro m
    induction m with
    | zero => intro i a i0 e a0 a1 h; refine s_M_sumOver_4 ?_; rw [inb_eq h0 (by omega)]; exact ⟨fun c => by omega, fun _ => h⟩
    | succ m ih =>
      intro i a i0 e a0 a1 h
      have hq := hb i i0 (by omega)
      refine s_M_sumOver_4 ?_
      (try simp (disch := omega) only [w32_id, w64_id, inb_eq, st_self, st_ne, pt3, ck_g, ck_am, ck_he, ck_sz, ck_ls, ck_lv, ck_pa, ck_kn, sn_am, sn_he, sn_sz, sn_ls, sn_lv, sn_pa, sn_kn, pt_am, pt_he, pt_sz, pt_ls, pt_lv, pt_pa, pt_kn, ck_lr, ck_vr, ck_pr, sn_lr, sn_vr, sn_pr, pt_lr, pt_vr, pt_pr, pt_sh, ck_sh, pt_to, ck_to, sn_to])
      refine ⟨fun _ => ?_, fun c => by omega⟩
      exact ih (i + 1) _ (by omega) (by omega) (by omega) (by omega) h
  exact e_M_sumOver fun _ _ => go _ 0 0 (Int.le_refl 0) (by omega) (Int.le_refl 0) (by omega) h
