-- ===== shares as the table tells
theorem X_copyTable_ok {d : Nat} {K : Int → Mem → Prop} {s : Mem} {g k : Int} (g0 : 0 ≤ g) (g5 : g ≤ 5) (k0 : 0 ≤ k) (k7 : k < 7) (hA : GA s g) (hC : GC s g) (q : ∀ s2 : Mem, s2 (33 + 43 * g + 2 * k) 1 = 60 → (∀ p t, 0 ≤ p → p < s 357 g → 0 ≤ t → t < s 358 g → s2 (34 + 43 * g + 2 * k) (8 * p + t) = s 365 (56 * g + 8 * p + t)) → (∀ b j, ¬ b = 34 + 43 * g + 2 * k → ¬ (b = 33 + 43 * g + 2 * k ∧ j = 1) → s2 b j = s b j) → K 0 s2) : AM2 i_Shares_copyTable (d + 1) [(2, 33 + 43 * g + 2 * k), (2, 4 + 43 * g)] s K := by
  have ck := fun {P : Prop} => ck_sh (P := P) g0 g5 k0 k7
  have ckg := fun {P : Prop} => ck_g (P := P) g0 g5
  have hn := hA.1
  have en := hA.2.1.1
  have em := hA.2.1.2.1
  unfold GC at hC
  generalize hN : s 357 g = n at *
  generalize hM : s 358 g = m at *
  have l11 : ∀ (q : Nat) (p t : Int) (s1 : Mem), 0 ≤ p → p < n → 0 ≤ t → t + q = m → s1 (33 + 43 * g + 2 * k) 1 = 60 → (∀ a b, 0 ≤ a → a < n → 0 ≤ b → b < m → (a < p ∨ (a = p ∧ b < t)) → s1 (34 + 43 * g + 2 * k) (8 * a + b) = s 365 (56 * g + 8 * a + b)) → (∀ b j, ¬ b = 34 + 43 * g + 2 * k → ¬ (b = 33 + 43 * g + 2 * k ∧ j = 1) → s1 b j = s b j) →
      (∀ s2 : Mem, s2 (33 + 43 * g + 2 * k) 1 = 60 → (∀ a b, 0 ≤ a → a < n → 0 ≤ b → b < m → a < p + 1 → s2 (34 + 43 * g + 2 * k) (8 * a + b) = s 365 (56 * g + 8 * a + b)) → (∀ b j, ¬ b = 34 + 43 * g + 2 * k → ¬ (b = 33 + 43 * g + 2 * k ∧ j = 1) → s2 b j = s b j) → AW2 i_Shares_copyTable (d + 1) 5 [] [(0, (2, 33 + 43 * g + 2 * k)), (1, (2, 4 + 43 * g)), (2, (0, p + 1))] s2 K) → AW2 i_Shares_copyTable (d + 1) 11 [] [(0, (2, 33 + 43 * g + 2 * k)), (1, (2, 4 + 43 * g)), (2, (0, p)), (3, (0, t))] s1 K := by
    intro q
    induction q with
    | zero =>
      intro p t s1 p0 p1 t0 e h1 h2 f next
      refine s_Shares_copyTable_11 ?_
      rw [ckg, f (4 + 43 * g) 0 (by omega) (by omega), em, w32_id (x := p + 1) (by omega) (by omega)]
      exact brF_i (by omega) (next s1 h1 (fun a b a0 a1 b0 b1 c => h2 a b a0 a1 b0 b1 (by omega)) f)
    | succ q ih =>
      intro p t s1 p0 p1 t0 e h1 h2 f next
      refine s_Shares_copyTable_11 ?_
      rw [ckg, f (4 + 43 * g) 0 (by omega) (by omega), em]
      refine brT_i (by omega) ?_
      (try simp (disch := omega) only [w32_id, w64_id, inb_eq, st_self, st_ne, pt3, ck_g, ck_am, ck_he, ck_sz, ck_ls, ck_lv, ck_pa, ck_kn, sn_am, sn_he, sn_sz, sn_ls, sn_lv, sn_pa, sn_kn, pt_am, pt_he, pt_sz, pt_ls, pt_lv, pt_pa, pt_kn, ck_lr, ck_vr, ck_pr, sn_lr, sn_vr, sn_pr, pt_lr, pt_vr, pt_pr, pt_sh, ck_sh, pt_to, ck_to, sn_to])
      rw [f (25 + 43 * g + p) t (by omega) (by omega), (hC p t p0 p1 t0 (by omega)).1]
      refine ih p (t + 1) _ p0 p1 (by omega) (by omega) (by rw [st_ne (by omega)]; exact h1) (fun a b a0 a1 b0 b1 c => ?_) (fun b j z1 z2 => by rw [st_ne (by omega)]; exact f b j z1 z2) next
      by_cases z : a = p ∧ b = t
      · rw [z.1, z.2, show p * 8 + t = 8 * p + t by omega, st_self]
      · rw [st_ne (by omega)]; exact h2 a b a0 a1 b0 b1 (by omega)
  have l5 : ∀ (q : Nat) (p : Int) (s1 : Mem), 0 ≤ p → p + q = n → s1 (33 + 43 * g + 2 * k) 1 = 60 → (∀ a b, 0 ≤ a → a < n → 0 ≤ b → b < m → a < p → s1 (34 + 43 * g + 2 * k) (8 * a + b) = s 365 (56 * g + 8 * a + b)) → (∀ b j, ¬ b = 34 + 43 * g + 2 * k → ¬ (b = 33 + 43 * g + 2 * k ∧ j = 1) → s1 b j = s b j) → AW2 i_Shares_copyTable (d + 1) 5 [] [(0, (2, 33 + 43 * g + 2 * k)), (1, (2, 4 + 43 * g)), (2, (0, p))] s1 K := by
    intro u
    induction u with
    | zero =>
      intro p s1 p0 e h1 h2 f
      refine s_Shares_copyTable_5 ?_
      rw [ckg, f (4 + 43 * g) 1 (by omega) (by omega), en]
      exact brF_i (by omega) (q s1 h1 (fun a b a0 a1 b0 b1 => h2 a b a0 a1 b0 b1 (by omega)) f)
    | succ u ih =>
      intro p s1 p0 e h1 h2 f
      refine s_Shares_copyTable_5 ?_
      rw [ckg, f (4 + 43 * g) 1 (by omega) (by omega), en]
      exact brT_i (by omega) (l11 m.toNat p 0 s1 p0 (by omega) (Int.le_refl 0) (by omega) h1 (fun a b a0 a1 b0 b1 c => h2 a b a0 a1 b0 b1 (by omega)) f (fun s2 y1 y2 y3 => ih (p + 1) s2 (by omega) (by omega) y1 y2 y3))
  refine e_Shares_copyTable ?_
  rw [ck]
  exact l5 n.toNat 0 _ (Int.le_refl 0) (by omega) (st_self _ _ _ _) (fun a b a0 a1 b0 b1 c => by omega) (fun b j z1 z2 => st_ne z2)
/-- the parts, as the model puts them -/
theorem M_parts_ok {d : Nat} {K : Int → Mem → Prop} {s : Mem} {g n m : Int} {N : Int → Int} (g0 : 0 ≤ g) (g5 : g ≤ 5) (en : s 357 g = n) (n0 : 1 ≤ n ∧ n ≤ 7) (m0 : 1 ≤ m ∧ m ≤ 8) (hN : ∀ p t, 0 ≤ p → p < n → 0 ≤ t → t < m → s 398 (8 * p + t) = N (8 * p + t) ∧ 0 ≤ N (8 * p + t) ∧ N (8 * p + t) ≤ 60)
    (k : ∀ s2 : Mem, (∀ p t, 0 ≤ p → p < n → 0 ≤ t → t < m → s2 387 (8 * p + t) = N (8 * p + t) / cm (N (8 * p + t)) 60 ∧ s2 388 (8 * p + t) = 60 / cm (N (8 * p + t)) 60) → (∀ b j, ¬ b = 387 → ¬ b = 388 → s2 b j = s b j) → K 0 s2) : AW2 i_M_takesParts (d + 3) 26 [] [(0, (2, 356)), (1, (0, g)), (3, (0, 0))] s K := by
  have lp : ∀ (q : Nat) (i : Int) (s1 : Mem), 0 ≤ i → i + q = 8 * n → (∀ p t, 0 ≤ p → p < n → 0 ≤ t → t < m → 8 * p + t < i → s1 387 (8 * p + t) = N (8 * p + t) / cm (N (8 * p + t)) 60 ∧ s1 388 (8 * p + t) = 60 / cm (N (8 * p + t)) 60) → (∀ b j, ¬ b = 387 → ¬ b = 388 → s1 b j = s b j) → AW2 i_M_takesParts (d + 3) 26 [] [(0, (2, 356)), (1, (0, g)), (3, (0, i))] s1 K := by
    intro q
    induction q with
    | zero =>
      intro i s1 i0 e h f
      refine s_M_takesParts_26 (inb_i g0 (by omega) ?_)
      rw [f 357 g (by decide) (by decide), en, w32_id (x := 8 * n) (by omega) (by omega)]
      exact brF_i (by omega) (k s1 (fun p t p0 p1 t0 t1 => h p t p0 p1 t0 t1 (by omega)) f)
    | succ q ih =>
      intro i s1 i0 e h f
      refine s_M_takesParts_26 (inb_i g0 (by omega) ?_)
      rw [f 357 g (by decide) (by decide), en, w32_id (x := 8 * n) (by omega) (by omega)]
      refine brT_i (by omega) (inb_i i0 (by omega) ?_)
      rw [f 398 i (by decide) (by decide)]
      by_cases c : i % 8 < m
      · have ei : i = 8 * (i / 8) + i % 8 := by omega
        have hv := hN (i / 8) (i % 8) (by omega) (by omega) (by omega) c
        rw [← ei] at hv
        rw [hv.1]
        refine M_puts_ok (d := d) i0 (by omega) hv.2.1 (by omega) (by decide) (by decide) ?_
        rw [w32_id (x := i + 1) (by omega) (by omega)]
        refine ih (i + 1) _ (by omega) (by omega) (fun p t p0 p1 t0 t1 z => ?_) (fun b j z1 z2 => by rw [st_ne (by omega), st_ne (by omega)]; exact f b j z1 z2)
        by_cases y : 8 * p + t = i
        · rw [y]; exact ⟨by rw [st_ne (by omega), st_self], st_self _ _ _ _⟩
        · rw [st_ne (by omega), st_ne (by omega), st_ne (by omega), st_ne (by omega)]; exact h p t p0 p1 t0 t1 (by omega)
      · refine M_puts_60 (d := d) i0 (by omega) (fun u v => ?_)
        rw [w32_id (x := i + 1) (by omega) (by omega)]
        refine ih (i + 1) _ (by omega) (by omega) (fun p t p0 p1 t0 t1 z => ?_) (fun b j z1 z2 => by rw [st_ne (by omega), st_ne (by omega)]; exact f b j z1 z2)
        rw [st_ne (by omega), st_ne (by omega), st_ne (by omega), st_ne (by omega)]; exact h p t p0 p1 t0 t1 (by omega)
  exact lp (8 * n).toNat 0 s (Int.le_refl 0) (by omega) (fun p t p0 p1 t0 t1 z => by omega) (fun _ _ _ _ => rfl)
/-- the table is copied first -/
theorem M_takes_ok {d : Nat} {K : Int → Mem → Prop} {s : Mem} {g b : Int} (g0 : 0 ≤ g) (g5 : g ≤ 5)
    (k : ∀ s2 : Mem, (∀ i, 0 ≤ i → i < 56 → s2 398 i = s 365 (56 * g + i)) → (∀ b j, ¬ b = 398 → s2 b j = s b j) → (b = 0 → AW2 i_M_takesParts (d + 1) 26 [] [(0, (2, 356)), (1, (0, g)), (3, (0, 0))] s2 K) ∧ (¬ b = 0 → AM2 i_M_mends d [(2, 356), (0, g)] s2 (fun w1 σ1 => AW2 i_M_takesParts (d + 1) 26 [] [(0, (2, 356)), (1, (0, g)), (3, (0, 0))] σ1 K))) : AM2 i_M_takesParts (d + 1) [(2, 356), (0, g), (0, b)] s K := by
  have lp : ∀ (q : Nat) (i : Int) (s1 : Mem), 0 ≤ i → i + q = 56 → (∀ j, 0 ≤ j → j < i → s1 398 j = s 365 (56 * g + j)) → (∀ b j, ¬ b = 398 → s1 b j = s b j) → AW2 i_M_takesParts (d + 1) 2 [] [(0, (2, 356)), (1, (0, g)), (2, (0, b)), (3, (0, i))] s1 K := by
    intro q
    induction q with
    | zero => intro i s1 i0 e h f; exact s_M_takesParts_2 (brF_i (by omega) (k s1 (fun j u v => h j u (by omega)) f))
    | succ q ih =>
      intro i s1 i0 e h f
      refine s_M_takesParts_2 (brT_i (by omega) ?_)
      rw [w32_id (x := 56 * g) (by omega) (by omega), w32_id (x := 56 * g + i) (by omega) (by omega), w32_id (x := i + 1) (by omega) (by omega), f 365 _ (by decide)]
      refine inb_i (by omega) (by omega) (inb_i i0 (by omega) (ih (i + 1) _ (by omega) (by omega) (fun j u v => ?_) (fun x j z => by rw [st_ne (by omega)]; exact f x j z)))
      by_cases z : j = i
      · rw [z, st_self]
      · rw [st_ne (by omega)]; exact h j u (by omega)
  exact e_M_takesParts fun _ _ => lp 56 0 s (Int.le_refl 0) rfl (fun j u v => by omega) (fun _ _ _ => rfl)
