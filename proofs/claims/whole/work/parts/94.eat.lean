-- ===== eating: the model
theorem frS {a b c e N M B u : Int} (h1 : a * B = N * b) (h2 : c * (u * B) = M * e) : (a * e + c * b) * (B * u) = (N * u + M) * (b * e) := by
  have e1 : a * e * (B * u) = a * B * (e * u) := by ac_rfl
  have e2 : c * b * (B * u) = c * (u * B) * b := by ac_rfl
  have e3 : N * b * (e * u) = N * u * (b * e) := by ac_rfl
  have e4 : M * e * b = M * (b * e) := by ac_rfl
  rw [Int.add_mul, e1, e2, h1, h2, e3, e4, ← Int.add_mul]
theorem cmpE {a b c e f N x B u : Int} (h1 : a * B = N * b) (h2 : c * (u * B) = x * e) (b0 : 0 < b) (e0 : 0 < e) (B0 : 0 < B) (u0 : 0 < u) : a * e < c * (b * f) ↔ N * u < x * f := by
  have hU : 0 < u * B := Int.mul_pos u0 B0
  have hD : 0 < b * e := Int.mul_pos b0 e0
  have e1 : a * e * (u * B) = N * u * (b * e) := by
    rw [show a * e * (u * B) = a * B * (e * u) by ac_rfl, h1]; ac_rfl
  have e2 : c * (b * f) * (u * B) = x * f * (b * e) := by
    rw [show c * (b * f) * (u * B) = c * (u * B) * (b * f) by ac_rfl, h2]; ac_rfl
  constructor
  · intro h
    have := Int.mul_lt_mul_of_pos_right h hU
    rw [e1, e2] at this
    exact Int.lt_of_mul_lt_mul_right this (Int.le_of_lt hD)
  · intro h
    have := Int.mul_lt_mul_of_pos_right h hD
    rw [← e1, ← e2] at this
    exact Int.lt_of_mul_lt_mul_right this (Int.le_of_lt hU)
theorem M_adds_ok {d : Nat} {K : Int → Mem → Prop} {s : Mem} {a b c e N B : Int} (N0 : 0 ≤ N) (N1 : N ≤ 1000000000000) (B0 : 0 < B) (B1 : B ≤ 1000000000000) (b0 : 0 < b) (e0 : 0 < e) (hx : (a * e + c * b) * B = N * (b * e)) (x1 : -2000000000000000000 ≤ a * e ∧ a * e ≤ 2000000000000000000) (x2 : -2000000000000000000 ≤ c * b ∧ c * b ≤ 2000000000000000000) (x3 : b * e ≤ 2000000000000000000) (hb : s 356 43 = 0)
    (k : ∀ s2 : Mem, s2 356 48 = N / cm N B → s2 356 49 = B / cm N B → s2 356 43 = 0 → (∀ b j, ¬ (b = 356 ∧ (j = 43 ∨ j = 48 ∨ j = 49)) → s2 b j = s b j) → K 0 s2) : AM2 i_M_adds (d + 2) [(2, 356), (1, a), (1, b), (1, c), (1, e)] s K := by
  have hbe : 0 < b * e := Int.mul_pos b0 e0
  have hx0 : 0 ≤ a * e + c * b := by
    apply Classical.byContradiction
    intro z
    have h1 : (a * e + c * b) * B < 0 := Int.mul_neg_of_neg_of_pos (by omega) B0
    have h2 := Int.mul_nonneg N0 (Int.le_of_lt hbe)
    omega
  have hl := lo_eq hbe B0 hx
  have hc := cm_pos (a * e + c * b) (b * e)
  have hr := lo_r N0 B0
  refine e_M_adds fun _ _ _ _ => ?_
  rw [w64_id (x := a * e) (by omega) (by omega), w64_id (x := c * b) (by omega) (by omega), w64_id (x := a * e + c * b) (by omega) (by omega), w64_id (x := b * e) (by omega) (by omega)]
  refine M_common_ok (by omega) (by omega) (by omega) (by omega) ?_
  have hcl := cm_le (a := a * e + c * b) hbe
  rw [divL_nn hx0 (by omega) (by omega) (by omega), divL_nn (Int.le_of_lt hbe) (by omega) (by omega) (by omega), hl.1, hl.2]
  refine nzP_i (by omega) (nzP_i (by omega) ?_)
  generalize N / cm N B = u at *
  generalize B / cm N B = v at *
  have g1 : st (st s 356 48 u) 356 49 v 356 43 = 0 := by rw [st_ne (by omega), st_ne (by omega)]; exact hb
  have g2 : st (st s 356 48 u) 356 49 v 356 48 = u := by rw [st_ne (by omega), st_self]
  have g3 : st (st s 356 48 u) 356 49 v 356 49 = v := st_self _ _ _ _
  rw [g1, g2, g3]
  refine brT_i rfl (brF_i (by omega) (brF_i (by omega) (brF_i (by omega) (s_M_adds_48 (chkK_i rfl (boolP_i (Or.inl rfl) (k _ ?_ ?_ (st_self _ _ _ _) (fun b j z => ?_))))))))
  · rw [st_ne (by omega)]; exact g2
  · rw [st_ne (by omega)]; exact g3
  · rw [st_ne (by omega), st_ne (by omega), st_ne (by omega)]
theorem M_firstUneaten_ok {d : Nat} {K : Int → Mem → Prop} {s : Mem} {g n m p : Int} {ls : Int → Int → Int} {sz L : Int → Int} (g0 : 0 ≤ g) (g5 : g ≤ 5) (hn : n ≤ 7) (hm : m ≤ 8) (hL : LGo n m ls sz) (hX : LM s g n m ls sz) (hS : ∀ t, 0 ≤ t → t < m → (0 < s 390 t ↔ 0 < L t)) (p0 : 0 ≤ p) (p1 : p < n) (k : K (nt (fdE ls sz L p)) s) : AM2 i_M_firstUneaten (d + 1) [(2, 356), (0, g), (0, p)] s K := by
  have hs := hL.1 p p0 p1
  have es := hX.1 p p0 p1
  have lp : ∀ (q : Nat) (i : Int), 0 ≤ i → i + q = sz p → K (nt (fsT (fun t => decide (0 < L t)) (ls p) q i)) s → AW2 i_M_firstUneaten (d + 1) 2 [] [(0, (2, 356)), (1, (0, g)), (2, (0, p)), (3, (0, i))] s K := by
    intro q
    induction q with
    | zero =>
      intro i i0 e kk
      refine s_M_firstUneaten_2 ?_
      rw [w32_id (x := 7 * g) (by omega) (by omega), w32_id (x := 7 * g + p) (by omega) (by omega), es]
      exact inb_i (by omega) (by omega) (brF_i (by omega) kk)
    | succ q ih =>
      intro i i0 e kk
      have hl := hL.2 p i p0 p1 i0 (by omega)
      have el := hX.2 p i p0 p1 i0 (by omega)
      have hv := hS _ hl.1 hl.2
      refine s_M_firstUneaten_2 ?_
      rw [w32_id (x := 7 * g) (by omega) (by omega), w32_id (x := 7 * g + p) (by omega) (by omega), es, w32_id (x := 56 * g) (by omega) (by omega), w32_id (x := 8 * p) (by omega) (by omega), w32_id (x := 56 * g + 8 * p) (by omega) (by omega), w32_id (x := 56 * g + 8 * p + i) (by omega) (by omega), el, w32_id (x := i + 1) (by omega) (by omega)]
      refine inb_i (by omega) (by omega) (brT_i (by omega) (inb_i (by omega) (by omega) (inb_i hl.1 (by omega) ⟨fun c => ?_, fun c => ?_⟩)))
      · rw [fsT_T (by exact decide_eq_true (hv.mp c))] at kk
        unfold nt at kk
        rw [if_neg (by omega)] at kk
        exact kk
      · rw [fsT_F (by exact decide_eq_false (fun w => c (hv.mpr w)))] at kk
        exact ih (i + 1) (by omega) (by omega) kk
  exact e_M_firstUneaten fun _ _ => lp (sz p).toNat 0 (Int.le_refl 0) (by omega) k
theorem M_eatNow_ok {d : Nat} {K : Int → Mem → Prop} {s : Mem} {g n m : Int} {ls : Int → Int → Int} {sz L : Int → Int} (g0 : 0 ≤ g) (g5 : g ≤ 5) (eN : s 357 g = n) (n7 : 0 ≤ n ∧ n ≤ 7) (hm : 0 ≤ m ∧ m ≤ 8) (hL : LGo n m ls sz) (hX : LM s g n m ls sz) (hS : ∀ t, 0 ≤ t → t < m → (0 < s 390 t ↔ 0 < L t))
    (k : ∀ s2 : Mem, (∀ p, 0 ≤ p → p < n → s2 392 p = nt (fdE ls sz L p)) → (∀ t, 0 ≤ t → t < m → s2 393 t = cntE n (fdE ls sz L) t) → (∀ b j, ¬ b = 392 → ¬ b = 393 → s2 b j = s b j) → K (anN n (fdE ls sz L)) s2) : AM2 i_M_eatNow (d + 2) [(2, 356), (0, g)] s K := by
  have l16 : ∀ (q : Nat) (p : Int) (s1 : Mem), 0 ≤ p → p + q = n → (∀ o, 0 ≤ o → o < p → s1 392 o = nt (fdE ls sz L o)) → (∀ t, 0 ≤ t → t < 8 → s1 393 t = cntE p (fdE ls sz L) t) → (∀ b j, ¬ b = 392 → ¬ b = 393 → s1 b j = s b j) → AW2 i_M_eatNow (d + 2) 16 [] [(0, (2, 356)), (1, (0, g)), (2, (0, anN p (fdE ls sz L))), (3, (0, p))] s1 K := by
    intro q
    induction q with
    | zero =>
      intro p s1 p0 e h9 h10 f
      have ep : p = n := by omega
      rw [ep] at h9 h10 ⊢
      refine s_M_eatNow_16 (inb_i g0 (by omega) ?_)
      rw [f 357 g (by omega) (by omega), eN]
      exact brF_i (by omega) (k s1 h9 (fun t t0 t1 => h10 t t0 (by omega)) f)
    | succ q ih =>
      intro p s1 p0 e h9 h10 f
      have hr := fdE_r (L := L) hL p0 (show p < n by omega)
      have har := anN_r (fdE ls sz L) p0
      refine s_M_eatNow_16 (inb_i g0 (by omega) ?_)
      rw [f 357 g (by omega) (by omega), eN]
      refine brT_i (by omega) (M_firstUneaten_ok (d := d) (n := n) (m := m) (L := L) g0 g5 n7.2 hm.2 hL ⟨fun x x0 x1 => by rw [f _ _ (by omega) (by omega)]; exact hX.1 x x0 x1, fun x i x0 x1 i0 i1 => by rw [f _ _ (by omega) (by omega)]; exact hX.2 x i x0 x1 i0 i1⟩ (fun t t0 t1 => by rw [f _ _ (by omega) (by omega)]; exact hS t t0 t1) p0 (by omega) ?_)
      have h9' : ∀ o, 0 ≤ o → o < p + 1 → st s1 392 p (nt (fdE ls sz L p)) 392 o = nt (fdE ls sz L o) := fun o o0 o1 => by
        by_cases y : o = p
        · rw [y, st_self]
        · rw [st_ne (by omega)]; exact h9 o o0 (by omega)
      rw [st_self]
      refine inb_i p0 (by omega) (inb_i p0 (by omega) ?_)
      rcases hr with hr | hr
      · have en : nt (fdE ls sz L p) = -2 := by unfold nt; rw [if_pos hr]
        rw [en] at h9' ⊢
        refine brT_i rfl ?_
        rw [w32_id (x := p + 1) (by omega) (by omega), show anN p (fdE ls sz L) = anN (p + 1) (fdE ls sz L) by rw [anN_snoc p0, if_pos (by omega)]; omega]
        exact ih (p + 1) _ (by omega) (by omega) h9' (fun t t0 t1 => by rw [st_ne (by omega), h10 t t0 t1, cnt_snoc p0, if_neg (by omega)]; omega) (fun b j z1 z2 => by rw [st_ne (by omega)]; exact f b j z1 z2)
      · have en : nt (fdE ls sz L p) = fdE ls sz L p := by unfold nt; rw [if_neg (by omega)]
        rw [en] at h9' ⊢
        have hcr := cnt_r (fdE ls sz L) (fdE ls sz L p) p0
        refine brF_i (by omega) (inb_i p0 (by omega) (inb_i hr.1 (by omega) (inb_i hr.1 (by omega) ?_)))
        rw [w32_id (x := p + 1) (by omega) (by omega), w32_id (x := anN p (fdE ls sz L) + 1) (by omega) (by omega), st_ne (by omega), h10 _ hr.1 (by omega), w32_id (x := cntE p (fdE ls sz L) (fdE ls sz L p) + 1) (by omega) (by omega), show anN p (fdE ls sz L) + 1 = anN (p + 1) (fdE ls sz L) by rw [anN_snoc p0, if_neg (by omega)]]
        refine ih (p + 1) _ (by omega) (by omega) (fun o o0 o1 => by rw [st_ne (by omega)]; exact h9' o o0 o1) (fun t t0 t1 => ?_) (fun b j z1 z2 => by rw [st_ne (by omega), st_ne (by omega)]; exact f b j z1 z2)
        rw [cnt_snoc p0]
        by_cases y : t = fdE ls sz L p
        · rw [y, st_self, if_pos rfl]
        · rw [st_ne (by omega), st_ne (by omega), h10 t t0 t1, if_neg (fun w => y w.symm)]; omega
  have l4 : ∀ (q : Nat) (t : Int) (s1 : Mem), 0 ≤ t → t + q = 8 → (∀ u, 0 ≤ u → u < t → s1 393 u = 0) → (∀ b j, ¬ b = 392 → ¬ b = 393 → s1 b j = s b j) → AW2 i_M_eatNow (d + 2) 4 [] [(0, (2, 356)), (1, (0, g)), (2, (0, 0)), (3, (0, t))] s1 K := by
    intro q
    induction q with
    | zero =>
      intro t s1 t0 e h10 f
      exact s_M_eatNow_4 (brF_i (by omega) (l16 n.toNat 0 s1 (Int.le_refl 0) (by omega) (fun o o0 o1 => by omega) (fun u u0 u1 => h10 u u0 (by omega)) f))
    | succ q ih =>
      intro t s1 t0 e h10 f
      refine s_M_eatNow_4 (brT_i (by omega) (inb_i t0 (by omega) ?_))
      rw [w32_id (x := t + 1) (by omega) (by omega)]
      refine ih (t + 1) _ (by omega) (by omega) (fun u u0 u1 => ?_) (fun b j z1 z2 => by rw [st_ne (by omega)]; exact f b j z1 z2)
      by_cases y : u = t
      · rw [y, st_self]
      · rw [st_ne (by omega)]; exact h10 u u0 (by omega)
  exact e_M_eatNow fun _ => l4 8 0 s (Int.le_refl 0) rfl (fun u u0 u1 => by omega) (fun _ _ _ _ => rfl)
