-- ===== shares: what both hold of them
/-- the class's: over one bottom -/
def ShX (s : Mem) (c n m : Int) (N : Int → Int) (B H : Int) : Prop := (s c 1 = B ∧ s c 3 = 0 ∧ s c 4 = H) ∧ ∀ p t, 0 ≤ p → p < n → 0 ≤ t → t < m → s (c + 1) (8 * p + t) = N (8 * p + t)
/-- the model's: each in lowest terms -/
def ShM (s : Mem) (n m : Int) (N : Int → Int) (B : Int) : Prop := s 356 43 = 0 ∧ ∀ p t, 0 ≤ p → p < n → 0 ≤ t → t < m → s 387 (8 * p + t) = N (8 * p + t) / cm (N (8 * p + t)) B ∧ s 388 (8 * p + t) = B / cm (N (8 * p + t)) B
theorem M_puts_ok {d : Nat} {K : Int → Mem → Prop} {s : Mem} {i N B : Int} (i0 : 0 ≤ i) (i1 : i < 56) (N0 : 0 ≤ N) (N1 : N ≤ 1000000000000) (B0 : 1 ≤ B) (B1 : B ≤ 1000000000000) (k : K 0 (st (st s 387 i (N / cm N B)) 388 i (B / cm N B))) : AM2 i_M_puts (d + 2) [(2, 356), (0, i), (1, N), (1, B)] s K := by
  have h1 := cm_pos N B
  have h2 := cm_le (a := N) (b := B) (by omega)
  refine e_M_puts fun _ _ _ => M_common_ok (by omega) (by omega) (by omega) (by omega) (nzP_i (by omega) (inb_i i0 i1 (nzP_i (by omega) (inb_i i0 i1 ?_))))
  rw [divL_nn N0 (by omega) (by omega) (by omega), divL_nn (by omega) (by omega) (by omega) (by omega)]
  exact k
/-- over sixty, whatever stands above -/
theorem M_puts_60 {d : Nat} {K : Int → Mem → Prop} {s : Mem} {i N : Int} (i0 : 0 ≤ i) (i1 : i < 56) (k : ∀ u v : Int, K 0 (st (st s 387 i u) 388 i v)) : AM2 i_M_puts (d + 2) [(2, 356), (0, i), (1, N), (1, 60)] s K := by
  refine e_M_puts fun _ hN _ => ?_
  have tail : ∀ w : Int, ¬ w = 0 → nzP w (inb i 56 (nzP w (inb i 56 (K 0 (st (st s 387 i (divL N w)) 388 i (divL 60 w)))))) := fun w hw => nzP_i hw (inb_i i0 i1 (nzP_i hw (inb_i i0 i1 (k _ _))))
  by_cases c : N = -9223372036854775808
  · rw [c] at tail ⊢
    refine e_M_common fun _ _ => brT_i (by decide) ?_
    rw [show w64 (- (-9223372036854775808)) = -9223372036854775808 by decide]
    refine s_M_common_11 (brF_i (by decide) (nzP_i (by decide) ?_))
    rw [show remL (-9223372036854775808) 60 = -8 by decide]
    refine s_M_common_11 (brF_i (by decide) (nzP_i (by decide) ?_))
    rw [show remL 60 (-8) = 4 by decide]
    refine s_M_common_11 (brF_i (by decide) (nzP_i (by decide) ?_))
    rw [show remL (-8) 4 = 0 by decide]
    exact s_M_common_11 (brT_i rfl (brF_i (by decide) (tail 4 (by decide))))
  · unfold r64 at hN
    refine M_common_ok (by omega) (by omega) (by omega) (by omega) (tail _ ?_)
    have := cm_pos N 60
    omega
theorem X_clearS_ok {d : Nat} {K : Int → Mem → Prop} {s : Mem} {g p : Int} (g0 : 0 ≤ g) (g5 : g ≤ 5) (p0 : 0 ≤ p) (p7 : p < 7) (k : ∀ s2 : Mem, (∀ i, 0 ≤ i → i < 56 → s2 (34 + 43 * g + 2 * p) i = 0) → s2 (33 + 43 * g + 2 * p) 1 = 1 → s2 (33 + 43 * g + 2 * p) 3 = 0 → s2 (33 + 43 * g + 2 * p) 4 = 0 → (∀ b j, ¬ b = 34 + 43 * g + 2 * p → ¬ (b = 33 + 43 * g + 2 * p ∧ (j = 1 ∨ j = 3 ∨ j = 4)) → s2 b j = s b j) → K 0 s2) : AM2 i_Shares_clear (d + 2) [(2, 33 + 43 * g + 2 * p)] s K := by
  have ck := fun {P : Prop} => ck_sh (P := P) g0 g5 p0 p7
  have hk := (gR g0 g5 p0 p7).2.2.2.2.2
  refine e_Shares_clear ?_
  rw [ck, pt_to g0 g5 p0 p7]
  refine Fill_J_ok hk.1 (by rw [hk.2]; decide) (by rw [hk.2]; decide) (fun s1 x1 f1 => ?_)
  rw [hk.2] at x1 f1
  rw [ck, ck, ck]
  refine k _ (fun i i0 i1 => ?_) ?_ ?_ (st_self _ _ _ _) (fun b j z1 z2 => ?_)
  · rw [st_ne (by omega), st_ne (by omega), st_ne (by omega)]; exact x1 i i0 i1
  · rw [st_ne (by omega), st_ne (by omega), st_self]
  · rw [st_ne (by omega), st_self]
  · rw [st_ne (by omega), st_ne (by omega), st_ne (by omega)]; exact f1 b j (by omega)
theorem M_clears_ok {d : Nat} {K : Int → Mem → Prop} {s : Mem} (k : ∀ s2 : Mem, (∀ i, 0 ≤ i → i < 56 → s2 387 i = 0 ∧ s2 388 i = 1) → s2 356 43 = 0 → (∀ b j, ¬ b = 387 → ¬ b = 388 → ¬ (b = 356 ∧ j = 43) → s2 b j = s b j) → K 0 s2) : AM2 i_M_clears (d + 1) [(2, 356)] s K := by
  have lp : ∀ (q : Nat) (i : Int) (s1 : Mem), 0 ≤ i → i + q = 56 → (∀ j, 0 ≤ j → j < i → s1 387 j = 0 ∧ s1 388 j = 1) → s1 356 43 = 0 → (∀ b j, ¬ b = 387 → ¬ b = 388 → ¬ (b = 356 ∧ j = 43) → s1 b j = s b j) → AW2 i_M_clears (d + 1) 5 [] [(0, (2, 356)), (1, (0, i))] s1 K := by
    intro q
    induction q with
    | zero => intro i s1 i0 e h0 h1 f; exact s_M_clears_5 (brF_i (by omega) (k s1 (fun j u v => h0 j u (by omega)) h1 f))
    | succ q ih =>
      intro i s1 i0 e h0 h1 f
      refine s_M_clears_5 (brT_i (by omega) (inb_i i0 (by omega) (inb_i i0 (by omega) ?_)))
      rw [w32_id (x := i + 1) (by omega) (by omega)]
      refine ih (i + 1) _ (by omega) (by omega) (fun j u v => ?_) (by rw [st_ne (by omega), st_ne (by omega)]; exact h1) (fun b j z1 z2 z3 => by rw [st_ne (by omega), st_ne (by omega)]; exact f b j z1 z2 z3)
      by_cases z : j = i
      · rw [z]; exact ⟨by rw [st_ne (by omega), st_self], st_self _ _ _ _⟩
      · rw [st_ne (by omega), st_ne (by omega), st_ne (by omega), st_ne (by omega)]; exact h0 j u (by omega)
  exact e_M_clears (lp 56 0 _ (Int.le_refl 0) rfl (fun j u v => by omega) (st_self _ _ _ _) (fun b j _ _ z => st_ne z))
