-- ===== even, evenIs
def mnf (f : Int → Int) : Nat → Int → Int → Int
  | 0, _, a => a
  | m + 1, i, a => mnf f m (i + 1) (minI a (f i))
def lsO (pt : Int → Int → Int) (c : Nat) (n : Int) (x : Int) : Int := mnf (fun p => sm (fun k => if bt x k then pt k p else 0) c 0 0) n.toNat 0 1000000
def evU (best least bl cnt bc : Int) : Bool := decide (best = 0 ∨ 0 < least * bc - bl * cnt ∨ (least * bc - bl * cnt = 0 ∧ cnt < bc))
def chs (pt : Int → Int → Int) (c : Nat) (n : Int) : Nat → Int → Int × Int × Int → Int × Int × Int
  | 0, _, r => r
  | m + 1, x, r => chs pt c n m (x + 1) (if evU r.1 (lsO pt c n x) r.2.1 (pc c x) r.2.2 then (x, lsO pt c n x, pc c x) else r)
theorem mnf_r {f : Int → Int} {hi : Int} : ∀ (m : Nat) (i a : Int), 0 ≤ a → (∀ j, i ≤ j → j < i + m → 0 ≤ f j ∧ f j ≤ hi) → (0 ≤ mnf f m i a ∧ mnf f m i a ≤ a) ∧ (0 < m → mnf f m i a ≤ hi)
  | 0, _, a, h0, _ => ⟨⟨h0, Int.le_refl a⟩, fun z => absurd z (by decide)⟩
  | m + 1, i, a, h0, h => by
    have h1 := h i (Int.le_refl i) (by omega)
    have hm : 0 ≤ minI a (f i) ∧ minI a (f i) ≤ a ∧ minI a (f i) ≤ hi := by unfold minI; split <;> omega
    have h2 := mnf_r (hi := hi) m (i + 1) (minI a (f i)) hm.1 (fun j x y => h j (by omega) (by omega))
    show (0 ≤ mnf f m (i + 1) (minI a (f i)) ∧ mnf f m (i + 1) (minI a (f i)) ≤ a) ∧ (0 < m + 1 → mnf f m (i + 1) (minI a (f i)) ≤ hi)
    omega
theorem lsO_r {pt : Int → Int → Int} {c : Nat} {n x : Int} (hc : c ≤ 6) (hn : 1 ≤ n ∧ n ≤ 7) (h : ∀ k p : Int, 0 ≤ k → k < (c : Int) → 0 ≤ p → p < n → 0 ≤ pt k p ∧ pt k p ≤ 27) : 0 ≤ lsO pt c n x ∧ lsO pt c n x ≤ 162 := by
  unfold lsO
  have := mnf_r (f := fun p => sm (fun k => if bt x k then pt k p else 0) c 0 0) (hi := 162) n.toNat 0 1000000 (by decide) (fun p a b => by
    have := sm_le (f := fun k => if bt x k then pt k p else 0) (lo := 0) (hi := 27) c 0 0 (fun k u v => by
      have := h k p u (by omega) a (by omega)
      show 0 ≤ (if bt x k then pt k p else 0) ∧ (if bt x k then pt k p else 0) ≤ 27
      split <;> omega)
    show 0 ≤ sm (fun k => if bt x k then pt k p else 0) c 0 0 ∧ sm (fun k => if bt x k then pt k p else 0) c 0 0 ≤ 162
    omega)
  exact ⟨this.1.1, this.2 (by omega)⟩
theorem pc_r (c : Nat) (x : Int) : 0 ≤ pc c x ∧ pc c x ≤ c := by
  unfold pc
  have := sm_le (f := fun i => if bt x i then 1 else 0) (lo := 0) (hi := 1) c 0 0 (fun j _ _ => by
    show 0 ≤ (if bt x j then (1 : Int) else 0) ∧ (if bt x j then (1 : Int) else 0) ≤ 1
    split <;> omega)
  omega
theorem pc_pos : ∀ c : Fin 7, ∀ x : Fin 64, 0 < x.val → x.val < 2 ^ c.val → 1 ≤ pc c.val (x.val : Int) := by decide +kernel
theorem pc_1 {c : Nat} {x : Int} (hc : c ≤ 6) (x0 : 1 ≤ x) (x1 : x < shlI 1 c) : 1 ≤ pc c x := by
  obtain ⟨n, rfl⟩ := Int.eq_ofNat_of_zero_le (show 0 ≤ x by omega)
  rw [shlI_1 ⟨c, by omega⟩] at x1
  have x1 : n < 2 ^ c := Int.ofNat_lt.mp x1
  have l : 2 ^ c ≤ 2 ^ 6 := Nat.pow_le_pow_right (by decide) hc
  exact pc_pos ⟨c, by omega⟩ ⟨n, by omega⟩ (show 0 < n by omega) x1
theorem shl_b : ∀ c : Fin 7, 1 ≤ shlI 1 (c.val : Int) ∧ shlI 1 (c.val : Int) ≤ 64 := by decide +kernel
theorem leastOf_ok {d : Nat} {K : Int → Mem → Prop} {s : Mem} {pt : Int → Int → Int} {c : Nat} {n x : Int} (hc : c ≤ 6) (e1 : s 332 1 = c) (hn : 1 ≤ n ∧ n ≤ 7) (x0 : 0 ≤ x) (x1 : x < 64) (hp : ∀ k p : Int, 0 ≤ k → k < (c : Int) → 0 ≤ p → p < n → s (335 + k) p = pt k p ∧ 0 ≤ pt k p ∧ pt k p ≤ 27) (k : K (lsO pt c n x) s) : AM2 i_Evens_leastOf (d + 1) [(2, 332), (0, x), (0, n)] s K := by
  have go2 : ∀ (p a : Int), 0 ≤ p → p < n → 0 ≤ a → a ≤ 1000000 → (∀ v, 0 ≤ v → v ≤ 1000000 → v = minI a (sm (fun k => if bt x k then pt k p else 0) c 0 0) → AW2 i_Evens_leastOf (d + 1) 4 [] [(0, (2, 332)), (1, (0, x)), (2, (0, n)), (3, (0, v)), (4, (0, p + 1))] s K) → ∀ (m : Nat) (i b : Int), 0 ≤ i → i + m = c → 0 ≤ b → b ≤ 27 * i → sm (fun k => if bt x k then pt k p else 0) m i b = sm (fun k => if bt x k then pt k p else 0) c 0 0 → AW2 i_Evens_leastOf (d + 1) 11 [] [(0, (2, 332)), (1, (0, x)), (2, (0, n)), (3, (0, a)), (4, (0, p)), (5, (0, b)), (6, (0, i))] s K := by
    intro p a p0 p1 a0 a1 kk m
    induction m with
    | zero =>
      intro i b i0 e b0 b1 hb
      have hb : b = sm (fun k => if bt x k then pt k p else 0) c 0 0 := hb
      refine s_Evens_leastOf_11 ⟨fun z => by omega, fun _ => ?_⟩
      rw [w32_id (by omega) (by omega)]
      exact kk _ (by unfold minI; split <;> omega) (by unfold minI; split <;> omega) (by rw [hb])
    | succ m ih =>
      intro i b i0 e b0 b1 hb
      have hq := hp i p i0 (by omega) p0 p1
      have pe : ptr 334 i = 335 + i := by
        rcases (by omega : i = 0 ∨ i = 1 ∨ i = 2 ∨ i = 3 ∨ i = 4 ∨ i = 5) with rfl | rfl | rfl | rfl | rfl | rfl
        all_goals rfl
      have ke : sK (335 + i) = 100 ∧ sN (335 + i) = 7 := by
        rcases (by omega : i = 0 ∨ i = 1 ∨ i = 2 ∨ i = 3 ∨ i = 4 ∨ i = 5) with rfl | rfl | rfl | rfl | rfl | rfl
        all_goals exact ⟨rfl, rfl⟩
      refine s_Evens_leastOf_11 ⟨fun _ => ?_, fun z => by omega⟩
      rw [bit_e x0 (by omega) i0 (by omega), pe, ke.2, hq.1]
      (try simp (disch := omega) only [w32_id, w64_id, inb_eq, st_self, st_ne, pt3, ck_g, ck_am, ck_he, ck_sz, ck_ls, ck_lv, ck_pa, ck_kn, sn_am, sn_he, sn_sz, sn_ls, sn_lv, sn_pa, sn_kn, pt_am, pt_he, pt_sz, pt_ls, pt_lv, pt_pa, pt_kn, ck_lr, ck_vr, ck_pr, sn_lr, sn_vr, sn_pr, pt_lr, pt_vr, pt_pr, pt_sh, ck_sh, pt_to, ck_to, sn_to])
      have hb : sm (fun k => if bt x k then pt k p else 0) m (i + 1) (b + (if bt x i then pt i p else 0)) = sm (fun k => if bt x k then pt k p else 0) c 0 0 := hb
      cases q : bt x i with
      | true =>
        rw [q, if_pos rfl] at hb
        refine ⟨fun z => absurd z (by decide), fun _ => chkK_i ke.1 ?_⟩
        exact ih (i + 1) _ (by omega) (by omega) (by omega) (by omega) hb
      | false =>
        rw [q, if_neg (by decide)] at hb
        refine ⟨fun _ => ?_, fun z => absurd rfl z⟩
        exact ih (i + 1) _ (by omega) (by omega) (by omega) (by omega) hb
  have go1 : ∀ (m : Nat) (p a : Int), 0 ≤ p → p + m = n → 0 ≤ a → a ≤ 1000000 → K (mnf (fun p => sm (fun k => if bt x k then pt k p else 0) c 0 0) m p a) s → AW2 i_Evens_leastOf (d + 1) 4 [] [(0, (2, 332)), (1, (0, x)), (2, (0, n)), (3, (0, a)), (4, (0, p))] s K := by
    intro m
    induction m with
    | zero => intro p a p0 e a0 a1 k; exact s_Evens_leastOf_4 ⟨fun z => by omega, fun _ => k⟩
    | succ m ih =>
      intro p a p0 e a0 a1 k
      refine s_Evens_leastOf_4 ⟨fun _ => ?_, fun z => by omega⟩
      exact go2 p a p0 (by omega) a0 a1 (fun v v0 v1 hv => ih (p + 1) v (by omega) (by omega) v0 v1 (by rw [hv]; exact k)) c 0 0 (Int.le_refl 0) (by omega) (Int.le_refl 0) (by omega) rfl
  exact e_Evens_leastOf fun _ _ => go1 n.toNat 0 1000000 (Int.le_refl 0) (by omega) (by decide) (by decide) k
/-- what stands in a choice -/
def ChI (c : Nat) (x : Int) (r : Int × Int × Int) : Prop := (0 ≤ r.1 ∧ r.1 < x) ∧ (0 ≤ r.2.1 ∧ r.2.1 ≤ 162) ∧ (1 ≤ r.2.2 ∧ r.2.2 ≤ 6)
theorem ev_mul {a b : Int} (a0 : 0 ≤ a) (a1 : a ≤ 162) (b0 : 0 ≤ b) (b1 : b ≤ 6) : 0 ≤ a * b ∧ a * b ≤ 972 := by
  refine ⟨Int.mul_nonneg a0 b0, ?_⟩
  have := Int.mul_le_mul a1 b1 b0 (by decide)
  omega
theorem X_choose_ok {d : Nat} {K : Int → Mem → Prop} {s : Mem} {pt : Int → Int → Int} {c : Nat} {n : Int} (hc : 1 ≤ c ∧ c ≤ 6) (e1 : s 332 1 = c) (hn : 1 ≤ n ∧ n ≤ 7) (hp : ∀ k p : Int, 0 ≤ k → k < (c : Int) → 0 ≤ p → p < n → s (335 + k) p = pt k p ∧ 0 ≤ pt k p ∧ pt k p ≤ 27) (k : ∀ r, r = chs pt c n (shlI 1 c - 1).toNat 1 (0, 0, 1) → ChI c (shlI 1 c) r → K r.1 (st (st (st s 332 3 (r.2.1 / cm r.2.1 r.2.2)) 332 4 (r.2.2 / cm r.2.1 r.2.2)) 332 1 0)) : AM2 i_Evens_choose (d + 2) [(2, 332), (0, n)] s K := by
  have hsb : 1 ≤ shlI 1 (c : Int) ∧ shlI 1 (c : Int) ≤ 64 := shl_b ⟨c, by omega⟩
  have go : ∀ (m : Nat) (x : Int) (r : Int × Int × Int), 1 ≤ x → x + m = shlI 1 c → ChI c x r → chs pt c n m x r = chs pt c n (shlI 1 c - 1).toNat 1 (0, 0, 1) → AW2 i_Evens_choose (d + 2) 8 [] [(0, (2, 332)), (1, (0, n)), (2, (0, r.1)), (3, (0, r.2.1)), (4, (0, r.2.2)), (5, (0, x))] s K := by
    intro m
    induction m with
    | zero =>
      intro x r x0 e hr he
      have he : r = chs pt c n (shlI 1 c - 1).toNat 1 (0, 0, 1) := he
      have kk := k r he (by rw [show shlI 1 (c : Int) = x by omega]; exact hr)
      obtain ⟨r1, r2, r3⟩ := hr
      have h1 := cm_pos r.2.1 r.2.2
      have h2 := cm_le (a := r.2.1) (b := r.2.2) (by omega)
      refine s_Evens_choose_8 ⟨fun z => by rw [e1] at z; omega, fun _ => X_common_ok (by omega) (by omega) (by omega) (by omega) ?_⟩
      rw [l2iI_id (by omega) (by omega), divI_nn (by omega) (by omega) (by omega) (by omega), divI_nn (by omega) (by omega) (by omega) (by omega)]
      exact nzP_i (by omega) (nzP_i (by omega) kk)
    | succ m ih =>
      intro x r x0 e hr he
      have he : chs pt c n m (x + 1) (if evU r.1 (lsO pt c n x) r.2.1 (pc c x) r.2.2 then (x, lsO pt c n x, pc c x) else r) = chs pt c n (shlI 1 c - 1).toNat 1 (0, 0, 1) := he
      have hl := lsO_r (x := x) (by omega) hn (fun k p a b u v => (hp k p a b u v).2)
      have hpc := pc_r c x
      have hp1 := pc_1 (c := c) (x := x) (by omega) x0 (by omega)
      have hr' := hr
      obtain ⟨r1, r2, r3⟩ := hr'
      have m1 := ev_mul hl.1 hl.2 (show 0 ≤ r.2.2 by omega) r3.2
      have m2 := ev_mul r2.1 r2.2 hpc.1 (show pc c x ≤ 6 by omega)
      have up : evU r.1 (lsO pt c n x) r.2.1 (pc c x) r.2.2 = true → AW2 i_Evens_choose (d + 2) 8 [] [(0, (2, 332)), (1, (0, n)), (2, (0, x)), (3, (0, lsO pt c n x)), (4, (0, pc c x)), (5, (0, x + 1))] s K := fun z => by
        rw [if_pos z] at he
        exact ih (x + 1) (x, lsO pt c n x, pc c x) (by omega) (by omega) ⟨⟨by omega, by show x < x + 1; omega⟩, hl, ⟨hp1, by show pc c x ≤ 6; omega⟩⟩ he
      have ke : evU r.1 (lsO pt c n x) r.2.1 (pc c x) r.2.2 = false → AW2 i_Evens_choose (d + 2) 8 [] [(0, (2, 332)), (1, (0, n)), (2, (0, r.1)), (3, (0, r.2.1)), (4, (0, r.2.2)), (5, (0, x + 1))] s K := fun z => by
        rw [if_neg (by rw [z]; decide)] at he
        exact ih (x + 1) r (by omega) (by omega) ⟨⟨by omega, by omega⟩, r2, r3⟩ he
      unfold evU at up ke
      refine s_Evens_choose_8 ⟨fun _ => leastOf_ok (by omega) e1 hn (by omega) (by omega) hp (bitCount_ok (c := c) (by omega) (by omega) (by omega) ?_), fun z => by rw [e1] at z; omega⟩
      (try simp (disch := omega) only [w32_id, w64_id, inb_eq, st_self, st_ne, pt3, ck_g, ck_am, ck_he, ck_sz, ck_ls, ck_lv, ck_pa, ck_kn, sn_am, sn_he, sn_sz, sn_ls, sn_lv, sn_pa, sn_kn, pt_am, pt_he, pt_sz, pt_ls, pt_lv, pt_pa, pt_kn, ck_lr, ck_vr, ck_pr, sn_lr, sn_vr, sn_pr, pt_lr, pt_vr, pt_pr, pt_sh, ck_sh, pt_to, ck_to, sn_to])
      exact ⟨fun z => up (decide_eq_true (Or.inl z)), fun z => ⟨fun z1 => up (decide_eq_true (Or.inr (Or.inl z1))), fun z1 => ⟨fun z2 => ⟨fun z3 => up (decide_eq_true (Or.inr (Or.inr ⟨z2, z3⟩))), fun z3 => ke (decide_eq_false (by omega))⟩, fun z2 => ke (decide_eq_false (by omega))⟩⟩⟩
  refine e_Evens_choose fun _ => go (shlI 1 c - 1).toNat 1 (0, 0, 1) (Int.le_refl 1) (by omega) ⟨⟨Int.le_refl 0, by show (0 : Int) < 1; decide⟩, ⟨Int.le_refl 0, by show (0 : Int) ≤ 162; decide⟩, ⟨Int.le_refl 1, by show (1 : Int) ≤ 6; decide⟩⟩ rfl
theorem M_choose_ok {d : Nat} {K : Int → Mem → Prop} {s : Mem} {pt : Int → Int → Int} {c : Nat} {n g : Int} (g0 : 0 ≤ g) (g5 : g ≤ 5) (hc : 1 ≤ c ∧ c ≤ 6) (e1 : s 356 20 = c) (e7 : s 357 g = n) (hn : 1 ≤ n ∧ n ≤ 7) (hp : ∀ k p : Int, 0 ≤ k → k < (c : Int) → 0 ≤ p → p < n → s 405 (7 * k + p) = pt k p ∧ 0 ≤ pt k p ∧ pt k p ≤ 27) (k : ∀ r, r = chs pt c n (shlI 1 c - 1).toNat 1 (0, 0, 1) → ChI c (shlI 1 c) r → K r.1 (st (st (st s 356 20 0) 356 23 (r.2.1 / cm r.2.1 r.2.2)) 356 24 (r.2.2 / cm r.2.1 r.2.2))) : AW2 i_M_even (d + 2) 58 [] [(0, (2, 356)), (1, (0, g)), (2, (0, 0)), (3, (0, 0)), (4, (0, 1)), (5, (0, 1))] s K := by
  have hsb : 1 ≤ shlI 1 (c : Int) ∧ shlI 1 (c : Int) ≤ 64 := shl_b ⟨c, by omega⟩
  have go : ∀ (m : Nat) (x : Int) (r : Int × Int × Int), 1 ≤ x → x + m = shlI 1 c → ChI c x r → chs pt c n m x r = chs pt c n (shlI 1 c - 1).toNat 1 (0, 0, 1) → AW2 i_M_even (d + 2) 58 [] [(0, (2, 356)), (1, (0, g)), (2, (0, r.1)), (3, (0, r.2.1)), (4, (0, r.2.2)), (5, (0, x))] s K := by
    intro m
    induction m with
    | zero =>
      intro x r x0 e hr he
      have he : r = chs pt c n (shlI 1 c - 1).toNat 1 (0, 0, 1) := he
      have kk := k r he (by rw [show shlI 1 (c : Int) = x by omega]; exact hr)
      obtain ⟨r1, r2, r3⟩ := hr
      have h1 := cm_pos r.2.1 r.2.2
      have h2 := cm_le (a := r.2.1) (b := r.2.2) (by omega)
      refine s_M_even_58 ⟨fun z => by rw [e1] at z; omega, fun _ => M_common_ok (by omega) (by omega) (by omega) (by omega) ?_⟩
      rw [divL_nn (by omega) (by omega) (by omega) (by omega), divL_nn (by omega) (by omega) (by omega) (by omega)]
      exact nzP_i (by omega) (nzP_i (by omega) kk)
    | succ m ih =>
      intro x r x0 e hr he
      have he : chs pt c n m (x + 1) (if evU r.1 (lsO pt c n x) r.2.1 (pc c x) r.2.2 then (x, lsO pt c n x, pc c x) else r) = chs pt c n (shlI 1 c - 1).toNat 1 (0, 0, 1) := he
      have hl := lsO_r (x := x) (by omega) hn (fun k p a b u v => (hp k p a b u v).2)
      have hpc := pc_r c x
      have hp1 := pc_1 (c := c) (x := x) (by omega) x0 (by omega)
      have hr' := hr
      obtain ⟨r1, r2, r3⟩ := hr'
      have m1 := ev_mul hl.1 hl.2 (show 0 ≤ r.2.2 by omega) r3.2
      have m2 := ev_mul r2.1 r2.2 hpc.1 (show pc c x ≤ 6 by omega)
      have up : evU r.1 (lsO pt c n x) r.2.1 (pc c x) r.2.2 = true → AW2 i_M_even (d + 2) 58 [] [(0, (2, 356)), (1, (0, g)), (2, (0, x)), (3, (0, lsO pt c n x)), (4, (0, pc c x)), (5, (0, x + 1))] s K := fun z => by
        rw [if_pos z] at he
        exact ih (x + 1) (x, lsO pt c n x, pc c x) (by omega) (by omega) ⟨⟨by omega, by show x < x + 1; omega⟩, hl, ⟨hp1, by show pc c x ≤ 6; omega⟩⟩ he
      have ke : evU r.1 (lsO pt c n x) r.2.1 (pc c x) r.2.2 = false → AW2 i_M_even (d + 2) 58 [] [(0, (2, 356)), (1, (0, g)), (2, (0, r.1)), (3, (0, r.2.1)), (4, (0, r.2.2)), (5, (0, x + 1))] s K := fun z => by
        rw [if_neg (by rw [z]; decide)] at he
        exact ih (x + 1) r (by omega) (by omega) ⟨⟨by omega, by omega⟩, r2, r3⟩ he
      unfold evU at up ke
      have l96 : ∀ (p a : Int), 0 ≤ p → p < n → 0 ≤ a → a ≤ 1000000 → (∀ v, 0 ≤ v → v ≤ 1000000 → v = minI a (sm (fun k => if bt x k then pt k p else 0) c 0 0) → AW2 i_M_even (d + 2) 86 [] [(0, (2, 356)), (1, (0, g)), (2, (0, r.1)), (3, (0, r.2.1)), (4, (0, r.2.2)), (5, (0, x)), (6, (0, pc c x)), (7, (0, v)), (8, (0, p + 1))] s K) → ∀ (m : Nat) (i b : Int), 0 ≤ i → i + m = c → 0 ≤ b → b ≤ 27 * i → sm (fun k => if bt x k then pt k p else 0) m i b = sm (fun k => if bt x k then pt k p else 0) c 0 0 → AW2 i_M_even (d + 2) 96 [] [(0, (2, 356)), (1, (0, g)), (2, (0, r.1)), (3, (0, r.2.1)), (4, (0, r.2.2)), (5, (0, x)), (6, (0, pc c x)), (7, (0, a)), (8, (0, p)), (9, (0, b)), (10, (0, i))] s K := by
        intro p a p0 p1 a0 a1 kk m
        induction m with
        | zero =>
          intro i b i0 e b0 b1 hb
          have hb : b = sm (fun k => if bt x k then pt k p else 0) c 0 0 := hb
          refine s_M_even_96 ⟨fun z => by omega, fun _ => ?_⟩
          rw [w32_id (by omega) (by omega)]
          refine ⟨fun z => kk b b0 (by omega) ?_, fun z => kk a a0 a1 ?_⟩
          · unfold minI; rw [← hb, if_pos z]
          · unfold minI; rw [← hb, if_neg z]
        | succ m ih =>
          intro i b i0 e b0 b1 hb
          have hq := hp i p i0 (by omega) p0 p1
          have hb : sm (fun k => if bt x k then pt k p else 0) m (i + 1) (b + (if bt x i then pt i p else 0)) = sm (fun k => if bt x k then pt k p else 0) c 0 0 := hb
          refine s_M_even_96 ⟨fun _ => ?_, fun z => by omega⟩
          rw [bit_e (by omega) (by omega) i0 (by omega)]
          (try simp (disch := omega) only [w32_id, w64_id, inb_eq, st_self, st_ne, pt3, ck_g, ck_am, ck_he, ck_sz, ck_ls, ck_lv, ck_pa, ck_kn, sn_am, sn_he, sn_sz, sn_ls, sn_lv, sn_pa, sn_kn, pt_am, pt_he, pt_sz, pt_ls, pt_lv, pt_pa, pt_kn, ck_lr, ck_vr, ck_pr, sn_lr, sn_vr, sn_pr, pt_lr, pt_vr, pt_pr, pt_sh, ck_sh, pt_to, ck_to, sn_to, hq.1])
          cases q : bt x i with
          | true =>
            rw [q, if_pos rfl] at hb
            exact ⟨fun _ => ih (i + 1) _ (by omega) (by omega) (by omega) (by omega) hb, fun z => absurd rfl z⟩
          | false =>
            rw [q, if_neg (by decide)] at hb
            exact ⟨fun z => absurd z (by decide), fun _ => ih (i + 1) _ (by omega) (by omega) (by omega) (by omega) hb⟩
      have l86 : ∀ (m : Nat) (p a : Int), 0 ≤ p → p + m = n → 0 ≤ a → a ≤ 1000000 → mnf (fun p => sm (fun k => if bt x k then pt k p else 0) c 0 0) m p a = lsO pt c n x → AW2 i_M_even (d + 2) 86 [] [(0, (2, 356)), (1, (0, g)), (2, (0, r.1)), (3, (0, r.2.1)), (4, (0, r.2.2)), (5, (0, x)), (6, (0, pc c x)), (7, (0, a)), (8, (0, p))] s K := by
        intro m
        induction m with
        | zero =>
          intro p a p0 e a0 a1 he2
          have he2 : a = lsO pt c n x := he2
          refine s_M_even_86 (inb_i g0 (by omega) ?_)
          rw [e7, he2]
          (try simp (disch := omega) only [w32_id, w64_id, inb_eq, st_self, st_ne, pt3, ck_g, ck_am, ck_he, ck_sz, ck_ls, ck_lv, ck_pa, ck_kn, sn_am, sn_he, sn_sz, sn_ls, sn_lv, sn_pa, sn_kn, pt_am, pt_he, pt_sz, pt_ls, pt_lv, pt_pa, pt_kn, ck_lr, ck_vr, ck_pr, sn_lr, sn_vr, sn_pr, pt_lr, pt_vr, pt_pr, pt_sh, ck_sh, pt_to, ck_to, sn_to])
          exact ⟨fun z => by omega, fun _ => ⟨fun z => up (decide_eq_true (Or.inl z)), fun z => ⟨fun z1 => up (decide_eq_true (Or.inr (Or.inl z1))), fun z1 => ⟨fun z2 => ⟨fun z3 => up (decide_eq_true (Or.inr (Or.inr ⟨z2, z3⟩))), fun z3 => ke (decide_eq_false (by omega))⟩, fun z2 => ke (decide_eq_false (by omega))⟩⟩⟩⟩
        | succ m ih2 =>
          intro p a p0 e a0 a1 he2
          refine s_M_even_86 (inb_i g0 (by omega) ?_)
          rw [e7]
          exact ⟨fun _ => l96 p a p0 (by omega) a0 a1 (fun v v0 v1 hv => ih2 (p + 1) v (by omega) (by omega) v0 v1 (by rw [hv]; exact he2)) c 0 0 (Int.le_refl 0) (by omega) (Int.le_refl 0) (by omega) rfl, fun z => by omega⟩
      have l68 : ∀ (m : Nat) (i b : Int), 0 ≤ i → i + m = c → 0 ≤ b → b ≤ i → sm (fun i => if bt x i then 1 else 0) m i b = pc c x → AW2 i_M_even (d + 2) 68 [] [(0, (2, 356)), (1, (0, g)), (2, (0, r.1)), (3, (0, r.2.1)), (4, (0, r.2.2)), (5, (0, x)), (6, (0, b)), (7, (0, i))] s K := by
        intro m
        induction m with
        | zero =>
          intro i b i0 e b0 b1 hb
          have hb : b = pc c x := hb
          refine s_M_even_68 ⟨fun z => by omega, fun _ => ?_⟩
          rw [hb]
          exact l86 n.toNat 0 1000000 (Int.le_refl 0) (by omega) (by decide) (by decide) rfl
        | succ m ih =>
          intro i b i0 e b0 b1 hb
          have hb : sm (fun i => if bt x i then 1 else 0) m (i + 1) (b + (if bt x i then 1 else 0)) = pc c x := hb
          refine s_M_even_68 ⟨fun _ => ?_, fun z => by omega⟩
          rw [bit_e (by omega) (by omega) i0 (by omega)]
          have hbb : 0 ≤ (if bt x i then (1 : Int) else 0) ∧ (if bt x i then (1 : Int) else 0) ≤ 1 := by split <;> omega
          (try simp (disch := omega) only [w32_id, w64_id, inb_eq, st_self, st_ne, pt3, ck_g, ck_am, ck_he, ck_sz, ck_ls, ck_lv, ck_pa, ck_kn, sn_am, sn_he, sn_sz, sn_ls, sn_lv, sn_pa, sn_kn, pt_am, pt_he, pt_sz, pt_ls, pt_lv, pt_pa, pt_kn, ck_lr, ck_vr, ck_pr, sn_lr, sn_vr, sn_pr, pt_lr, pt_vr, pt_pr, pt_sh, ck_sh, pt_to, ck_to, sn_to])
          exact ih (i + 1) _ (by omega) (by omega) (by omega) (by omega) hb
      refine s_M_even_58 ⟨fun _ => l68 c 0 0 (Int.le_refl 0) (by omega) (Int.le_refl 0) (Int.le_refl 0) rfl, fun z => by rw [e1] at z; omega⟩
  exact go (shlI 1 c - 1).toNat 1 (0, 0, 1) (Int.le_refl 1) (by omega) ⟨⟨Int.le_refl 0, by show (0 : Int) < 1; decide⟩, ⟨Int.le_refl 0, by show (0 : Int) ≤ 162; decide⟩, ⟨Int.le_refl 1, by show (1 : Int) ≤ 6; decide⟩⟩ rfl
