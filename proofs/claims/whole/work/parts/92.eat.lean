-- ===== eating: the class
theorem cnt_snoc {E : Int → Int} {t p : Int} (p0 : 0 ≤ p) : cntE (p + 1) E t = cntE p E t + (if E p = t then 1 else 0) := by
  unfold cntE
  rw [show (p + 1).toNat = p.toNat + 1 by omega, sm_snoc, show (0 : Int) + (p.toNat : Int) = p by omega]
theorem anN_snoc {fd : Int → Int} {p : Int} (p0 : 0 ≤ p) : anN (p + 1) fd = anN p fd + (if fd p < 0 then 0 else 1) := by
  unfold anN
  rw [show (p + 1).toNat = p.toNat + 1 by omega, sm_snoc, show (0 : Int) + (p.toNat : Int) = p by omega]
theorem anN_r (fd : Int → Int) {n : Int} (n0 : 0 ≤ n) : 0 ≤ anN n fd ∧ anN n fd ≤ n := by
  have := sm_le (f := fun p => if fd p < 0 then 0 else 1) (lo := 0) (hi := 1) n.toNat 0 0 (fun j _ _ => by
    show 0 ≤ (if fd j < 0 then (0 : Int) else 1) ∧ (if fd j < 0 then (0 : Int) else 1) ≤ 1
    split <;> omega)
  unfold anN
  omega
theorem X_bite_ok {d : Nat} {K : Int → Mem → Prop} {s : Mem} {g n m : Int} {ls : Int → Int → Int} {sz L : Int → Int} (g0 : 0 ≤ g) (g5 : g ≤ 5) (hL : LGo n m ls sz) (hX : LX s g n m ls sz) (eN : s (4 + 43 * g) 1 = n) (eM : s (4 + 43 * g) 0 = m) (n7 : 0 ≤ n ∧ n ≤ 7) (m8 : 0 ≤ m ∧ m ≤ 8) (hl : ∀ t, 0 ≤ t → t < m → s 308 t = L t)
    (k : ∀ s2 : Mem, (∀ p, 0 ≤ p → p < n → s2 309 p = fdE ls sz L p) → (∀ t, 0 ≤ t → t < m → s2 310 t = cntE n (fdE ls sz L) t) → (∀ b j, ¬ b = 309 → ¬ b = 310 → s2 b j = s b j) → K (if 0 < anN n (fdE ls sz L) then 1 else 0) s2) : AM2 i_Eating_choose (d + 2) [(2, 307), (2, 4 + 43 * g)] s K := by
  have ckg := fun {P : Prop} => ck_g (P := P) g0 g5
  have l32 : ∀ (q : Nat) (p b : Int) (s1 : Mem), 0 ≤ p → p + q = n → (0 ≤ b ∧ b < 256) → (∀ t, 0 ≤ t → t < m → bt b t = decide (0 < L t)) → (∀ o, 0 ≤ o → o < p → s1 309 o = fdE ls sz L o) → (∀ t, 0 ≤ t → t < m → s1 310 t = cntE p (fdE ls sz L) t) → (∀ b j, ¬ b = 309 → ¬ b = 310 → s1 b j = s b j) → AW2 i_Eating_choose (d + 2) 32 [] [(0, (2, 307)), (1, (2, 4 + 43 * g)), (2, (0, b)), (3, (0, if 0 < anN p (fdE ls sz L) then 1 else 0)), (4, (0, p))] s1 K := by
    intro q
    induction q with
    | zero =>
      intro p b s1 p0 e hb hbt h9 h10 f
      have ep : p = n := by omega
      rw [ep] at h9 h10 ⊢
      refine s_Eating_choose_32 ?_
      rw [ckg, f (4 + 43 * g) 1 (by omega) (by omega), eN]
      refine brF_i (by omega) (boolP_i ?_ (k s1 h9 h10 f))
      split
      · exact Or.inr rfl
      · exact Or.inl rfl
    | succ q ih =>
      intro p b s1 p0 e hb hbt h9 h10 f
      have hs := hL.1 p p0 (by omega)
      have es := hX.1 p p0 (by omega)
      refine s_Eating_choose_32 ?_
      rw [ckg, f (4 + 43 * g) 1 (by omega) (by omega), eN, w32_id (x := p + 1) (by omega) (by omega)]
      refine brT_i (by omega) ?_
      rw [ckg]
      refine X_firstOf_ok g0 g5 p0 (by omega) (by rw [f _ _ (by omega) (by omega), es]; exact hs) hb.1 hb.2 (fun i i0 i1 => ?_) ?_
      · rw [f _ _ (by omega) (by omega), es] at i1
        have := hL.2 p i p0 (by omega) i0 i1
        rw [f _ _ (by omega) (by omega), hX.2 p i p0 (by omega) i0 i1]
        omega
      · rw [f (7 + 43 * g) p (by omega) (by omega), es, fsT_congr (c' := fun t => decide (0 < L t)) (ls' := ls p) (sz p).toNat 0 (fun j j0 j1 => by
          have := hL.2 p j p0 (by omega) j0 (by omega)
          have e1 : s1 (9 + 43 * g + p) j = ls p j := by rw [f _ _ (by omega) (by omega)]; exact hX.2 p j p0 (by omega) j0 (by omega)
          exact ⟨e1, by rw [e1]; exact hbt _ this.1 this.2⟩)]
        have hr := fdE_r (L := L) hL p0 (show p < n by omega)
        have ef : fsT (fun t => decide (0 < L t)) (ls p) (sz p).toNat 0 = fdE ls sz L p := rfl
        rw [ef]
        refine inb_i p0 (by omega) ⟨fun c => ?_, fun c => inb_i (by omega) (by omega) (inb_i (by omega) (by omega) ?_)⟩
        · have ea : anN p (fdE ls sz L) = anN (p + 1) (fdE ls sz L) := by rw [anN_snoc p0, if_pos c]; omega
          rw [ea]
          refine ih (p + 1) b _ (by omega) (by omega) hb hbt (fun o o0 o1 => ?_) (fun t t0 t1 => ?_) (fun b j z1 z2 => by rw [st_ne (by omega)]; exact f b j z1 z2)
          · by_cases y : o = p
            · rw [y, st_self]
            · rw [st_ne (by omega)]; exact h9 o o0 (by omega)
          · rw [st_ne (by omega), h10 t t0 t1, cnt_snoc p0, if_neg (by omega)]; omega
        · have hcr := cnt_r (fdE ls sz L) (fdE ls sz L p) p0
          have har := anN_r (fdE ls sz L) p0
          have ea : (1 : Int) = if 0 < anN (p + 1) (fdE ls sz L) then 1 else 0 := by rw [anN_snoc p0, if_neg c, if_pos (by omega)]
          rw [st_ne (by omega), h10 _ (by omega) (by omega), w32_id (x := cntE p (fdE ls sz L) (fdE ls sz L p) + 1) (by omega) (by omega)]
          have := ih (p + 1) b (st (st s1 309 p (fdE ls sz L p)) 310 (fdE ls sz L p) (cntE p (fdE ls sz L) (fdE ls sz L p) + 1)) (by omega) (by omega) hb hbt (fun o o0 o1 => ?_) (fun t t0 t1 => ?_) (fun b j z1 z2 => by rw [st_ne (by omega), st_ne (by omega)]; exact f b j z1 z2)
          · rw [← ea] at this; exact this
          · by_cases y : o = p
            · rw [y, st_ne (by omega), st_self]
            · rw [st_ne (by omega), st_ne (by omega)]; exact h9 o o0 (by omega)
          · rw [cnt_snoc p0]
            by_cases y : t = fdE ls sz L p
            · rw [y, st_self, if_pos rfl]
            · rw [st_ne (by omega), st_ne (by omega), h10 t t0 t1, if_neg (fun w => y w.symm)]; omega
  have l4 : ∀ (q : Nat) (t b : Int) (s1 : Mem), 0 ≤ t → t + q = m → (0 ≤ b ∧ b < 65536) → (∀ u, 0 ≤ u → u < 16 → bt b u = (decide (u < t) && decide (0 < L u))) → (∀ u, 0 ≤ u → u < t → s1 310 u = 0) → (∀ b j, ¬ b = 309 → ¬ b = 310 → s1 b j = s b j) → AW2 i_Eating_choose (d + 2) 4 [] [(0, (2, 307)), (1, (2, 4 + 43 * g)), (2, (0, b)), (3, (0, t))] s1 K := by
    intro q
    induction q with
    | zero =>
      intro t b s1 t0 e hb hbt h10 f
      refine s_Eating_choose_4 ?_
      rw [ckg, f (4 + 43 * g) 0 (by omega) (by omega), eM]
      refine brF_i (by omega) (l32 n.toNat 0 b s1 (Int.le_refl 0) (by omega) ⟨hb.1, bit_256 hb.1 hb.2 (fun u u0 u1 => ?_)⟩ (fun u u0 u1 => ?_) (fun o o0 o1 => by omega) (fun u u0 u1 => h10 u u0 (by omega)) f)
      · rw [hbt u (by omega) u1, decide_eq_false (by omega)]; rfl
      · rw [hbt u u0 (by omega), decide_eq_true (show u < t by omega)]; rfl
    | succ q ih =>
      intro t b s1 t0 e hb hbt h10 f
      have h10' : ∀ u, 0 ≤ u → u < t + 1 → st s1 310 t 0 310 u = 0 := fun u u0 u1 => by
        by_cases y : u = t
        · rw [y, st_self]
        · rw [st_ne (by omega)]; exact h10 u u0 (by omega)
      have f' : ∀ b j, ¬ b = 309 → ¬ b = 310 → st s1 310 t 0 b j = s b j := fun b j z1 z2 => by rw [st_ne (by omega)]; exact f b j z1 z2
      refine s_Eating_choose_4 ?_
      rw [ckg, f (4 + 43 * g) 0 (by omega) (by omega), eM, w32_id (x := t + 1) (by omega) (by omega), f' 308 t (by decide) (by decide), hl t t0 (by omega)]
      refine brT_i (by omega) (inb_i t0 (by omega) (inb_i t0 (by omega) ⟨fun c2 => ?_, fun c2 => ?_⟩))
      · have ho := bit_or (b := b) (t := t) hb.1 hb.2 t0 (by omega)
        refine ih (t + 1) _ _ (by omega) (by omega) ho.1 (fun u u0 u1 => ?_) h10' f'
        rw [ho.2 u u0, hbt u u0 u1]
        by_cases z : u = t
        · rw [z, decide_eq_true (show t < t + 1 by omega), decide_eq_true c2, decide_eq_true (rfl : t = t), Bool.or_true]; rfl
        · rw [decide_eq_false z, Bool.or_false]
          by_cases y : u < t
          · rw [decide_eq_true y, decide_eq_true (show u < t + 1 by omega)]
          · rw [decide_eq_false y, decide_eq_false (show ¬ u < t + 1 by omega)]
      · refine ih (t + 1) b _ (by omega) (by omega) hb (fun u u0 u1 => ?_) h10' f'
        rw [hbt u u0 u1]
        by_cases z : u = t
        · rw [z, decide_eq_false c2, Bool.and_false, Bool.and_false]
        · by_cases y : u < t
          · rw [decide_eq_true y, decide_eq_true (show u < t + 1 by omega)]
          · rw [decide_eq_false y, decide_eq_false (show ¬ u < t + 1 by omega)]
  exact e_Eating_choose (l4 m.toNat 0 0 s (Int.le_refl 0) (by omega) (by decide) (fun u u0 u1 => by rw [bit_0, decide_eq_false (by omega)]; rfl) (fun u u0 u1 => by omega) (fun _ _ _ _ => rfl))
theorem X_nextEaten_ok {d : Nat} {K : Int → Mem → Prop} {s : Mem} {g k n m R : Int} {ls : Int → Int → Int} {sz : Int → Int} {S : ES} {i : Nat} (g0 : 0 ≤ g) (g5 : g ≤ 5) (k0 : 0 ≤ k) (k7 : k < 7) (n7 : 0 ≤ n ∧ n ≤ 7) (m8 : 0 ≤ m ∧ m ≤ 8) (hR : 1 ≤ R ∧ R ≤ 3) (hE : EI n m R i S) (hi : i ≤ 9) (eM : s (4 + 43 * g) 0 = m) (eR : s (4 + 43 * g) 2 = R) (hl : ∀ t, 0 ≤ t → t < m → s 308 t = S.2.1 t) (he : ∀ t, 0 ≤ t → t < m → s 310 t = cntE n (fdE ls sz S.2.1) t) (hT : s 307 3 = S.2.2.1) (hB : s (33 + 43 * g + 2 * k) 1 = S.2.2.2)
    (kk : K (stE n m R ls sz S).1 s) : AM2 i_Eating_nextEaten (d + 1) [(2, 307), (2, 4 + 43 * g), (2, 33 + 43 * g + 2 * k)] s K := by
  have ckg := fun {P : Prop} => ck_g (P := P) g0 g5
  have ck := fun {P : Prop} => ck_sh (P := P) g0 g5 k0 k7
  have hb := EI_b hi hE
  have hcr := fun t => cnt_r (fdE ls sz S.2.1) t n7.1
  obtain ⟨E1, E2, E3, E4, E5⟩ := hE
  have hRB := mul_b (a := R) (b := S.2.2.2) (A := 3) (C := 40353607) (by omega) hR.2 (by omega) hb
  have lp : ∀ (q : Nat) (t b x u : Int), 0 ≤ t → t + q = m → (0 ≤ x ∧ x ≤ 363182463) → (1 ≤ u ∧ u ≤ 7) → nx3 S.2.1 (cntE n (fdE ls sz S.2.1)) q t (b, x, u) = stE n m R ls sz S → AW2 i_Eating_nextEaten (d + 1) 16 [] [(0, (2, 307)), (1, (2, 4 + 43 * g)), (3, (0, b)), (4, (1, x)), (6, (1, u)), (8, (0, t))] s K := by
    intro q
    induction q with
    | zero =>
      intro t b x u t0 e hx hu er
      have er : (b, x, u) = stE n m R ls sz S := er
      refine s_Eating_nextEaten_16 ?_
      rw [ckg, eM]
      rw [← er] at kk
      exact brF_i (by omega) kk
    | succ q ih =>
      intro t b x u t0 e hx hu er
      have e1 : nx3 S.2.1 (cntE n (fdE ls sz S.2.1)) (q + 1) t (b, x, u) = nx3 S.2.1 (cntE n (fdE ls sz S.2.1)) q (t + 1) (if 0 < cntE n (fdE ls sz S.2.1) t ∧ S.2.1 t * u < x * cntE n (fdE ls sz S.2.1) t then (t, S.2.1 t, cntE n (fdE ls sz S.2.1) t) else (b, x, u)) := rfl
      rw [e1] at er
      have h3 := E3 t t0 (by omega)
      have hc := hcr t
      have m1 := mul_b (a := S.2.1 t) (b := u) (A := 363182463) (C := 7) h3.1 (by omega) (by omega) hu.2
      have m2 := mul_b (a := x) (b := cntE n (fdE ls sz S.2.1) t) (A := 363182463) (C := 7) hx.1 hx.2 hc.1 (by omega)
      refine s_Eating_nextEaten_16 ?_
      rw [ckg, eM, he t t0 (by omega), hl t t0 (by omega), w32_id (x := t + 1) (by omega) (by omega), w64_id (x := S.2.1 t * u) (by omega) (by omega), w64_id (x := x * cntE n (fdE ls sz S.2.1) t) (by omega) (by omega)]
      refine brT_i (by omega) (inb_i t0 (by omega) ⟨fun c => inb_i t0 (by omega) (inb_i t0 (by omega) ⟨fun c2 => inb_i t0 (by omega) (inb_i t0 (by omega) ?_), fun c2 => ?_⟩), fun c => ?_⟩)
      · rw [if_pos ⟨c, c2⟩] at er
        exact ih (t + 1) _ _ _ (by omega) (by omega) (by omega) (by omega) er
      · rw [if_neg (fun w => c2 w.2)] at er
        exact ih (t + 1) _ _ _ (by omega) (by omega) hx hu er
      · rw [if_neg (fun w => c w.1)] at er
        exact ih (t + 1) _ _ _ (by omega) (by omega) hx hu er
  refine e_Eating_nextEaten ?_
  rw [ckg, ck, eR, hB, hT, w64_id (x := R * S.2.2.2) (by omega) (by omega), w64_id (x := R * S.2.2.2 - S.2.2.1) (by omega) (by omega)]
  exact lp m.toNat 0 (-1) _ 1 (Int.le_refl 0) (by omega) (by omega) (by decide) rfl
theorem X_widen_ok {d : Nat} {K : Int → Mem → Prop} {s : Mem} {g k u : Int} (g0 : 0 ≤ g) (g5 : g ≤ 5) (k0 : 0 ≤ k) (k7 : k < 7)
    (q : ∀ s2 : Mem, (∀ i, 0 ≤ i → i < 56 → s2 (34 + 43 * g + 2 * k) i = w64 (s (34 + 43 * g + 2 * k) i * u)) → (∀ t, 0 ≤ t → t < 8 → s2 308 t = w64 (s 308 t * u)) → s2 (33 + 43 * g + 2 * k) 1 = w64 (s (33 + 43 * g + 2 * k) 1 * u) → s2 307 3 = w64 (s 307 3 * u) → (∀ b j, ¬ b = 34 + 43 * g + 2 * k → ¬ b = 308 → ¬ (b = 33 + 43 * g + 2 * k ∧ j = 1) → ¬ (b = 307 ∧ j = 3) → s2 b j = s b j) → K 0 s2) : AM2 i_Eating_widen (d + 1) [(2, 307), (2, 33 + 43 * g + 2 * k), (1, u)] s K := by
  have ck := fun {P : Prop} => ck_sh (P := P) g0 g5 k0 k7
  have l17 : ∀ (v : Nat) (t : Int) (s1 : Mem), 0 ≤ t → t + v = 8 → (∀ i, 0 ≤ i → i < 56 → s1 (34 + 43 * g + 2 * k) i = w64 (s (34 + 43 * g + 2 * k) i * u)) → (∀ i, 0 ≤ i → i < 8 → s1 308 i = if i < t then w64 (s 308 i * u) else s 308 i) → (∀ b j, ¬ b = 34 + 43 * g + 2 * k → ¬ b = 308 → s1 b j = s b j) → AW2 i_Eating_widen (d + 1) 17 [] [(0, (2, 307)), (1, (2, 33 + 43 * g + 2 * k)), (2, (1, u)), (4, (0, t))] s1 K := by
    intro v
    induction v with
    | zero =>
      intro t s1 t0 e h1 h2 f
      refine s_Eating_widen_17 (brF_i (by omega) ?_)
      rw [ck, ck, f (33 + 43 * g + 2 * k) 1 (by omega) (by omega), st_ne (by omega), f 307 3 (by omega) (by omega)]
      refine q _ (fun i i0 i1 => by rw [st_ne (by omega), st_ne (by omega)]; exact h1 i i0 i1) (fun i i0 i1 => by rw [st_ne (by omega), st_ne (by omega), h2 i i0 i1, if_pos (by omega)]) (by rw [st_ne (by omega), st_self]) (st_self _ _ _ _) (fun b j z1 z2 z3 z4 => by rw [st_ne z4, st_ne z3]; exact f b j z1 z2)
    | succ v ih =>
      intro t s1 t0 e h1 h2 f
      have h2t := h2 t t0 (by omega)
      rw [if_neg (by omega)] at h2t
      refine s_Eating_widen_17 (brT_i (by omega) (inb_i t0 (by omega) (inb_i t0 (by omega) ?_)))
      rw [h2t, w32_id (x := t + 1) (by omega) (by omega)]
      refine ih (t + 1) _ (by omega) (by omega) (fun i i0 i1 => by rw [st_ne (by omega)]; exact h1 i i0 i1) (fun i i0 i1 => ?_) (fun b j z1 z2 => by rw [st_ne (by omega)]; exact f b j z1 z2)
      by_cases y : i = t
      · rw [y, st_self, if_pos (by omega)]
      · rw [st_ne (by omega), h2 i i0 i1]
        by_cases z : i < t
        · rw [if_pos z, if_pos (by omega)]
        · rw [if_neg z, if_neg (by omega)]
  have l2 : ∀ (v : Nat) (t : Int) (s1 : Mem), 0 ≤ t → t + v = 56 → (∀ i, 0 ≤ i → i < 56 → s1 (34 + 43 * g + 2 * k) i = if i < t then w64 (s (34 + 43 * g + 2 * k) i * u) else s (34 + 43 * g + 2 * k) i) → (∀ b j, ¬ b = 34 + 43 * g + 2 * k → s1 b j = s b j) → AW2 i_Eating_widen (d + 1) 2 [] [(0, (2, 307)), (1, (2, 33 + 43 * g + 2 * k)), (2, (1, u)), (4, (0, t))] s1 K := by
    intro v
    induction v with
    | zero =>
      intro t s1 t0 e h1 f
      exact s_Eating_widen_2 (brF_i (by omega) (l17 8 0 s1 (Int.le_refl 0) rfl (fun i i0 i1 => by rw [h1 i i0 i1, if_pos (by omega)]) (fun i i0 i1 => by rw [if_neg (by omega)]; exact f _ _ (by omega)) (fun b j z1 z2 => f b j z1)))
    | succ v ih =>
      intro t s1 t0 e h1 f
      have h1t := h1 t t0 (by omega)
      rw [if_neg (by omega)] at h1t
      refine s_Eating_widen_2 (brT_i (by omega) ?_)
      (try simp (disch := omega) only [w32_id, w64_id, inb_eq, st_self, st_ne, pt3, ck_g, ck_am, ck_he, ck_sz, ck_ls, ck_lv, ck_pa, ck_kn, sn_am, sn_he, sn_sz, sn_ls, sn_lv, sn_pa, sn_kn, pt_am, pt_he, pt_sz, pt_ls, pt_lv, pt_pa, pt_kn, ck_lr, ck_vr, ck_pr, sn_lr, sn_vr, sn_pr, pt_lr, pt_vr, pt_pr, pt_sh, ck_sh, pt_to, ck_to, sn_to])
      rw [h1t]
      refine ih (t + 1) _ (by omega) (by omega) (fun i i0 i1 => ?_) (fun b j z1 => by rw [st_ne (by omega)]; exact f b j z1)
      by_cases y : i = t
      · rw [y, st_self, if_pos (by omega)]
      · rw [st_ne (by omega), h1 i i0 i1]
        by_cases z : i < t
        · rw [if_pos z, if_pos (by omega)]
        · rw [if_neg z, if_neg (by omega)]
  exact e_Eating_widen fun _ => l2 56 0 s (Int.le_refl 0) rfl (fun i i0 i1 => by rw [if_neg (by omega)]) (fun _ _ _ => rfl)
theorem X_pass_ok {d : Nat} {K : Int → Mem → Prop} {s : Mem} {g k n m x T : Int} {fd N L : Int → Int} (g0 : 0 ≤ g) (g5 : g ≤ 5) (k0 : 0 ≤ k) (k7 : k < 7) (n7 : 0 ≤ n ∧ n ≤ 7) (m8 : 0 ≤ m ∧ m ≤ 8) (eN : s (4 + 43 * g) 1 = n) (hx : 0 ≤ x ∧ x ≤ 400000000) (hT : s 307 3 = T ∧ 0 ≤ T ∧ T ≤ 4000000000) (hf : ∀ p, 0 ≤ p → p < n → s 309 p = fd p ∧ (fd p < 0 ∨ fd p < m)) (hN : ∀ p t, 0 ≤ p → p < n → 0 ≤ t → t < m → s (34 + 43 * g + 2 * k) (8 * p + t) = N (8 * p + t) ∧ 0 ≤ N (8 * p + t) ∧ N (8 * p + t) ≤ 4000000000) (hL : ∀ t, 0 ≤ t → t < m → s 308 t = L t ∧ 0 ≤ L t ∧ L t ≤ 4000000000)
    (q : ∀ s2 : Mem, (∀ p t, 0 ≤ p → p < n → 0 ≤ t → t < m → s2 (34 + 43 * g + 2 * k) (8 * p + t) = N (8 * p + t) + (if fd p = t then x else 0)) → (∀ t, 0 ≤ t → t < m → s2 308 t = L t - x * cntE n fd t) → s2 307 3 = T + x → (∀ b j, ¬ b = 34 + 43 * g + 2 * k → ¬ b = 308 → ¬ (b = 307 ∧ j = 3) → s2 b j = s b j) → K 0 s2) : AM2 i_Eating_pass (d + 1) [(2, 307), (2, 4 + 43 * g), (2, 33 + 43 * g + 2 * k), (1, x)] s K := by
  have ckg := fun {P : Prop} => ck_g (P := P) g0 g5
  have l2 : ∀ (v : Nat) (p : Int) (s1 : Mem), 0 ≤ p → p + v = n → (∀ o t, 0 ≤ o → o < n → 0 ≤ t → t < m → s1 (34 + 43 * g + 2 * k) (8 * o + t) = N (8 * o + t) + (if o < p ∧ fd o = t then x else 0)) → (∀ t, 0 ≤ t → t < m → s1 308 t = L t - x * cntE p fd t) → (∀ b j, ¬ b = 34 + 43 * g + 2 * k → ¬ b = 308 → s1 b j = s b j) → AW2 i_Eating_pass (d + 1) 2 [] [(0, (2, 307)), (1, (2, 4 + 43 * g)), (2, (2, 33 + 43 * g + 2 * k)), (3, (1, x)), (5, (0, p))] s1 K := by
    intro v
    induction v with
    | zero =>
      intro p s1 p0 e h1 h2 f
      have ep : p = n := by omega
      rw [ep] at h1 h2 ⊢
      refine s_Eating_pass_2 ?_
      rw [ckg, f (4 + 43 * g) 1 (by omega) (by omega), eN, f 307 3 (by omega) (by omega), hT.1, w64_id (x := T + x) (by omega) (by omega)]
      refine brF_i (by omega) (q _ (fun o t o0 o1 t0 t1 => ?_) (fun t t0 t1 => by rw [st_ne (by omega)]; exact h2 t t0 t1) (st_self _ _ _ _) (fun b j z1 z2 z3 => by rw [st_ne z3]; exact f b j z1 z2))
      rw [st_ne (by omega), h1 o t o0 o1 t0 t1]
      by_cases c : fd o = t
      · rw [if_pos ⟨o1, c⟩, if_pos c]
      · rw [if_neg (fun w => c w.2), if_neg c]
    | succ v ih =>
      intro p s1 p0 e h1 h2 f
      have hp := hf p p0 (by omega)
      refine s_Eating_pass_2 ?_
      rw [ckg, f (4 + 43 * g) 1 (by omega) (by omega), eN, f 309 p (by omega) (by omega), hp.1]
      refine brT_i (by omega) (inb_i p0 (by omega) ⟨fun c => ?_, fun c => ?_⟩)
      · rw [w32_id (x := p + 1) (by omega) (by omega)]
        refine ih (p + 1) s1 (by omega) (by omega) (fun o t o0 o1 t0 t1 => ?_) (fun t t0 t1 => by rw [h2 t t0 t1, cnt_snoc p0, if_neg (by omega), Int.add_zero]) f
        rw [h1 o t o0 o1 t0 t1]
        by_cases y : o = p
        · rw [y, if_neg (by omega), if_neg (by omega)]
        · by_cases z : o < p ∧ fd o = t
          · rw [if_pos z, if_pos ⟨by omega, z.2⟩]
          · rw [if_neg z, if_neg (fun w => z ⟨by omega, w.2⟩)]
      · have hfm : 0 ≤ fd p ∧ fd p < m := by omega
        have h1p := h1 p (fd p) p0 (by omega) hfm.1 hfm.2
        rw [if_neg (by omega)] at h1p
        have h2p := h2 (fd p) hfm.1 hfm.2
        have hNp := hN p (fd p) p0 (by omega) hfm.1 hfm.2
        have hLp := hL (fd p) hfm.1 hfm.2
        have hcp := cnt_r fd (fd p) p0
        have hm := mul_b (a := x) (b := cntE p fd (fd p)) (A := 400000000) (C := 7) hx.1 hx.2 hcp.1 (by omega)
        rw [pt_to g0 g5 k0 k7, ck_sh g0 g5 k0 k7, ck_to g0 g5 k0 k7, ck_to g0 g5 k0 k7, sn_to g0 g5 k0 k7, w32_id (x := p * 8) (by omega) (by omega), w32_id (x := p * 8 + fd p) (by omega) (by omega), w32_id (x := p + 1) (by omega) (by omega), show p * 8 + fd p = 8 * p + fd p by omega, h1p, w64_id (x := N (8 * p + fd p) + 0 + x) (by omega) (by omega)]
        rw [show st s1 (34 + 43 * g + 2 * k) (8 * p + fd p) (N (8 * p + fd p) + 0 + x) 309 p = fd p by rw [st_ne (by omega), f 309 p (by omega) (by omega), hp.1], show st s1 (34 + 43 * g + 2 * k) (8 * p + fd p) (N (8 * p + fd p) + 0 + x) 308 (fd p) = L (fd p) - x * cntE p fd (fd p) by rw [st_ne (by omega), h2p], w64_id (x := L (fd p) - x * cntE p fd (fd p) - x) (by omega) (by omega)]
        refine inb_i p0 (by omega) (inb_i (by omega) (by omega) (inb_i (by omega) (by omega) (inb_i p0 (by omega) (inb_i hfm.1 (by omega) (inb_i hfm.1 (by omega) ?_)))))
        refine ih (p + 1) _ (by omega) (by omega) (fun o t o0 o1 t0 t1 => ?_) (fun t t0 t1 => ?_) (fun b j z1 z2 => by rw [st_ne (by omega), st_ne (by omega)]; exact f b j z1 z2)
        · rw [st_ne (by omega)]
          by_cases y : o = p ∧ t = fd p
          · rw [y.1, y.2, st_self, if_pos ⟨by omega, rfl⟩]; omega
          · rw [st_ne (by omega), h1 o t o0 o1 t0 t1]
            by_cases z : o < p ∧ fd o = t
            · rw [if_pos z, if_pos ⟨by omega, z.2⟩]
            · rw [if_neg z, if_neg (fun w => by
                by_cases x2 : o = p
                · rw [x2] at w; exact y ⟨x2, w.2.symm⟩
                · exact z ⟨by omega, w.2⟩)]
        · rw [cnt_snoc p0, Int.mul_add]
          by_cases y : t = fd p
          · rw [y, st_self, if_pos rfl]; omega
          · rw [st_ne (by omega), st_ne (by omega), h2 t t0 t1, if_neg (fun w => y w.symm)]; omega
  exact e_Eating_pass fun _ => l2 n.toNat 0 s (Int.le_refl 0) (by omega) (fun o t o0 o1 t0 t1 => by rw [if_neg (by omega), (hN o t o0 o1 t0 t1).1]; omega) (fun t t0 t1 => by
    rw [(hL t t0 t1).1]
    show L t = L t - x * 0
    omega) (fun _ _ _ _ => rfl)
