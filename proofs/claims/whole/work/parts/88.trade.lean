-- ===== trades: the class
def S0t (h : Int → Int) : DE := (fun p => if h p < 0 then 1 else 0, h)
def trE (n : Int) (ls : Int → Int → Int) (sz h : Int → Int) : Int → Int := (stN n ls sz h 7 (S0t h)).2
def trR (n : Int) (am : Int → Int) (ls : Int → Int → Int) (sz h : Int → Int) : Int → Int := rsF n am ls sz n.toNat 0 (trE n ls sz h)
def trN (n : Int) (am : Int → Int) (ls : Int → Int → Int) (sz h : Int → Int) : Int → Int := fun k => if trR n am ls sz h (k / 8) = k % 8 then 1 else 0
theorem S0t_TSI {n m : Int} {h : Int → Int} (hh : HT n m h) : TSI n m h (S0t h) := by
  refine ⟨fun x => ⟨?_, fun z => ?_, (hh x).1, (hh x).2.1⟩, fun t => rfl⟩
  · show (if h x < 0 then (1 : Int) else 0) = 0 ∨ (if h x < 0 then (1 : Int) else 0) = 1
    split
    · exact Or.inr rfl
    · exact Or.inl rfl
  · have z : (if h x < 0 then (1 : Int) else 0) = 0 := z
    refine ⟨?_, rfl⟩
    by_cases c : h x < 0
    · rw [if_pos c] at z; omega
    · omega
theorem rsF_r {n m : Int} {am : Int → Int} {ls : Int → Int → Int} {sz : Int → Int} (hL : LGo n m ls sz) : ∀ (q : Nat) (p : Int) (E : Int → Int), 0 ≤ p → p + q = n → (∀ o, -1 ≤ E o ∧ E o < m) → ∀ o, -1 ≤ rsF n am ls sz q p E o ∧ rsF n am ls sz q p E o < m
  | 0, _, _, _, _, hE => hE
  | q + 1, p, E, p0, e, hE => by
    refine rsF_r hL q (p + 1) _ (by omega) (by omega) (fun o => ?_)
    split
    · by_cases y : o = p
      · rw [y, up_s]
        have hs := hL.1 p p0 (by omega)
        have hE0 := hE p
        rcases fsT_cases (c := fun t => decide (cntE n E t < am t)) (ls := ls p) (sz p).toNat 0 with ⟨z, -⟩ | ⟨j, j0, j1, z, -, -⟩
        · rw [z]; omega
        · rw [z]
          have := hL.2 p j p0 (by omega) j0 (by omega)
          omega
      · rw [up_n y]; exact hE o
    · exact hE o
theorem X_trade_ok {d : Nat} {K : Int → Mem → Prop} {s : Mem} {g k n m : Int} {ls : Int → Int → Int} {sz h am : Int → Int} (g0 : 0 ≤ g) (g5 : g ≤ 5) (k0 : 0 ≤ k) (k7 : k < 7) (hL : LGo n m ls sz) (hX : LX s g n m ls sz) (eN : s (4 + 43 * g) 1 = n) (eM : s (4 + 43 * g) 0 = m) (n7 : 0 ≤ n ∧ n ≤ 7) (m8 : 0 ≤ m ∧ m ≤ 8) (hg : ∀ o, 0 ≤ o → o < n → s (6 + 43 * g) o = h o) (hh : HT n m h) (ha : ∀ t, 0 ≤ t → t < m → s (5 + 43 * g) t = am t) (hT : TP s (34 + 43 * g + 2 * k) n m (fun _ => 0))
    (q : ∀ s2 : Mem, TP s2 (34 + 43 * g + 2 * k) n m (trN n am ls sz h) → (∀ b j, ¬ b = 34 + 43 * g + 2 * k → ¬ (312 ≤ b ∧ b ≤ 315) → s2 b j = s b j) → K 0 s2) : AM2 i_Trade_exchange (d + 3) [(2, 311), (2, 4 + 43 * g), (2, 33 + 43 * g + 2 * k)] s K := by
  have ckg := fun {P : Prop} => ck_g (P := P) g0 g5
  have hRr := rsF_r (am := am) hL n.toNat 0 (trE n ls sz h) (Int.le_refl 0) (by omega) (fun o => ((stN_TSI n7.1 hh 7 _ (S0t_TSI hh)).1 o).2.2)
  -- the tops
  have l55 : ∀ (u : Nat) (p : Int) (s1 : Mem), 0 ≤ p → p + u = n → (∀ o, 0 ≤ o → o < n → s1 313 o = trR n am ls sz h o) → (∀ o t, 0 ≤ o → o < n → 0 ≤ t → t < m → s1 (34 + 43 * g + 2 * k) (8 * o + t) = if o < p ∧ trR n am ls sz h o = t then 1 else 0) → (∀ b j, ¬ b = 34 + 43 * g + 2 * k → ¬ (312 ≤ b ∧ b ≤ 315) → s1 b j = s b j) → AW2 i_Trade_exchange (d + 3) 55 [] [(0, (2, 311)), (1, (2, 4 + 43 * g)), (2, (2, 33 + 43 * g + 2 * k)), (3, (0, p))] s1 K := by
    intro u
    induction u with
    | zero =>
      intro p s1 p0 e hE hP f
      refine s_Trade_exchange_55 ?_
      rw [ckg, f (4 + 43 * g) 1 (by omega) (by omega), eN]
      refine brF_i (by omega) (q s1 (fun o t o0 o1 t0 t1 => ?_) f)
      rw [hP o t o0 o1 t0 t1]
      show _ = if trR n am ls sz h ((8 * o + t) / 8) = (8 * o + t) % 8 then 1 else 0
      rw [show (8 * o + t) / 8 = o by omega, show (8 * o + t) % 8 = t by omega]
      by_cases c : trR n am ls sz h o = t
      · rw [if_pos ⟨by omega, c⟩, if_pos c]
      · rw [if_neg (fun w => c w.2), if_neg c]
    | succ u ih =>
      intro p s1 p0 e hE hP f
      have hr := hRr p
      have hr : -1 ≤ trR n am ls sz h p ∧ trR n am ls sz h p < m := hr
      refine s_Trade_exchange_55 ?_
      rw [ckg, f (4 + 43 * g) 1 (by omega) (by omega), eN, hE p p0 (by omega), w32_id (x := p + 1) (by omega) (by omega)]
      refine brT_i (by omega) (inb_i p0 (by omega) ⟨fun c => ?_, fun c => ?_⟩)
      · refine ih (p + 1) s1 (by omega) (by omega) hE (fun o t o0 o1 t0 t1 => ?_) f
        rw [hP o t o0 o1 t0 t1]
        by_cases y : o = p
        · rw [y, if_neg (by omega), if_neg (by omega)]
        · by_cases z : o < p ∧ trR n am ls sz h o = t
          · rw [if_pos z, if_pos ⟨by omega, z.2⟩]
          · rw [if_neg z, if_neg (fun w => z ⟨by omega, w.2⟩)]
      · (try simp (disch := omega) only [w32_id, w64_id, inb_eq, st_self, st_ne, pt3, ck_g, ck_am, ck_he, ck_sz, ck_ls, ck_lv, ck_pa, ck_kn, sn_am, sn_he, sn_sz, sn_ls, sn_lv, sn_pa, sn_kn, pt_am, pt_he, pt_sz, pt_ls, pt_lv, pt_pa, pt_kn, ck_lr, ck_vr, ck_pr, sn_lr, sn_vr, sn_pr, pt_lr, pt_vr, pt_pr, pt_sh, ck_sh, pt_to, ck_to, sn_to])
        refine ih (p + 1) _ (by omega) (by omega) (fun o o0 o1 => by rw [st_ne (by omega)]; exact hE o o0 o1) (fun o t o0 o1 t0 t1 => ?_) (fun b j z1 z2 => by rw [st_ne (by omega)]; exact f b j z1 z2)
        by_cases y : o = p ∧ trR n am ls sz h p = t
        · rw [y.1, ← y.2, show 8 * p + trR n am ls sz h p = p * 8 + trR n am ls sz h p by omega, st_self, if_pos ⟨by omega, rfl⟩]
        · rw [st_ne (by omega), hP o t o0 o1 t0 t1]
          by_cases z : o < p ∧ trR n am ls sz h o = t
          · rw [if_pos z, if_pos ⟨by omega, z.2⟩]
          · rw [if_neg z, if_neg (fun w => by
              by_cases x : o = p
              · rw [x] at w; exact y ⟨x, w.2⟩
              · exact z ⟨by omega, w.2⟩)]
  have l38 : ∀ (u : Nat) (i : Int) (S : DE) (s1 : Mem), 0 ≤ i → i + u = 7 → TSI n m h S → (∀ o, 0 ≤ o → o < n → s1 312 o = h o ∧ s1 315 o = S.1 o ∧ s1 313 o = S.2 o) → stN n ls sz h u S = stN n ls sz h 7 (S0t h) → (∀ b j, ¬ (312 ≤ b ∧ b ≤ 315) → s1 b j = s b j) → AW2 i_Trade_exchange (d + 3) 38 [] [(0, (2, 311)), (1, (2, 4 + 43 * g)), (2, (2, 33 + 43 * g + 2 * k)), (3, (0, i))] s1 K := by
    intro u
    induction u with
    | zero =>
      intro i S s1 i0 e hS hm eS f
      have eS : S = stN n ls sz h 7 (S0t h) := eS
      refine s_Trade_exchange_38 (brF_i (by omega) ?_)
      refine X_takeRest_ok (d := d) (n := n) (m := m) (E := S.2) (am := am) g0 g5 hL ⟨fun p p0 p1 => by rw [f _ _ (by omega)]; exact hX.1 p p0 p1, fun p i p0 p1 i0 i1 => by rw [f _ _ (by omega)]; exact hX.2 p i p0 p1 i0 i1⟩ (by rw [f _ _ (by omega)]; exact eN) (by rw [f _ _ (by omega)]; exact eM) n7 m8 (fun o o0 o1 => (hm o o0 o1).2.2) (fun t t0 t1 => by rw [f _ _ (by omega)]; exact ha t t0 t1) (fun s2 hE f2 => ?_)
      rw [eS] at hE
      refine l55 n.toNat 0 s2 (Int.le_refl 0) (by omega) hE (fun o t o0 o1 t0 t1 => ?_) (fun b j z1 z2 => by rw [f2 b j (by omega)]; exact f b j z2)
      rw [f2 _ _ (by omega), f _ _ (by omega), hT o t o0 o1 t0 t1, if_neg (by omega)]
    | succ u ih =>
      intro i S s1 i0 e hS hm eS f
      have eS : stN n ls sz h u (stF n ls sz h S) = stN n ls sz h 7 (S0t h) := eS
      refine s_Trade_exchange_38 (brT_i (by omega) ?_)
      rw [w32_id (x := i + 1) (by omega) (by omega)]
      refine X_pointAll_ok (d := d) (n := n) (m := m) (ls := ls) (sz := sz) (h := h) (dn := S.1) g0 g5 hL ⟨fun p p0 p1 => by rw [f _ _ (by omega)]; exact hX.1 p p0 p1, fun p i p0 p1 i0 i1 => by rw [f _ _ (by omega)]; exact hX.2 p i p0 p1 i0 i1⟩ m8.2 (by rw [f _ _ (by omega)]; exact eN) n7 (fun o o0 o1 => (hm o o0 o1).1) (fun o o0 o1 => (hm o o0 o1).2.1) (fun o o0 o1 c => ?_) (fun o o0 o1 => (hS.1 o).1) (fun s2 hA hp f2 => br1 ?_) (fun s2 hA hp f2 => br0 ?_)
      · have h1 := hh o
        have h2 := ((hS.1 o).2.1 c).1
        omega
      · have e2 : stF n ls sz h S = clR (ptF n ls sz h S.1) h n.toNat (S.1, S.2) := by unfold stF; rw [if_pos ((alB_all n7.1).mpr hA)]
        have hq := ptF_Q (m := m) hh (fun x z => ((hS.1 x).2.1 z).1) hA
        refine X_closeRing_ok (d := d) (n := n) (f := ptF n ls sz h S.1) (h := h) (dn := S.1) (en := S.2) g0 g5 (by rw [f2 _ _ (by omega), f _ _ (by omega)]; exact eN) n7 (fun o o0 o1 => by rw [f2 _ _ (by omega)]; exact (hm o o0 o1).1) (fun o o0 o1 => by rw [f2 _ _ (by omega)]; exact (hm o o0 o1).2.1) (fun o o0 o1 => by rw [f2 _ _ (by omega)]; exact (hm o o0 o1).2.2) (fun o o0 o1 c => ⟨hp o o0 o1 c, ⟨hA o o0 o1 c, (ptF_r o0 o1).2⟩, (hq o c).2⟩) (fun s3 y f3 => ?_)
        rw [← e2] at y
        exact ih (i + 1) _ s3 (by omega) (by omega) (stF_TSI n7.1 hh hS) (fun o o0 o1 => ⟨by rw [f3 _ _ (by omega) (by omega), f2 _ _ (by omega)]; exact (hm o o0 o1).1, (y o o0 o1).1, (y o o0 o1).2⟩) eS (fun b j z => by rw [f3 b j (by omega) (by omega), f2 b j (by omega)]; exact f b j z)
      · have e2 : stF n ls sz h S = (dnP n ls sz h S.1, S.2) := by unfold stF; rw [if_neg (fun w => hA ((alB_all n7.1).mp w))]
        refine ih (i + 1) (stF n ls sz h S) s2 (by omega) (by omega) (stF_TSI n7.1 hh hS) (fun o o0 o1 => ?_) eS (fun b j z => by rw [f2 b j (by omega) (by omega)]; exact f b j z)
        rw [e2]
        exact ⟨by rw [f2 _ _ (by omega) (by omega)]; exact (hm o o0 o1).1, hp o o0 o1, by rw [f2 _ _ (by omega) (by omega)]; exact (hm o o0 o1).2.2⟩
  have l2 : ∀ (u : Nat) (p : Int) (s1 : Mem), 0 ≤ p → p + u = n → (∀ o, 0 ≤ o → o < p → s1 312 o = h o ∧ s1 315 o = (S0t h).1 o ∧ s1 313 o = h o) → (∀ b j, ¬ (312 ≤ b ∧ b ≤ 315) → s1 b j = s b j) → AW2 i_Trade_exchange (d + 3) 2 [] [(0, (2, 311)), (1, (2, 4 + 43 * g)), (2, (2, 33 + 43 * g + 2 * k)), (3, (0, p))] s1 K := by
    intro u
    induction u with
    | zero =>
      intro p s1 p0 e hm f
      refine s_Trade_exchange_2 ?_
      rw [ckg, f (4 + 43 * g) 1 (by omega), eN]
      exact brF_i (by omega) (l38 7 0 (S0t h) s1 (Int.le_refl 0) rfl (S0t_TSI hh) (fun o o0 o1 => hm o o0 (by omega)) rfl f)
    | succ u ih =>
      intro p s1 p0 e hm f
      have step : ∀ v : Int, v = (S0t h).1 p → AW2 i_Trade_exchange (d + 3) 2 [] [(0, (2, 311)), (1, (2, 4 + 43 * g)), (2, (2, 33 + 43 * g + 2 * k)), (3, (0, p + 1))] (st (st (st s1 312 p (h p)) 313 p (h p)) 315 p v) K := fun v ev => by
        refine ih (p + 1) _ (by omega) (by omega) (fun o o0 o1 => ?_) (fun b j z => by rw [st_ne (by omega), st_ne (by omega), st_ne (by omega)]; exact f b j z)
        by_cases y : o = p
        · rw [y]
          exact ⟨by rw [st_ne (by omega), st_ne (by omega), st_self], by rw [st_self]; exact ev, by rw [st_ne (by omega), st_self]⟩
        · rw [st_ne (by omega), st_ne (by omega), st_ne (by omega), st_ne (by omega), st_ne (by omega), st_ne (by omega), st_ne (by omega), st_ne (by omega), st_ne (by omega)]
          exact hm o o0 (by omega)
      refine s_Trade_exchange_2 ?_
      (try simp (disch := omega) only [w32_id, w64_id, inb_eq, st_self, st_ne, pt3, ck_g, ck_am, ck_he, ck_sz, ck_ls, ck_lv, ck_pa, ck_kn, sn_am, sn_he, sn_sz, sn_ls, sn_lv, sn_pa, sn_kn, pt_am, pt_he, pt_sz, pt_ls, pt_lv, pt_pa, pt_kn, ck_lr, ck_vr, ck_pr, sn_lr, sn_vr, sn_pr, pt_lr, pt_vr, pt_pr, pt_sh, ck_sh, pt_to, ck_to, sn_to])
      rw [f (4 + 43 * g) 1 (by omega), eN, f (6 + 43 * g) p (by omega), hg p p0 (by omega)]
      refine brT_i (by omega) ⟨fun c => step 1 ?_, fun c => step 0 ?_⟩
      · show (1 : Int) = if h p < 0 then 1 else 0
        rw [if_pos c]
      · show (0 : Int) = if h p < 0 then 1 else 0
        rw [if_neg c]
  exact e_Trade_exchange (l2 n.toNat 0 s (Int.le_refl 0) (by omega) (fun o o0 o1 => by omega) (fun _ _ _ => rfl))
