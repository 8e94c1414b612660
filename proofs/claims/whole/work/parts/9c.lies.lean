-- ===== shares over all orders, of lists told otherwise: both sides, over plain numbers
def foldP (n R : Int) (am : Int → Int) (ls : Int → Int → Int) (sz : Int → Int) (back : Bool) : List (List Nat) → (Int → Int) → Int → Int
  | [], F => F
  | L :: r, F => foldP n R am ls sz back r (adS (dl n R (oL L) back am ls sz) F)
def mnP (n R : Int) (am : Int → Int) (ls : Int → Int → Int) (sz : Int → Int) (back : Bool) : Int → Int := foldP n R am ls sz back (pmN n.toNat) (fun _ => 0)
def mnQ (n : Int) : Int := ((pmN n.toNat).length : Int)
theorem foldC_P {σ : Mem} {g : Int} {back : Bool} : ∀ (r : List (List Nat)) (F : Int → Int), foldC σ g back r F = foldP (σ 357 g) (σ 359 g) (cam σ g) (clI σ g) (csz σ g) back r F
  | [], _ => rfl
  | L :: r, F => foldC_P r _
theorem dl_P3 {n m R : Int} {ls : Int → Int → Int} {sz o am : Int → Int} {back : Bool} (n7 : 1 ≤ n ∧ n ≤ 7) (hR : 1 ≤ R ∧ R ≤ 3) (hL : LGo n m ls sz) (ha : ∀ t, 0 ≤ t → t < m → 1 ≤ am t ∧ am t ≤ 9) (hP : PM n o) : PI n m (dl n R o back am ls sz) ∧ ∀ p, 0 ≤ p → p < n → 0 ≤ (dl n R o back am ls sz).2.1 p ∧ (dl n R o back am ls sz).2.1 p ≤ 3 := by
  have h := dl_PI (back := back) (R := R) (m := m) hL hP (by omega) (by omega) (am := am) (fun t t0 t1 => by have := ha t t0 t1; omega)
  exact ⟨h.1, fun p p0 p1 => by have := h.2 p p0 p1; omega⟩
theorem FBc_P {n m R : Int} {ls : Int → Int → Int} {sz am : Int → Int} {back : Bool} (n7 : 1 ≤ n ∧ n ≤ 7) (hR : 1 ≤ R ∧ R ≤ 3) (hL : LGo n m ls sz) (ha : ∀ t, 0 ≤ t → t < m → 1 ≤ am t ∧ am t ≤ 9) : ∀ (r : List (List Nat)) (L : List Nat) (c : Int) (F : Int → Int), CH (L :: r) → (L.length : Int) = n → PM (L.length : Int) (oL L) → FBc n c F → FBc n (c + 3 * ((r.length : Int) + 1)) (foldP n R am ls sz back (L :: r) F)
  | [], L, c, F, _, hl, hP, hF => FBc_ad (dl_P3 (back := back) n7 hR hL ha (by rw [← hl]; exact hP)).2 hF
  | L2 :: r, L, c, F, hC, hl, hP, hF => by
    have hC : nxL L = some L2 ∧ CH (L2 :: r) := hC
    have := FBc_P (back := back) n7 hR hL ha r L2 (c + 3) (adS (dl n R (oL L) back am ls sz) F) hC.2 (by rw [nxL_len hC.1]; exact hl) (nxL_PM hP hC.1) (FBc_ad (dl_P3 (back := back) n7 hR hL ha (by rw [← hl]; exact hP)).2 hF)
    rw [show c + 3 * ((((L2 :: r).length : Nat) : Int) + 1) = c + 3 + 3 * ((r.length : Int) + 1) by simp only [List.length_cons]; omega]
    exact this
theorem mnP_r {n m R : Int} {ls : Int → Int → Int} {sz am : Int → Int} {back : Bool} (n7 : 1 ≤ n ∧ n ≤ 7) (hR : 1 ≤ R ∧ R ≤ 3) (hL : LGo n m ls sz) (ha : ∀ t, 0 ≤ t → t < m → 1 ≤ am t ∧ am t ≤ 9) : FBc n 15120 (mnP n R am ls sz back) ∧ 1 ≤ mnQ n ∧ mnQ n ≤ 5040 := by
  obtain ⟨r, e1, e2, e3⟩ := pm_CH n.toNat (by omega)
  have h := FBc_P (R := R) (back := back) n7 hR hL ha r _ 0 (fun _ => 0) e2 (by rw [List.length_range]; omega) (by rw [List.length_range]; exact range_PM _) (fun p t _ _ _ _ => ⟨Int.le_refl 0, Int.le_refl 0⟩)
  unfold mnP mnQ
  rw [e1, List.length_cons]
  exact ⟨fun p t p0 p1 t0 t1 => by have := h p t p0 p1 t0 t1; omega, by omega, by omega⟩
theorem X_ordersP_ok {d : Nat} {K : Int → Mem → Prop} {s : Mem} {g k bk n m R : Int} {ls : Int → Int → Int} {sz am : Int → Int} {back : Bool} (g0 : 0 ≤ g) (g5 : g ≤ 5) (k0 : 0 ≤ k) (k7 : k < 7) (hL : LGo n m ls sz) (hX : LX s g n m ls sz) (en : s (4 + 43 * g) 1 = n) (em : s (4 + 43 * g) 0 = m) (eR : s (4 + 43 * g) 2 = R) (n7 : 1 ≤ n ∧ n ≤ 7) (m8 : 1 ≤ m ∧ m ≤ 8) (hRr : 1 ≤ R ∧ R ≤ 3) (ha : ∀ t, 0 ≤ t → t < m → s (5 + 43 * g) t = am t ∧ 1 ≤ am t ∧ am t ≤ 9) (hb : bk = if back = true then 1 else 0) (hT : TP s (34 + 43 * g + 2 * k) (n) (m) (fun _ => 0))
    (q : ∀ s2 : Mem, TP s2 (34 + 43 * g + 2 * k) (n) (m) (mnP n R am ls sz back) → s2 (33 + 43 * g + 2 * k) 1 = mnQ n → (∀ b j, ¬ b = 34 + 43 * g + 2 * k → ¬ (b = 33 + 43 * g + 2 * k ∧ j = 1) → ¬ (285 ≤ b ∧ b ≤ 304) → s2 b j = s b j) → K 0 s2) : AM2 i_Shares_addOrders (d + 4) [(2, 33 + 43 * g + 2 * k), (2, 4 + 43 * g), (2, 285), (2, 304), (0, bk)] s K := by
  have ckg := fun {P : Prop} => ck_g (P := P) g0 g5
  have ck := fun {P : Prop} => ck_sh (P := P) g0 g5 k0 k7
  have lp : ∀ (r : List (List Nat)) (L : List Nat) (cnt : Nat) (c : Int) (F : Int → Int) (s1 : Mem), CH (L :: r) → (L.length : Int) = n → PM (L.length : Int) (oL L) → LR s1 304 L → TP s1 (34 + 43 * g + 2 * k) (n) (m) F → FBc (n) c F → c + 3 * (r.length : Int) ≤ 90000 → cnt + r.length < 5040 → (∀ b j, ¬ b = 34 + 43 * g + 2 * k → ¬ (285 ≤ b ∧ b ≤ 304) → s1 b j = s b j) → foldP n R am ls sz back (L :: r) F = mnP n R am ls sz back → ((cnt + (r.length + 1) : Nat) : Int) = mnQ n →
      AW2 i_Shares_addOrders (d + 4) 8 [] [(0, (2, 33 + 43 * g + 2 * k)), (1, (2, 4 + 43 * g)), (2, (2, 285)), (3, (2, 304)), (4, (0, bk)), (5, (0, (cnt : Int))), (6, (0, (cnt : Int)))] s1 K := by
    intro r
    induction r with
    | nil =>
      intro L cnt c F s1 hC hl hP hR h hF hc hk f eF eB
      have hP1 : PM n (oL L) := by rw [← hl]; exact hP
      have hD := dl_P3 (back := back) (R := R) (am := am) n7 hRr hL (fun t t0 t1 => (ha t t0 t1).2) hP1
      refine s_Shares_addOrders_8 (brT_i (by simp only [List.length_nil] at hk; omega) (chkK_i rfl ?_))
      refine X_deal_ok (d := d) (R := R) (am := am) (Or.inr rfl) g0 g5 n7 m8 hRr (by rw [f _ _ (by omega) (by omega)]; exact en) (by rw [f _ _ (by omega) (by omega)]; exact em) (by rw [f _ _ (by omega) (by omega)]; exact eR) hL ⟨fun x x0 x1 => by rw [f _ _ (by omega) (by omega)]; exact hX.1 x x0 x1, fun x i x0 x1 i0 i1 => by rw [f _ _ (by omega) (by omega)]; exact hX.2 x i x0 x1 i0 i1⟩ (fun t t0 t1 => by rw [f _ _ (by omega) (by omega)]; exact ha t t0 t1) (fun i i0 i1 => hR i i0 (by rw [hl]; exact i1)) hP1 hb (fun s2 x2 f2 => ?_)
      rw [ck]
      refine X_addHand_ok (d := d + 2) (n := n) (m := m) (Or.inr rfl) g0 g5 k0 k7 (by rw [f2 _ _ (by omega), f _ _ (by omega) (by omega)]; exact en) (by omega) (by omega) x2 hD.1 hD.2 (fun p t p0 p1 t0 t1 => by rw [f2 _ _ (by omega)]; exact h p t p0 p1 t0 t1) hF (by simp only [List.length_nil] at hc; omega) (fun s3 y1 y2 => ?_)
      rw [ckg, y2 (4 + 43 * g) 1 (by omega), f2 (4 + 43 * g) 1 (by omega), f (4 + 43 * g) 1 (by omega) (by omega), en, ← hl]
      refine X_nextLine_ok (d := d + 1) (L := L) rfl (by rw [show sN 304 = 7 from rfl]; omega) (by decide) (fun i i0 i1 => by rw [y2 _ _ (by omega), f2 _ _ (by omega)]; exact hR i i0 i1) (fun _ => br0 ?_) (fun M s4 hM _ _ => ?_)
      · rw [ck, w32_id (by omega) (by omega)]
        simp only [List.length_nil] at eB
        refine q _ (fun p t p0 p1 t0 t1 => ?_) ?_ (fun b j z1 z2 z3 => by rw [st_ne z2, y2 b j z1, f2 b j (by omega)]; exact f b j z1 z3)
        · rw [st_ne (by omega), y1 p t p0 p1 t0 t1, ← eF]; rfl
        · rw [st_self, ← eB]; omega
      · have hC : nxL L = none := hC
        rw [hM] at hC; cases hC
    | cons L2 r ih =>
      intro L cnt c F s1 hC hl hP hR h hF hc hk f eF eB
      have hC : nxL L = some L2 ∧ CH (L2 :: r) := hC
      have hP1 : PM n (oL L) := by rw [← hl]; exact hP
      have hD := dl_P3 (back := back) (R := R) (am := am) n7 hRr hL (fun t t0 t1 => (ha t t0 t1).2) hP1
      simp only [List.length_cons] at hk hc eB
      refine s_Shares_addOrders_8 (brT_i (by omega) (chkK_i rfl ?_))
      refine X_deal_ok (d := d) (R := R) (am := am) (Or.inr rfl) g0 g5 n7 m8 hRr (by rw [f _ _ (by omega) (by omega)]; exact en) (by rw [f _ _ (by omega) (by omega)]; exact em) (by rw [f _ _ (by omega) (by omega)]; exact eR) hL ⟨fun x x0 x1 => by rw [f _ _ (by omega) (by omega)]; exact hX.1 x x0 x1, fun x i x0 x1 i0 i1 => by rw [f _ _ (by omega) (by omega)]; exact hX.2 x i x0 x1 i0 i1⟩ (fun t t0 t1 => by rw [f _ _ (by omega) (by omega)]; exact ha t t0 t1) (fun i i0 i1 => hR i i0 (by rw [hl]; exact i1)) hP1 hb (fun s2 x2 f2 => ?_)
      rw [ck]
      refine X_addHand_ok (d := d + 2) (n := n) (m := m) (Or.inr rfl) g0 g5 k0 k7 (by rw [f2 _ _ (by omega), f _ _ (by omega) (by omega)]; exact en) (by omega) (by omega) x2 hD.1 hD.2 (fun p t p0 p1 t0 t1 => by rw [f2 _ _ (by omega)]; exact h p t p0 p1 t0 t1) hF (by omega) (fun s3 y1 y2 => ?_)
      rw [ckg, y2 (4 + 43 * g) 1 (by omega), f2 (4 + 43 * g) 1 (by omega), f (4 + 43 * g) 1 (by omega) (by omega), en, ← hl]
      refine X_nextLine_ok (d := d + 1) (L := L) rfl (by rw [show sN 304 = 7 from rfl]; omega) (by decide) (fun i i0 i1 => by rw [y2 _ _ (by omega), f2 _ _ (by omega)]; exact hR i i0 i1) (fun hno => ?_) (fun M s4 hM hR4 f4 => br1 ?_)
      · rw [hC.1] at hno; cases hno
      · rw [hC.1] at hM
        have eM : M = L2 := by cases hM; rfl
        rw [eM] at hR4
        rw [w32_id (x := (cnt : Int) + 1) (by omega) (by omega)]
        refine ih L2 (cnt + 1) (c + 3) _ s4 hC.2 (by rw [nxL_len hC.1]; exact hl) (nxL_PM hP hC.1) hR4 (fun p t p0 p1 t0 t1 => by rw [f4 _ _ (by omega)]; exact y1 p t p0 p1 t0 t1) (FBc_ad hD.2 hF) (by omega) (by omega) (fun b j z1 z2 => by rw [f4 b j (by omega), y2 b j z1, f2 b j (by omega)]; exact f b j z1 z2) eF ?_
        rw [← eB]; congr 1; omega
  obtain ⟨r, e1, e2, e3⟩ := pm_CH (n).toNat (by omega)
  have en2 : (((n).toNat : Nat) : Int) = n := by omega
  have hlen : ((List.range (n).toNat).length : Int) = n := by rw [List.length_range]; exact en2
  refine e_Shares_addOrders fun _ => ?_
  rw [ckg, en, ← en2]
  refine X_firstLine_ok (d := d + 2) rfl (by rw [show sN 304 = 7 from rfl]; omega) (by decide) (fun s1 hR f1 => ?_)
  refine lp r _ 0 0 (fun _ => 0) s1 e2 hlen (by rw [List.length_range]; exact range_PM _) hR (fun p t p0 p1 t0 t1 => by rw [f1 _ _ (by omega)]; exact hT p t p0 p1 t0 t1) (fun p t _ _ _ _ => ⟨Int.le_refl 0, Int.le_refl 0⟩) (by omega) (by omega) (fun b j z1 z2 => f1 b j (by omega)) ?_ ?_
  · unfold mnP; rw [e1]
  · unfold mnQ; rw [e1, List.length_cons]; omega
theorem M_meansP_ok {d : Nat} {K : Int → Mem → Prop} {s : Mem} {g bk n m R : Int} {ls : Int → Int → Int} {sz am : Int → Int} {back : Bool} (g0 : 0 ≤ g) (g5 : g ≤ 5) (hL : LGo n m ls sz) (hX : LM s g n m ls sz) (en : s 357 g = n) (em : s 358 g = m) (eR : s 359 g = R) (n7 : 1 ≤ n ∧ n ≤ 7) (m8 : 1 ≤ m ∧ m ≤ 8) (hRr : 1 ≤ R ∧ R ≤ 3) (ha : ∀ t, 0 ≤ t → t < m → s 360 (8 * g + t) = am t ∧ 1 ≤ am t ∧ am t ≤ 9) (hb : bk = if back = true then 1 else 0)
    (q : ∀ s2 : Mem, (∀ p t, 0 ≤ p → p < n → 0 ≤ t → t < 8 → s2 387 (8 * p + t) = mnP n R am ls sz back (8 * p + t) / cm (mnP n R am ls sz back (8 * p + t)) (mnQ n) ∧ s2 388 (8 * p + t) = mnQ n / cm (mnP n R am ls sz back (8 * p + t)) (mnQ n)) → (∀ b j, ¬ (379 ≤ b ∧ b ≤ 384) → ¬ (387 ≤ b ∧ b ≤ 389) → s2 b j = s b j) → K 0 s2) : AM2 i_M_means (d + 3) [(2, 356), (0, g), (0, bk)] s K := by
  have hmr := mnP_r (back := back) (R := R) (am := am) n7 hRr hL (fun t t0 t1 => (ha t t0 t1).2)
  -- the sums are put
  have l58 : ∀ (u : Nat) (i : Int) (s1 : Mem), 0 ≤ i → i + u = 8 * n → TP8 s1 389 (n) (mnP n R am ls sz back) → (∀ p t, 0 ≤ p → p < n → 0 ≤ t → t < 8 → 8 * p + t < i → s1 387 (8 * p + t) = mnP n R am ls sz back (8 * p + t) / cm (mnP n R am ls sz back (8 * p + t)) (mnQ n) ∧ s1 388 (8 * p + t) = mnQ n / cm (mnP n R am ls sz back (8 * p + t)) (mnQ n)) → (∀ b j, ¬ (379 ≤ b ∧ b ≤ 384) → ¬ (387 ≤ b ∧ b ≤ 389) → s1 b j = s b j) → AW2 i_M_means (d + 3) 58 [] [(0, (2, 356)), (3, (0, n)), (4, (0, mnQ n)), (6, (0, i))] s1 K := by
    intro u
    induction u with
    | zero =>
      intro i s1 i0 e h r f
      refine s_M_means_58 ?_
      rw [w32_id (x := 8 * n) (by omega) (by omega)]
      exact brF_i (by omega) (q s1 (fun p t p0 p1 t0 t1 => r p t p0 p1 t0 t1 (by omega)) f)
    | succ u ih =>
      intro i s1 i0 e h r f
      have ei : i = 8 * (i / 8) + i % 8 := by omega
      have hv := h (i / 8) (i % 8) (by omega) (by omega) (by omega) (by omega)
      have hw := hmr.1 (i / 8) (i % 8) (by omega) (by omega) (by omega) (by omega)
      rw [← ei] at hv hw
      refine s_M_means_58 ?_
      rw [w32_id (x := 8 * n) (by omega) (by omega), w32_id (x := i + 1) (by omega) (by omega), hv]
      refine brT_i (by omega) (inb_i i0 (by omega) (M_puts_ok (d := d) i0 (by omega) hw.1 (by omega) hmr.2.1 (by omega) ?_))
      refine ih (i + 1) _ (by omega) (by omega) (fun p t p0 p1 t0 t1 => by rw [st_ne (by omega), st_ne (by omega)]; exact h p t p0 p1 t0 t1) (fun p t p0 p1 t0 t1 z => ?_) (fun b j z1 z2 => by rw [st_ne (by omega), st_ne (by omega)]; exact f b j z1 z2)
      by_cases y : 8 * p + t = i
      · rw [y]; exact ⟨by rw [st_ne (by omega), st_self], st_self _ _ _ _⟩
      · rw [st_ne (by omega), st_ne (by omega), st_ne (by omega), st_ne (by omega)]; exact r p t p0 p1 t0 t1 (by omega)
  -- a run is added
  have l33 : ∀ (u : Nat) (i cnt c : Int) (S : RS) (F : Int → Int) (s1 : Mem), 0 ≤ i → i + u = 8 * n → MR s1 (n) (m) S → (∀ p, 0 ≤ p → p < n → 0 ≤ S.2.1 p ∧ S.2.1 p ≤ 3) → FBc (n) c F → c ≤ 90000 → (∀ p t, 0 ≤ p → p < n → 0 ≤ t → t < 8 → s1 389 (8 * p + t) = if 8 * p + t < i then adS S F (8 * p + t) else F (8 * p + t)) →
      (∀ s2 : Mem, TP8 s2 389 (n) (adS S F) → (∀ b j, ¬ b = 389 → s2 b j = s1 b j) → AM2 i_M_nextOrder (d + 2) [(2, 356), (0, n)] s2 (fun w1 σ1 => AW2 i_M_means (d + 3) 24 [] [(0, (2, 356)), (1, (0, g)), (2, (0, bk)), (3, (0, n)), (4, (0, cnt)), (5, (0, w1))] σ1 K)) → AW2 i_M_means (d + 3) 33 [] [(0, (2, 356)), (1, (0, g)), (2, (0, bk)), (3, (0, n)), (4, (0, cnt)), (6, (0, i))] s1 K := by
    intro u
    induction u with
    | zero =>
      intro i cnt c S F s1 i0 e hM hg hF hc h next
      refine s_M_means_33 ?_
      rw [w32_id (x := 8 * n) (by omega) (by omega)]
      exact brF_i (by omega) (next s1 (fun p t p0 p1 t0 t1 => by rw [h p t p0 p1 t0 t1, if_pos (by omega)]) (fun _ _ _ => rfl))
    | succ u ih =>
      intro i cnt c S F s1 i0 e hM hg hF hc h next
      have ei : i = 8 * (i / 8) + i % 8 := by omega
      have hv := h (i / 8) (i % 8) (by omega) (by omega) (by omega) (by omega)
      rw [← ei, if_neg (by omega)] at hv
      have hw := hF (i / 8) (i % 8) (by omega) (by omega) (by omega) (by omega)
      rw [← ei] at hw
      have hy := hM.2.2.2 (i / 8) (i % 8) (by omega) (by omega) (by omega) (by omega)
      rw [← ei] at hy
      have hz := hs_r3 (t := i % 8) (hg (i / 8) (by omega) (by omega))
      refine s_M_means_33 ?_
      rw [w32_id (x := 8 * n) (by omega) (by omega), w32_id (x := i + 1) (by omega) (by omega), hv, hy, w32_id (x := F i + hs S (i / 8) (i % 8)) (by omega) (by omega)]
      refine brT_i (by omega) (inb_i i0 (by omega) (inb_i i0 (by omega) (inb_i i0 (by omega) ?_)))
      refine ih (i + 1) cnt c S F _ (by omega) (by omega) ⟨fun t t0 t1 => by rw [st_ne (by omega)]; exact hM.1 t t0 t1, fun p p0 p1 => by rw [st_ne (by omega)]; exact hM.2.1 p p0 p1, fun p j p0 p1 j0 j1 => by rw [st_ne (by omega), st_ne (by omega)]; exact hM.2.2.1 p j p0 p1 j0 j1, fun p t p0 p1 t0 t1 => by rw [st_ne (by omega)]; exact hM.2.2.2 p t p0 p1 t0 t1⟩ hg hF hc (fun p t p0 p1 t0 t1 => ?_) (fun s2 y1 y2 => next s2 y1 (fun b j z => by rw [y2 b j z, st_ne (by omega)]))
      by_cases y : 8 * p + t = i
      · rw [y, st_self, if_pos (by omega)]; rfl
      · rw [st_ne (by omega), h p t p0 p1 t0 t1]
        by_cases x : 8 * p + t < i
        · rw [if_pos x, if_pos (by omega)]
        · rw [if_neg x, if_neg (by omega)]
  -- all orders
  have l24 : ∀ (r : List (List Nat)) (L : List Nat) (cnt : Nat) (c : Int) (F : Int → Int) (s1 : Mem), CH (L :: r) → (L.length : Int) = n → PM (L.length : Int) (oL L) → LR s1 379 L → TP8 s1 389 (n) F → FBc (n) c F → c + 3 * (r.length : Int) ≤ 80000 → cnt + r.length < 5040 → (∀ b j, ¬ (379 ≤ b ∧ b ≤ 384) → ¬ (387 ≤ b ∧ b ≤ 389) → s1 b j = s b j) → foldP n R am ls sz back (L :: r) F = mnP n R am ls sz back → ((cnt + (r.length + 1) : Nat) : Int) = mnQ n →
      AW2 i_M_means (d + 3) 24 [] [(0, (2, 356)), (1, (0, g)), (2, (0, bk)), (3, (0, n)), (4, (0, (cnt : Int))), (5, (0, 1))] s1 K := by
    intro r
    induction r with
    | nil =>
      intro L cnt c F s1 hC hl hP hR h hF hc hk f eF eB
      have hP1 : PM n (oL L) := by rw [← hl]; exact hP
      have hD := dl_P3 (back := back) (R := R) (am := am) n7 hRr hL (fun t t0 t1 => (ha t t0 t1).2) hP1
      simp only [List.length_nil] at hk hc eB
      refine s_M_means_24 (br1 ?_)
      refine M_runs_ok (d := d) (R := R) (am := am) g0 g5 n7 m8 hRr (by rw [f _ _ (by omega) (by omega)]; exact en) (by rw [f _ _ (by omega) (by omega)]; exact em) (by rw [f _ _ (by omega) (by omega)]; exact eR) hL ⟨fun x x0 x1 => by rw [f _ _ (by omega) (by omega)]; exact hX.1 x x0 x1, fun x i x0 x1 i0 i1 => by rw [f _ _ (by omega) (by omega)]; exact hX.2 x i x0 x1 i0 i1⟩ (fun t t0 t1 => by rw [f _ _ (by omega) (by omega)]; exact ha t t0 t1) (fun i i0 i1 => hR i i0 (by rw [hl]; exact i1)) hP1 hb (fun s2 x2 f2 => ?_)
      rw [w32_id (x := (cnt : Int) + 1) (by omega) (by omega)]
      refine l33 (8 * n).toNat 0 _ c _ F s2 (Int.le_refl 0) (by omega) x2 hD.2 hF (by omega) (fun p t p0 p1 t0 t1 => by rw [if_neg (by omega), f2 _ _ (by omega)]; exact h p t p0 p1 t0 t1) (fun s3 y1 y2 => ?_)
      rw [← hl]
      refine M_nextOrder_ok (d := d + 1) (L := L) (by omega) (fun i i0 i1 => by rw [y2 _ _ (by omega), f2 _ _ (by omega)]; exact hR i i0 i1) (fun _ => ?_) (fun M s4 hM _ _ => ?_)
      · refine s_M_means_24 (br0 ?_)
        rw [hl, show (cnt : Int) + 1 = mnQ n by omega]
        refine l58 (8 * n).toNat 0 s3 (Int.le_refl 0) (by omega) (fun p t p0 p1 t0 t1 => ?_) (fun p t p0 p1 t0 t1 z => by omega) (fun b j z1 z2 => by rw [y2 b j (by omega), f2 b j (by omega)]; exact f b j z1 z2)
        rw [y1 p t p0 p1 t0 t1, ← eF]; rfl
      · have hC : nxL L = none := hC
        rw [hM] at hC; cases hC
    | cons L2 r ih =>
      intro L cnt c F s1 hC hl hP hR h hF hc hk f eF eB
      have hC : nxL L = some L2 ∧ CH (L2 :: r) := hC
      have hP1 : PM n (oL L) := by rw [← hl]; exact hP
      have hD := dl_P3 (back := back) (R := R) (am := am) n7 hRr hL (fun t t0 t1 => (ha t t0 t1).2) hP1
      simp only [List.length_cons] at hk hc eB
      refine s_M_means_24 (br1 ?_)
      refine M_runs_ok (d := d) (R := R) (am := am) g0 g5 n7 m8 hRr (by rw [f _ _ (by omega) (by omega)]; exact en) (by rw [f _ _ (by omega) (by omega)]; exact em) (by rw [f _ _ (by omega) (by omega)]; exact eR) hL ⟨fun x x0 x1 => by rw [f _ _ (by omega) (by omega)]; exact hX.1 x x0 x1, fun x i x0 x1 i0 i1 => by rw [f _ _ (by omega) (by omega)]; exact hX.2 x i x0 x1 i0 i1⟩ (fun t t0 t1 => by rw [f _ _ (by omega) (by omega)]; exact ha t t0 t1) (fun i i0 i1 => hR i i0 (by rw [hl]; exact i1)) hP1 hb (fun s2 x2 f2 => ?_)
      rw [w32_id (x := (cnt : Int) + 1) (by omega) (by omega)]
      refine l33 (8 * n).toNat 0 _ c _ F s2 (Int.le_refl 0) (by omega) x2 hD.2 hF (by omega) (fun p t p0 p1 t0 t1 => by rw [if_neg (by omega), f2 _ _ (by omega)]; exact h p t p0 p1 t0 t1) (fun s3 y1 y2 => ?_)
      rw [← hl]
      refine M_nextOrder_ok (d := d + 1) (L := L) (by omega) (fun i i0 i1 => by rw [y2 _ _ (by omega), f2 _ _ (by omega)]; exact hR i i0 i1) (fun hno => ?_) (fun M s4 hM hR4 f4 => ?_)
      · rw [hC.1] at hno; cases hno
      · rw [hC.1] at hM
        have eM : M = L2 := by cases hM; rfl
        rw [eM] at hR4
        rw [hl]
        refine ih L2 (cnt + 1) (c + 3) _ s4 hC.2 (by rw [nxL_len hC.1]; exact hl) (nxL_PM hP hC.1) hR4 (fun p t p0 p1 t0 t1 => by rw [f4 _ _ (by omega)]; exact y1 p t p0 p1 t0 t1) (FBc_ad hD.2 hF) (by omega) (by omega) (fun b j z1 z2 => by rw [f4 b j (by omega), y2 b j (by omega), f2 b j (by omega)]; exact f b j z1 z2) eF ?_
        rw [← eB]; congr 1; omega
  -- the sums are nought first
  have l10 : ∀ (u : Nat) (i : Int) (s1 : Mem), 0 ≤ i → i + u = 56 → (∀ j, 0 ≤ j → j < i → s1 389 j = 0) → LR s1 379 (List.range (n).toNat) → (∀ b j, ¬ (379 ≤ b ∧ b ≤ 384) → ¬ (387 ≤ b ∧ b ≤ 389) → s1 b j = s b j) → AW2 i_M_means (d + 3) 10 [] [(0, (2, 356)), (1, (0, g)), (2, (0, bk)), (3, (0, n)), (4, (0, i))] s1 K := by
    intro u
    induction u with
    | zero =>
      intro i s1 i0 e h hR f
      obtain ⟨r, e1, e2, e3⟩ := pm_CH (n).toNat (by omega)
      refine s_M_means_10 (brF_i (by omega) ?_)
      refine l24 r _ 0 0 (fun _ => 0) s1 e2 (by rw [List.length_range]; omega) (by rw [List.length_range]; exact range_PM _) hR (fun p t p0 p1 t0 t1 => h _ (by omega) (by omega)) (fun p t _ _ _ _ => ⟨Int.le_refl 0, Int.le_refl 0⟩) (by omega) (by omega) f ?_ ?_
      · unfold mnP; rw [e1]
      · unfold mnQ; rw [e1, List.length_cons]; omega
    | succ u ih =>
      intro i s1 i0 e h hR f
      refine s_M_means_10 (brT_i (by omega) (inb_i i0 (by omega) ?_))
      rw [w32_id (x := i + 1) (by omega) (by omega)]
      refine ih (i + 1) _ (by omega) (by omega) (fun j j0 j1 => ?_) (fun j j0 j1 => by rw [st_ne (by omega)]; exact hR j j0 j1) (fun b j z1 z2 => by rw [st_ne (by omega)]; exact f b j z1 z2)
      by_cases z : j = i
      · rw [z, st_self]
      · rw [st_ne (by omega)]; exact h j j0 (by omega)
  refine e_M_means fun _ _ => inb_i g0 (by omega) ?_
  rw [en]
  have en2 : (((n).toNat : Nat) : Int) = n := by omega
  have hf := fun {K : Int → Mem → Prop} => M_firstOrder_ok (d := d + 1) (K := K) (s := s) (n := (n).toNat) (by omega)
  rw [en2] at hf
  exact hf (fun s1 hR f1 => l10 56 0 s1 (Int.le_refl 0) rfl (fun j j0 j1 => by omega) hR (fun b j z1 z2 => f1 b j (by omega)))
