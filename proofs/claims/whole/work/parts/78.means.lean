-- ===== shares over all orders: the model
def TP8 (s : Mem) (b n : Int) (F : Int → Int) : Prop := ∀ p t, 0 ≤ p → p < n → 0 ≤ t → t < 8 → s b (8 * p + t) = F (8 * p + t)
theorem FBc_fold {σ : Mem} {g : Int} {back : Bool} (hA : GA σ g) : ∀ (r : List (List Nat)) (L : List Nat) (c : Int) (F : Int → Int), CH (L :: r) → (L.length : Int) = σ 357 g → PM (L.length : Int) (oL L) → FBc (σ 357 g) c F → FBc (σ 357 g) (c + 3 * ((r.length : Int) + 1)) (foldO σ g back (L :: r) F)
  | [], L, c, F, _, hl, hP, hF => by
    have hD := dlG_PI (back := back) hA (by rw [← hl]; exact hP)
    exact FBc_ad hD.2 hF
  | L2 :: r, L, c, F, hC, hl, hP, hF => by
    have hC : nxL L = some L2 ∧ CH (L2 :: r) := hC
    have hD := dlG_PI (back := back) hA (by rw [← hl]; exact hP)
    have := FBc_fold (back := back) hA r L2 (c + 3) (adS (dlG σ g (oL L) back) F) hC.2 (by rw [nxL_len hC.1]; exact hl) (nxL_PM hP hC.1) (FBc_ad hD.2 hF)
    rw [show c + 3 * ((((L2 :: r).length : Nat) : Int) + 1) = c + 3 + 3 * ((r.length : Int) + 1) by simp only [List.length_cons]; omega]
    exact this
theorem mn_r {σ : Mem} {g : Int} {back : Bool} (hA : GA σ g) : FBc (σ 357 g) 15120 (mnN σ g back) ∧ 1 ≤ mnB σ g ∧ mnB σ g ≤ 5040 := by
  have hn := hA.1
  obtain ⟨r, e1, e2, e3⟩ := pm_CH (σ 357 g).toNat (by omega)
  have h := FBc_fold (back := back) hA r _ 0 (fun _ => 0) e2 (by rw [List.length_range]; omega) (by rw [List.length_range]; exact range_PM _) (fun p t _ _ _ _ => ⟨Int.le_refl 0, Int.le_refl 0⟩)
  unfold mnN mnB
  rw [e1, List.length_cons]
  exact ⟨fun p t p0 p1 t0 t1 => by have := h p t p0 p1 t0 t1; omega, by omega, by omega⟩
theorem M_means_ok {d : Nat} {K : Int → Mem → Prop} {s : Mem} {g bk : Int} {back : Bool} (g0 : 0 ≤ g) (g5 : g ≤ 5) (hA : GA s g) (hb : bk = if back = true then 1 else 0)
    (q : ∀ s2 : Mem, (∀ p t, 0 ≤ p → p < s 357 g → 0 ≤ t → t < 8 → s2 387 (8 * p + t) = mnN s g back (8 * p + t) / cm (mnN s g back (8 * p + t)) (mnB s g) ∧ s2 388 (8 * p + t) = mnB s g / cm (mnN s g back (8 * p + t)) (mnB s g)) → (∀ b j, ¬ (379 ≤ b ∧ b ≤ 384) → ¬ (387 ≤ b ∧ b ≤ 389) → s2 b j = s b j) → K 0 s2) : AM2 i_M_means (d + 3) [(2, 356), (0, g), (0, bk)] s K := by
  have hn := hA.1
  have hmr := mn_r (back := back) hA
  -- the sums are put
  have l58 : ∀ (u : Nat) (i : Int) (s1 : Mem), 0 ≤ i → i + u = 8 * s 357 g → TP8 s1 389 (s 357 g) (mnN s g back) → (∀ p t, 0 ≤ p → p < s 357 g → 0 ≤ t → t < 8 → 8 * p + t < i → s1 387 (8 * p + t) = mnN s g back (8 * p + t) / cm (mnN s g back (8 * p + t)) (mnB s g) ∧ s1 388 (8 * p + t) = mnB s g / cm (mnN s g back (8 * p + t)) (mnB s g)) → (∀ b j, ¬ (379 ≤ b ∧ b ≤ 384) → ¬ (387 ≤ b ∧ b ≤ 389) → s1 b j = s b j) → AW2 i_M_means (d + 3) 58 [] [(0, (2, 356)), (3, (0, s 357 g)), (4, (0, mnB s g)), (6, (0, i))] s1 K := by
    intro u
    induction u with
    | zero =>
      intro i s1 i0 e h r f
      refine s_M_means_58 ?_
      rw [w32_id (x := 8 * s 357 g) (by omega) (by omega)]
      exact brF_i (by omega) (q s1 (fun p t p0 p1 t0 t1 => r p t p0 p1 t0 t1 (by omega)) f)
    | succ u ih =>
      intro i s1 i0 e h r f
      have ei : i = 8 * (i / 8) + i % 8 := by omega
      have hv := h (i / 8) (i % 8) (by omega) (by omega) (by omega) (by omega)
      have hw := hmr.1 (i / 8) (i % 8) (by omega) (by omega) (by omega) (by omega)
      rw [← ei] at hv hw
      refine s_M_means_58 ?_
      rw [w32_id (x := 8 * s 357 g) (by omega) (by omega), w32_id (x := i + 1) (by omega) (by omega), hv]
      refine brT_i (by omega) (inb_i i0 (by omega) (M_puts_ok (d := d) i0 (by omega) hw.1 (by omega) hmr.2.1 (by omega) ?_))
      refine ih (i + 1) _ (by omega) (by omega) (fun p t p0 p1 t0 t1 => by rw [st_ne (by omega), st_ne (by omega)]; exact h p t p0 p1 t0 t1) (fun p t p0 p1 t0 t1 z => ?_) (fun b j z1 z2 => by rw [st_ne (by omega), st_ne (by omega)]; exact f b j z1 z2)
      by_cases y : 8 * p + t = i
      · rw [y]; exact ⟨by rw [st_ne (by omega), st_self], st_self _ _ _ _⟩
      · rw [st_ne (by omega), st_ne (by omega), st_ne (by omega), st_ne (by omega)]; exact r p t p0 p1 t0 t1 (by omega)
  -- a run is added
  have l33 : ∀ (u : Nat) (i cnt c : Int) (S : RS) (F : Int → Int) (s1 : Mem), 0 ≤ i → i + u = 8 * s 357 g → MR s1 (s 357 g) (s 358 g) S → (∀ p, 0 ≤ p → p < s 357 g → 0 ≤ S.2.1 p ∧ S.2.1 p ≤ 3) → FBc (s 357 g) c F → c ≤ 90000 → (∀ p t, 0 ≤ p → p < s 357 g → 0 ≤ t → t < 8 → s1 389 (8 * p + t) = if 8 * p + t < i then adS S F (8 * p + t) else F (8 * p + t)) →
      (∀ s2 : Mem, TP8 s2 389 (s 357 g) (adS S F) → (∀ b j, ¬ b = 389 → s2 b j = s1 b j) → AM2 i_M_nextOrder (d + 2) [(2, 356), (0, s 357 g)] s2 (fun w1 σ1 => AW2 i_M_means (d + 3) 24 [] [(0, (2, 356)), (1, (0, g)), (2, (0, bk)), (3, (0, s 357 g)), (4, (0, cnt)), (5, (0, w1))] σ1 K)) → AW2 i_M_means (d + 3) 33 [] [(0, (2, 356)), (1, (0, g)), (2, (0, bk)), (3, (0, s 357 g)), (4, (0, cnt)), (6, (0, i))] s1 K := by
    intro u
    induction u with
    | zero =>
      intro i cnt c S F s1 i0 e hM hg hF hc h next
      refine s_M_means_33 ?_
      rw [w32_id (x := 8 * s 357 g) (by omega) (by omega)]
      exact brF_i (by omega) (next s1 (fun p t p0 p1 t0 t1 => by rw [h p t p0 p1 t0 t1, if_pos (by omega)]) (fun _ _ _ => rfl))
    | succ u ih =>
      intro i cnt c S F s1 i0 e hM hg hF hc h next
      have ei : i = 8 * (i / 8) + i % 8 := by omega
      have hv := h (i / 8) (i % 8) (by omega) (by omega) (by omega) (by omega)
      rw [← ei, if_neg (by omega)] at hv
      have hw := hF (i / 8) (i % 8) (by omega) (by omega) (by omega) (by omega)
      rw [← ei] at hw
      have hy := hM.2.2.2 (i / 8) (i % 8) (by omega) (by omega) (by omega) (by omega)
      rw [← ei] at hy
      have hz := hs_r3 (t := i % 8) (hg (i / 8) (by omega) (by omega))
      refine s_M_means_33 ?_
      rw [w32_id (x := 8 * s 357 g) (by omega) (by omega), w32_id (x := i + 1) (by omega) (by omega), hv, hy, w32_id (x := F i + hs S (i / 8) (i % 8)) (by omega) (by omega)]
      refine brT_i (by omega) (inb_i i0 (by omega) (inb_i i0 (by omega) (inb_i i0 (by omega) ?_)))
      refine ih (i + 1) cnt c S F _ (by omega) (by omega) ⟨fun t t0 t1 => by rw [st_ne (by omega)]; exact hM.1 t t0 t1, fun p p0 p1 => by rw [st_ne (by omega)]; exact hM.2.1 p p0 p1, fun p j p0 p1 j0 j1 => by rw [st_ne (by omega), st_ne (by omega)]; exact hM.2.2.1 p j p0 p1 j0 j1, fun p t p0 p1 t0 t1 => by rw [st_ne (by omega)]; exact hM.2.2.2 p t p0 p1 t0 t1⟩ hg hF hc (fun p t p0 p1 t0 t1 => ?_) (fun s2 y1 y2 => next s2 y1 (fun b j z => by rw [y2 b j z, st_ne (by omega)]))
      by_cases y : 8 * p + t = i
      · rw [y, st_self, if_pos (by omega)]; rfl
      · rw [st_ne (by omega), h p t p0 p1 t0 t1]
        by_cases x : 8 * p + t < i
        · rw [if_pos x, if_pos (by omega)]
        · rw [if_neg x, if_neg (by omega)]
  -- all orders
  have l24 : ∀ (r : List (List Nat)) (L : List Nat) (cnt : Nat) (c : Int) (F : Int → Int) (s1 : Mem), CH (L :: r) → (L.length : Int) = s 357 g → PM (L.length : Int) (oL L) → LR s1 379 L → TP8 s1 389 (s 357 g) F → FBc (s 357 g) c F → c + 3 * (r.length : Int) ≤ 80000 → cnt + r.length < 5040 → (∀ b j, ¬ (379 ≤ b ∧ b ≤ 384) → ¬ (387 ≤ b ∧ b ≤ 389) → s1 b j = s b j) → foldO s g back (L :: r) F = mnN s g back → ((cnt + (r.length + 1) : Nat) : Int) = mnB s g →
      AW2 i_M_means (d + 3) 24 [] [(0, (2, 356)), (1, (0, g)), (2, (0, bk)), (3, (0, s 357 g)), (4, (0, (cnt : Int))), (5, (0, 1))] s1 K := by
    intro r
    induction r with
    | nil =>
      intro L cnt c F s1 hC hl hP hR h hF hc hk f eF eB
      have hA1 : GA s1 g := GA_fr (fun b j z => by unfold fA at z; exact f b j (by omega) (by omega)) hA
      have e7 : s1 357 g = s 357 g := f _ _ (by omega) (by omega)
      have e8 : s1 358 g = s 358 g := f _ _ (by omega) (by omega)
      have hP1 : PM (s1 357 g) (oL L) := by rw [e7, ← hl]; exact hP
      have hD := dlG_PI (back := back) hA1 hP1
      have eD : dlG s1 g (oL L) back = dlG s g (oL L) back := dlG_fr (fun b j z1 z2 => f b j (by omega) (by omega))
      simp only [List.length_nil] at hk hc eB
      refine s_M_means_24 (br1 ?_)
      refine M_runsG (d := d) g0 g5 hA1 (fun i i0 i1 => hR i i0 (by rw [hl, ← e7]; exact i1)) hP1 hb (fun s2 x2 f2 => ?_)
      rw [e7, e8, eD] at x2 hD
      rw [w32_id (x := (cnt : Int) + 1) (by omega) (by omega)]
      refine l33 (8 * s 357 g).toNat 0 _ c _ F s2 (Int.le_refl 0) (by omega) x2 hD.2 hF (by omega) (fun p t p0 p1 t0 t1 => by rw [if_neg (by omega), f2 _ _ (by omega)]; exact h p t p0 p1 t0 t1) (fun s3 y1 y2 => ?_)
      rw [← hl]
      refine M_nextOrder_ok (d := d + 1) (L := L) (by omega) (fun i i0 i1 => by rw [y2 _ _ (by omega), f2 _ _ (by omega)]; exact hR i i0 i1) (fun _ => ?_) (fun M s4 hM _ _ => ?_)
      · refine s_M_means_24 (br0 ?_)
        rw [hl, show (cnt : Int) + 1 = mnB s g by omega]
        refine l58 (8 * s 357 g).toNat 0 s3 (Int.le_refl 0) (by omega) (fun p t p0 p1 t0 t1 => ?_) (fun p t p0 p1 t0 t1 z => by omega) (fun b j z1 z2 => by rw [y2 b j (by omega), f2 b j (by omega)]; exact f b j z1 z2)
        rw [y1 p t p0 p1 t0 t1, ← eF]; rfl
      · have hC : nxL L = none := hC
        rw [hM] at hC; cases hC
    | cons L2 r ih =>
      intro L cnt c F s1 hC hl hP hR h hF hc hk f eF eB
      have hC : nxL L = some L2 ∧ CH (L2 :: r) := hC
      have hA1 : GA s1 g := GA_fr (fun b j z => by unfold fA at z; exact f b j (by omega) (by omega)) hA
      have e7 : s1 357 g = s 357 g := f _ _ (by omega) (by omega)
      have e8 : s1 358 g = s 358 g := f _ _ (by omega) (by omega)
      have hP1 : PM (s1 357 g) (oL L) := by rw [e7, ← hl]; exact hP
      have hD := dlG_PI (back := back) hA1 hP1
      have eD : dlG s1 g (oL L) back = dlG s g (oL L) back := dlG_fr (fun b j z1 z2 => f b j (by omega) (by omega))
      simp only [List.length_cons] at hk hc eB
      refine s_M_means_24 (br1 ?_)
      refine M_runsG (d := d) g0 g5 hA1 (fun i i0 i1 => hR i i0 (by rw [hl, ← e7]; exact i1)) hP1 hb (fun s2 x2 f2 => ?_)
      rw [e7, e8, eD] at x2 hD
      rw [w32_id (x := (cnt : Int) + 1) (by omega) (by omega)]
      refine l33 (8 * s 357 g).toNat 0 _ c _ F s2 (Int.le_refl 0) (by omega) x2 hD.2 hF (by omega) (fun p t p0 p1 t0 t1 => by rw [if_neg (by omega), f2 _ _ (by omega)]; exact h p t p0 p1 t0 t1) (fun s3 y1 y2 => ?_)
      rw [← hl]
      refine M_nextOrder_ok (d := d + 1) (L := L) (by omega) (fun i i0 i1 => by rw [y2 _ _ (by omega), f2 _ _ (by omega)]; exact hR i i0 i1) (fun hno => ?_) (fun M s4 hM hR4 f4 => ?_)
      · rw [hC.1] at hno; cases hno
      · rw [hC.1] at hM
        have eM : M = L2 := by cases hM; rfl
        rw [eM] at hR4
        rw [hl]
        refine ih L2 (cnt + 1) (c + 3) _ s4 hC.2 (by rw [nxL_len hC.1]; exact hl) (nxL_PM hP hC.1) hR4 (fun p t p0 p1 t0 t1 => by rw [f4 _ _ (by omega)]; exact y1 p t p0 p1 t0 t1) (FBc_ad hD.2 hF) (by omega) (by omega) (fun b j z1 z2 => by rw [f4 b j (by omega), y2 b j (by omega), f2 b j (by omega)]; exact f b j z1 z2) eF ?_
        rw [← eB]; congr 1; omega
  -- the sums are nought first
  have l10 : ∀ (u : Nat) (i : Int) (s1 : Mem), 0 ≤ i → i + u = 56 → (∀ j, 0 ≤ j → j < i → s1 389 j = 0) → LR s1 379 (List.range (s 357 g).toNat) → (∀ b j, ¬ (379 ≤ b ∧ b ≤ 384) → ¬ (387 ≤ b ∧ b ≤ 389) → s1 b j = s b j) → AW2 i_M_means (d + 3) 10 [] [(0, (2, 356)), (1, (0, g)), (2, (0, bk)), (3, (0, s 357 g)), (4, (0, i))] s1 K := by
    intro u
    induction u with
    | zero =>
      intro i s1 i0 e h hR f
      obtain ⟨r, e1, e2, e3⟩ := pm_CH (s 357 g).toNat (by omega)
      refine s_M_means_10 (brF_i (by omega) ?_)
      refine l24 r _ 0 0 (fun _ => 0) s1 e2 (by rw [List.length_range]; omega) (by rw [List.length_range]; exact range_PM _) hR (fun p t p0 p1 t0 t1 => h _ (by omega) (by omega)) (fun p t _ _ _ _ => ⟨Int.le_refl 0, Int.le_refl 0⟩) (by omega) (by omega) f ?_ ?_
      · unfold mnN; rw [e1]
      · unfold mnB; rw [e1, List.length_cons]; omega
    | succ u ih =>
      intro i s1 i0 e h hR f
      refine s_M_means_10 (brT_i (by omega) (inb_i i0 (by omega) ?_))
      rw [w32_id (x := i + 1) (by omega) (by omega)]
      refine ih (i + 1) _ (by omega) (by omega) (fun j j0 j1 => ?_) (fun j j0 j1 => by rw [st_ne (by omega)]; exact hR j j0 j1) (fun b j z1 z2 => by rw [st_ne (by omega)]; exact f b j z1 z2)
      by_cases z : j = i
      · rw [z, st_self]
      · rw [st_ne (by omega)]; exact h j j0 (by omega)
  refine e_M_means fun _ _ => inb_i g0 (by omega) ?_
  have en2 : (((s 357 g).toNat : Nat) : Int) = s 357 g := by omega
  have hf := fun {K : Int → Mem → Prop} => M_firstOrder_ok (d := d + 1) (K := K) (s := s) (n := (s 357 g).toNat) (by omega)
  rw [en2] at hf
  exact hf (fun s1 hR f1 => l10 56 0 s1 (Int.le_refl 0) rfl (fun j j0 j1 => by omega) hR (fun b j z1 z2 => f1 b j (by omega)))
