-- ===== shares over all orders: both
def foldO (σ : Mem) (g : Int) (back : Bool) : List (List Nat) → (Int → Int) → Int → Int
  | [], F => F
  | L :: r, F => foldO σ g back r (adS (dlG σ g (oL L) back) F)
def mnN (σ : Mem) (g : Int) (back : Bool) : Int → Int := foldO σ g back (pmN (σ 357 g).toNat) (fun _ => 0)
def mnB (σ : Mem) (g : Int) : Int := ((pmN (σ 357 g).toNat).length : Int)
theorem X_addOrders_ok {d : Nat} {K : Int → Mem → Prop} {s : Mem} {g k bk : Int} {back : Bool} (g0 : 0 ≤ g) (g5 : g ≤ 5) (k0 : 0 ≤ k) (k7 : k < 7) (hA : GA s g) (hb : bk = if back = true then 1 else 0) (hT : TP s (34 + 43 * g + 2 * k) (s 357 g) (s 358 g) (fun _ => 0))
    (q : ∀ s2 : Mem, TP s2 (34 + 43 * g + 2 * k) (s 357 g) (s 358 g) (mnN s g back) → s2 (33 + 43 * g + 2 * k) 1 = mnB s g → (∀ b j, ¬ b = 34 + 43 * g + 2 * k → ¬ (b = 33 + 43 * g + 2 * k ∧ j = 1) → ¬ (285 ≤ b ∧ b ≤ 304) → s2 b j = s b j) → K 0 s2) : AM2 i_Shares_addOrders (d + 4) [(2, 33 + 43 * g + 2 * k), (2, 4 + 43 * g), (2, 285), (2, 304), (0, bk)] s K := by
  have ckg := fun {P : Prop} => ck_g (P := P) g0 g5
  have ck := fun {P : Prop} => ck_sh (P := P) g0 g5 k0 k7
  have hn := hA.1
  have en := hA.2.1.1
  have lp : ∀ (r : List (List Nat)) (L : List Nat) (cnt : Nat) (c : Int) (F : Int → Int) (s1 : Mem), CH (L :: r) → (L.length : Int) = s 357 g → PM (L.length : Int) (oL L) → LR s1 304 L → TP s1 (34 + 43 * g + 2 * k) (s 357 g) (s 358 g) F → FBc (s 357 g) c F → c + 3 * (r.length : Int) ≤ 90000 → cnt + r.length < 5040 → (∀ b j, ¬ b = 34 + 43 * g + 2 * k → ¬ (285 ≤ b ∧ b ≤ 304) → s1 b j = s b j) → foldO s g back (L :: r) F = mnN s g back → ((cnt + (r.length + 1) : Nat) : Int) = mnB s g →
      AW2 i_Shares_addOrders (d + 4) 8 [] [(0, (2, 33 + 43 * g + 2 * k)), (1, (2, 4 + 43 * g)), (2, (2, 285)), (3, (2, 304)), (4, (0, bk)), (5, (0, (cnt : Int))), (6, (0, (cnt : Int)))] s1 K := by
    intro r
    induction r with
    | nil =>
      intro L cnt c F s1 hC hl hP hR h hF hc hk f eF eB
      have hA1 : GA s1 g := GA_fr (fun b j z => by unfold fA at z; exact f b j (by omega) (by omega)) hA
      have e7 : s1 357 g = s 357 g := f _ _ (by omega) (by omega)
      have e8 : s1 358 g = s 358 g := f _ _ (by omega) (by omega)
      have hP1 : PM (s1 357 g) (oL L) := by rw [e7, ← hl]; exact hP
      have hD := dlG_PI (back := back) hA1 hP1
      have eD : dlG s1 g (oL L) back = dlG s g (oL L) back := dlG_fr (fun b j z1 z2 => f b j (by omega) (by omega))
      refine s_Shares_addOrders_8 (brT_i (by simp only [List.length_nil] at hk; omega) (chkK_i rfl ?_))
      refine X_dealG (d := d) (Or.inr rfl) g0 g5 hA1 (fun i i0 i1 => hR i i0 (by rw [hl, ← e7]; exact i1)) hP1 hb (fun s2 x2 f2 => ?_)
      rw [ck]
      rw [e7, e8, eD] at x2 hD
      refine X_addHand_ok (d := d + 2) (n := s 357 g) (m := s 358 g) (Or.inr rfl) g0 g5 k0 k7 (by rw [f2 _ _ (by omega), f _ _ (by omega) (by omega)]; exact en) (by omega) (by omega) x2 hD.1 hD.2 (fun p t p0 p1 t0 t1 => by rw [f2 _ _ (by omega)]; exact h p t p0 p1 t0 t1) hF (by simp only [List.length_nil] at hc; omega) (fun s3 y1 y2 => ?_)
      rw [ckg, y2 (4 + 43 * g) 1 (by omega), f2 (4 + 43 * g) 1 (by omega), f (4 + 43 * g) 1 (by omega) (by omega), en, ← hl]
      refine X_nextLine_ok (d := d + 1) (L := L) rfl (by rw [show sN 304 = 7 from rfl]; omega) (by decide) (fun i i0 i1 => by rw [y2 _ _ (by omega), f2 _ _ (by omega)]; exact hR i i0 i1) (fun _ => br0 ?_) (fun M s4 hM _ _ => ?_)
      · rw [ck, w32_id (by omega) (by omega)]
        simp only [List.length_nil] at eB
        refine q _ (fun p t p0 p1 t0 t1 => ?_) ?_ (fun b j z1 z2 z3 => by rw [st_ne z2, y2 b j z1, f2 b j (by omega)]; exact f b j z1 z3)
        · rw [st_ne (by omega), y1 p t p0 p1 t0 t1, ← eF]; rfl
        · rw [st_self, ← eB]; omega
      · have hC : nxL L = none := hC
        rw [hM] at hC; cases hC
    | cons L2 r ih =>
      intro L cnt c F s1 hC hl hP hR h hF hc hk f eF eB
      have hC : nxL L = some L2 ∧ CH (L2 :: r) := hC
      have hA1 : GA s1 g := GA_fr (fun b j z => by unfold fA at z; exact f b j (by omega) (by omega)) hA
      have e7 : s1 357 g = s 357 g := f _ _ (by omega) (by omega)
      have e8 : s1 358 g = s 358 g := f _ _ (by omega) (by omega)
      have hP1 : PM (s1 357 g) (oL L) := by rw [e7, ← hl]; exact hP
      have hD := dlG_PI (back := back) hA1 hP1
      have eD : dlG s1 g (oL L) back = dlG s g (oL L) back := dlG_fr (fun b j z1 z2 => f b j (by omega) (by omega))
      simp only [List.length_cons] at hk hc eB
      refine s_Shares_addOrders_8 (brT_i (by omega) (chkK_i rfl ?_))
      refine X_dealG (d := d) (Or.inr rfl) g0 g5 hA1 (fun i i0 i1 => hR i i0 (by rw [hl, ← e7]; exact i1)) hP1 hb (fun s2 x2 f2 => ?_)
      rw [ck]
      rw [e7, e8, eD] at x2 hD
      refine X_addHand_ok (d := d + 2) (n := s 357 g) (m := s 358 g) (Or.inr rfl) g0 g5 k0 k7 (by rw [f2 _ _ (by omega), f _ _ (by omega) (by omega)]; exact en) (by omega) (by omega) x2 hD.1 hD.2 (fun p t p0 p1 t0 t1 => by rw [f2 _ _ (by omega)]; exact h p t p0 p1 t0 t1) hF (by omega) (fun s3 y1 y2 => ?_)
      rw [ckg, y2 (4 + 43 * g) 1 (by omega), f2 (4 + 43 * g) 1 (by omega), f (4 + 43 * g) 1 (by omega) (by omega), en, ← hl]
      refine X_nextLine_ok (d := d + 1) (L := L) rfl (by rw [show sN 304 = 7 from rfl]; omega) (by decide) (fun i i0 i1 => by rw [y2 _ _ (by omega), f2 _ _ (by omega)]; exact hR i i0 i1) (fun hno => ?_) (fun M s4 hM hR4 f4 => br1 ?_)
      · rw [hC.1] at hno; cases hno
      · rw [hC.1] at hM
        have eM : M = L2 := by cases hM; rfl
        rw [eM] at hR4
        rw [w32_id (x := (cnt : Int) + 1) (by omega) (by omega)]
        refine ih L2 (cnt + 1) (c + 3) _ s4 hC.2 (by rw [nxL_len hC.1]; exact hl) (nxL_PM hP hC.1) hR4 (fun p t p0 p1 t0 t1 => by rw [f4 _ _ (by omega)]; exact y1 p t p0 p1 t0 t1) (FBc_ad hD.2 hF) (by omega) (by omega) (fun b j z1 z2 => by rw [f4 b j (by omega), y2 b j z1, f2 b j (by omega)]; exact f b j z1 z2) eF ?_
        rw [← eB]; congr 1; omega
  obtain ⟨r, e1, e2, e3⟩ := pm_CH (s 357 g).toNat (by omega)
  have en2 : (((s 357 g).toNat : Nat) : Int) = s 357 g := by omega
  have hlen : ((List.range (s 357 g).toNat).length : Int) = s 357 g := by rw [List.length_range]; exact en2
  refine e_Shares_addOrders fun _ => ?_
  rw [ckg, en, ← en2]
  refine X_firstLine_ok (d := d + 2) rfl (by rw [show sN 304 = 7 from rfl]; omega) (by decide) (fun s1 hR f1 => ?_)
  refine lp r _ 0 0 (fun _ => 0) s1 e2 hlen (by rw [List.length_range]; exact range_PM _) hR (fun p t p0 p1 t0 t1 => by rw [f1 _ _ (by omega)]; exact hT p t p0 p1 t0 t1) (fun p t _ _ _ _ => ⟨Int.le_refl 0, Int.le_refl 0⟩) (by omega) (by omega) (fun b j z1 z2 => f1 b j (by omega)) ?_ ?_
  · unfold mnN; rw [e1]
  · unfold mnB; rw [e1, List.length_cons]; omega
