theorem fewest_ok {d : Nat} {K : Int → Mem → Prop} {σ : Mem} {n : Int} {tot o : Int → Int} (hn : 1 ≤ n ∧ n ≤ 7) (ht : ∀ p, 0 ≤ p → p < n → σ 306 p = tot p) (ho : ∀ i, 0 ≤ i → i < n → σ 304 i = o i) (hP : PM n o) (k : ∀ s2 : Mem, (∀ i, 0 ≤ i → i < n → s2 304 i = srtO tot (n.toNat - 1) 1 o i) → (∀ b j, ¬ b = 304 → s2 b j = σ b j) → K 0 s2) : AM2 i_X_fewestFirst (d + 1) [(2, 0), (0, n)] σ K := by
  have inner : ∀ (q : Nat) (i : Int) (p : Int), 0 ≤ p → p < n → (∀ (o2 : Int → Int) (s2 : Mem), (∀ j, 0 ≤ j → j < n → s2 304 j = insO2 tot p q o2 j) → False → True) → ∀ (o2 : Int → Int) (s : Mem), (q : Int) < n → (∀ j, 0 ≤ j → j < n → ¬ j = q → s 304 j = o2 j) → (∀ j, 0 ≤ j → j < (q : Int) → 0 ≤ o2 j ∧ o2 j < n) → (∀ b j, ¬ b = 304 → s b j = σ b j) → (∀ s2 : Mem, (∀ j, 0 ≤ j → j < n → s2 304 j = insO2 tot p q o2 j) → (∀ b j, ¬ b = 304 → s2 b j = σ b j) → AW2 i_X_fewestFirst (d + 1) 2 [] [(0, (2, 0)), (1, (0, n)), (2, (0, w32 (i + 1)))] s2 K) → AW2 i_X_fewestFirst (d + 1) 12 [] [(0, (2, 0)), (1, (0, n)), (2, (0, i)), (3, (0, p)), (4, (0, (q : Int)))] s K := by
    intro q
    induction q with
    | zero =>
      intro i p p0 p1 _ o2 s hq hx hr f c
      refine s_X_fewestFirst_12 (brF_i (by omega) (inb_i (by omega) (by omega) ?_))
      refine c _ (fun j j0 j1 => ?_) (fun b j z => by rw [st_ne (by omega), f b j z])
      unfold insO2
      by_cases z : j = 0
      · rw [z, up_s]; show st s 304 0 p 304 0 = p; rw [st_self]
      · rw [up_n z, st_ne (by omega)]; exact hx j j0 j1 (by omega)
    | succ q ih =>
      intro i p p0 p1 _ o2 s hq hx hr f c
      have h1 := hx q (by omega) (by omega) (by omega)
      have h2 := hr q (by omega) (by omega)
      refine s_X_fewestFirst_12 (brT_i (by omega) ?_)
      rw [w32_id (x := ((q + 1 : Nat) : Int) - 1) (by omega) (by omega), w32_id (x := ((q + 1 : Nat) : Int) + -1) (by omega) (by omega), show ((q + 1 : Nat) : Int) - 1 = (q : Int) by omega, show ((q + 1 : Nat) : Int) + -1 = (q : Int) by omega, h1, f 306 p (by omega), f 306 (o2 q) (by omega), ht p p0 p1, ht _ h2.1 h2.2]
      refine inb_i (by omega) (by omega) (inb_i h2.1 (by omega) (inb_i p0 (by omega) ⟨fun z => inb_i (by omega) (by omega) (inb_i (by omega) (by omega) ?_), fun z => inb_i (by omega) (by omega) ?_⟩))
      · unfold insO2 at c
        rw [if_pos z] at c
        refine ih i p p0 p1 (fun _ _ _ h => h.elim) (up o2 (q + 1) (o2 q)) _ (by omega) (fun j j0 j1 jq => ?_) (fun j j0 j1 => ?_) (fun b j y => by rw [st_ne (by omega), f b j y]) c
        · by_cases y : j = (q : Int) + 1
          · rw [y, up_s]; show st s 304 ((q + 1 : Nat) : Int) (o2 q) 304 ((q + 1 : Nat) : Int) = o2 q; rw [st_self]
          · rw [up_n y, st_ne (by omega)]; exact hx j j0 j1 (by omega)
        · rw [up_n (by omega)]; exact hr j j0 (by omega)
      · unfold insO2 at c
        rw [if_neg z] at c
        refine c _ (fun j j0 j1 => ?_) (fun b j y => by rw [st_ne (by omega), f b j y])
        by_cases y : j = (q : Int) + 1
        · rw [y, up_s]; show st s 304 ((q + 1 : Nat) : Int) p 304 ((q + 1 : Nat) : Int) = p; rw [st_self]
        · rw [up_n y, st_ne (by omega)]; exact hx j j0 j1 (by omega)
  have outer : ∀ (m k : Nat) (o2 : Int → Int) (s : Mem), 1 ≤ k → (k : Int) + m = n → PM n o2 → (∀ j, 0 ≤ j → j < n → s 304 j = o2 j) → (∀ b j, ¬ b = 304 → s b j = σ b j) → srtO tot m k o2 = srtO tot (n.toNat - 1) 1 o → AW2 i_X_fewestFirst (d + 1) 2 [] [(0, (2, 0)), (1, (0, n)), (2, (0, (k : Int)))] s K := by
    intro m
    induction m with
    | zero =>
      intro k2 o2 s k1 e hP2 hx f es
      have es : o2 = srtO tot (n.toNat - 1) 1 o := es
      exact s_X_fewestFirst_2 (brF_i (by omega) (k s (fun j a b => by rw [← es]; exact hx j a b) f))
    | succ m ih =>
      intro k2 o2 s k1 e hP2 hx f es
      have es : srtO tot m (k2 + 1) (insO2 tot (o2 k2) k2 o2) = srtO tot (n.toNat - 1) 1 o := es
      have hk := hP2 k2 (by omega) (by omega)
      refine s_X_fewestFirst_2 (brT_i (by omega) (inb_i (by omega) (by omega) ?_))
      rw [hx k2 (by omega) (by omega)]
      refine inner k2 k2 (o2 k2) hk.1.1 hk.1.2 (fun _ _ _ h => h.elim) o2 s (by omega) (fun j a b _ => hx j a b) (fun j a b => (hP2 j a (by omega)).1) f (fun s2 x2 f2 => ?_)
      rw [w32_id (by omega) (by omega), show (k2 : Int) + 1 = ((k2 + 1 : Nat) : Int) by omega]
      exact ih (k2 + 1) _ s2 (by omega) (by omega) (insO2_PM k2 o2 (by omega) (by rw [up_id]; exact hP2)) x2 f2 es
  exact e_X_fewestFirst fun _ => outer (n.toNat - 1) 1 o σ (by decide) (by omega) hP ho (fun _ _ _ => rfl) rfl
theorem M_sort_ok {d : Nat} {K : Int → Mem → Prop} {σ : Mem} {g a b2 y n : Int} {tot o : Int → Int} (g0 : 0 ≤ g) (g5 : g ≤ 5) (e7 : σ 357 g = n) (hn : 1 ≤ n ∧ n ≤ 7) (ht : ∀ p, 0 ≤ p → p < n → σ 406 p = tot p) (ho : ∀ i, 0 ≤ i → i < n → σ 379 i = o i) (hP : PM n o) (k : ∀ s2 : Mem, (∀ i, 0 ≤ i → i < n → s2 379 i = srtO tot (n.toNat - 1) 1 o i) → (∀ b j, ¬ b = 379 → s2 b j = σ b j) → AW2 i_M_years (d + 1) 42 [] [(0, (2, 356)), (1, (0, g)), (3, (0, a)), (4, (0, b2)), (5, (0, w32 (y + 1)))] s2 K) : AW2 i_M_years (d + 1) 72 [] [(0, (2, 356)), (1, (0, g)), (3, (0, a)), (4, (0, b2)), (5, (0, y)), (6, (0, 1))] σ K := by
  have inner : ∀ (q : Nat) (i : Int) (p : Int), 0 ≤ p → p < n → ∀ (o2 : Int → Int) (s : Mem), (q : Int) < n → (∀ j, 0 ≤ j → j < n → ¬ j = q → s 379 j = o2 j) → (∀ j, 0 ≤ j → j < (q : Int) → 0 ≤ o2 j ∧ o2 j < n) → (∀ b j, ¬ b = 379 → s b j = σ b j) → (∀ s2 : Mem, (∀ j, 0 ≤ j → j < n → s2 379 j = insO2 tot p q o2 j) → (∀ b j, ¬ b = 379 → s2 b j = σ b j) → AW2 i_M_years (d + 1) 72 [] [(0, (2, 356)), (1, (0, g)), (3, (0, a)), (4, (0, b2)), (5, (0, y)), (6, (0, w32 (i + 1)))] s2 K) → AW2 i_M_years (d + 1) 85 [] [(0, (2, 356)), (1, (0, g)), (3, (0, a)), (4, (0, b2)), (5, (0, y)), (6, (0, i)), (7, (0, p)), (8, (0, (q : Int)))] s K := by
    intro q
    induction q with
    | zero =>
      intro i p p0 p1 o2 s hq hx hr f c
      refine s_M_years_85 (brF_i (by omega) (inb_i (by omega) (by omega) ?_))
      refine c _ (fun j j0 j1 => ?_) (fun b j z => by rw [st_ne (by omega), f b j z])
      unfold insO2
      by_cases z : j = 0
      · rw [z, up_s]; show st s 379 0 p 379 0 = p; rw [st_self]
      · rw [up_n z, st_ne (by omega)]; exact hx j j0 j1 (by omega)
    | succ q ih =>
      intro i p p0 p1 o2 s hq hx hr f c
      have h1 := hx q (by omega) (by omega) (by omega)
      have h2 := hr q (by omega) (by omega)
      refine s_M_years_85 (brT_i (by omega) (brT_i (by omega) ?_))
      rw [w32_id (x := ((q + 1 : Nat) : Int) - 1) (by omega) (by omega), w32_id (x := ((q + 1 : Nat) : Int) + -1) (by omega) (by omega), show ((q + 1 : Nat) : Int) - 1 = (q : Int) by omega, show ((q + 1 : Nat) : Int) + -1 = (q : Int) by omega, h1, f 406 p (by omega), f 406 (o2 q) (by omega), ht p p0 p1, ht _ h2.1 h2.2]
      refine inb_i (by omega) (by omega) (inb_i h2.1 (by omega) (inb_i p0 (by omega) ⟨fun z => inb_i (by omega) (by omega) (inb_i (by omega) (by omega) ?_), fun z => inb_i (by omega) (by omega) ?_⟩))
      · unfold insO2 at c
        rw [if_pos z] at c
        refine ih i p p0 p1 (up o2 (q + 1) (o2 q)) _ (by omega) (fun j j0 j1 jq => ?_) (fun j j0 j1 => ?_) (fun b j y => by rw [st_ne (by omega), f b j y]) c
        · by_cases y : j = (q : Int) + 1
          · rw [y, up_s]; show st s 379 ((q + 1 : Nat) : Int) (o2 q) 379 ((q + 1 : Nat) : Int) = o2 q; rw [st_self]
          · rw [up_n y, st_ne (by omega)]; exact hx j j0 j1 (by omega)
        · rw [up_n (by omega)]; exact hr j j0 (by omega)
      · unfold insO2 at c
        rw [if_neg z] at c
        refine c _ (fun j j0 j1 => ?_) (fun b j y => by rw [st_ne (by omega), f b j y])
        by_cases y : j = (q : Int) + 1
        · rw [y, up_s]; show st s 379 ((q + 1 : Nat) : Int) p 379 ((q + 1 : Nat) : Int) = p; rw [st_self]
        · rw [up_n y, st_ne (by omega)]; exact hx j j0 j1 (by omega)
  have outer : ∀ (m k : Nat) (o2 : Int → Int) (s : Mem), 1 ≤ k → (k : Int) + m = n → PM n o2 → (∀ j, 0 ≤ j → j < n → s 379 j = o2 j) → (∀ b j, ¬ b = 379 → s b j = σ b j) → srtO tot m k o2 = srtO tot (n.toNat - 1) 1 o → AW2 i_M_years (d + 1) 72 [] [(0, (2, 356)), (1, (0, g)), (3, (0, a)), (4, (0, b2)), (5, (0, y)), (6, (0, (k : Int)))] s K := by
    intro m
    induction m with
    | zero =>
      intro k2 o2 s k1 e hP2 hx f es
      have es : o2 = srtO tot (n.toNat - 1) 1 o := es
      refine s_M_years_72 (inb_i g0 (by omega) ?_)
      rw [f 357 g (by omega), e7]
      exact brF_i (by omega) (k s (fun j a b => by rw [← es]; exact hx j a b) f)
    | succ m ih =>
      intro k2 o2 s k1 e hP2 hx f es
      have es : srtO tot m (k2 + 1) (insO2 tot (o2 k2) k2 o2) = srtO tot (n.toNat - 1) 1 o := es
      have hk := hP2 k2 (by omega) (by omega)
      refine s_M_years_72 (inb_i g0 (by omega) ?_)
      rw [f 357 g (by omega), e7]
      refine brT_i (by omega) (inb_i (by omega) (by omega) ?_)
      rw [hx k2 (by omega) (by omega)]
      refine inner k2 k2 (o2 k2) hk.1.1 hk.1.2 o2 s (by omega) (fun j a b _ => hx j a b) (fun j a b => (hP2 j a (by omega)).1) f (fun s2 x2 f2 => ?_)
      rw [w32_id (by omega) (by omega), show (k2 : Int) + 1 = ((k2 + 1 : Nat) : Int) by omega]
      exact ih (k2 + 1) _ s2 (by omega) (by omega) (insO2_PM k2 o2 (by omega) (by rw [up_id]; exact hP2)) x2 f2 es
  exact outer (n.toNat - 1) 1 o σ (by decide) (by omega) hP ho (fun _ _ _ => rfl) rfl
theorem PtG_r {σ : Mem} {g p : Int} {o : Int → Int} (hA : GA σ g) (hB : GB σ g) (hP : PM (σ 357 g) o) (p0 : 0 ≤ p) (p1 : p < σ 357 g) : 0 ≤ PtG σ g o p ∧ PtG σ g o p ≤ 27 := by
  have hPI := dlG_PI (back := false) hA hP
  exact pts_r (m := σ 358 g) (fun i i0 i1 => hPI.1.2 p i p0 p1 i0 i1) (hPI.2 p p0 p1) (fun t t0 t1 => (hB.2 p t p0 p1 t0 t1).2)
/-- a year's answer: one's totals, or the order -/
def yAns (n : Int) (r : (Int → Int) × (Int → Int)) (who : Int) : Int := if who = -1 then nbr (fun i => r.2 i + 0) n.toNat 0 0 else r.1 who
theorem X_years_loop {d : Nat} {K : Int → Mem → Prop} {σ : Mem} {g N who : Int} (g0 : 0 ≤ g) (g5 : g < 5) (hA : GA σ g) (hB : GB σ g) (hN : N ≤ 9) (hw : who = -1 ∨ 0 ≤ who ∧ who < σ 357 g) {R : (Int → Int) × (Int → Int)} (k : ∀ s2 : Mem, (∀ b j, ¬ (285 ≤ b ∧ b ≤ 304) → ¬ b = 306 → s2 b j = σ b j) → K (yAns (σ 357 g) R who) s2) : ∀ (m : Nat) (y : Int) (r : (Int → Int) × (Int → Int)) (s : Mem), 0 ≤ y → y + m = N → PM (σ 357 g) r.2 → (∀ p, 0 ≤ p → p < σ 357 g → s 306 p = r.1 p ∧ 0 ≤ r.1 p ∧ r.1 p ≤ 27 * y) → (∀ i, 0 ≤ i → i < σ 357 g → s 304 i = r.2 i) → (∀ b j, ¬ (285 ≤ b ∧ b ≤ 304) → ¬ b = 306 → s b j = σ b j) → yrs (σ 357 g) (PtG σ g) m r = R → AW2 i_X_years (d + 4) 40 [] [(0, (2, 0)), (3, (0, N)), (4, (0, who)), (5, (2, 4 + 43 * g)), (6, (0, y))] s K := by
  have hn := hA.1
  have ck := fun {P : Prop} => ck_g (P := P) g0 (show g ≤ 5 by omega)
  intro m
  induction m with
  | zero =>
    intro y r s y0 e hP ht ho f er
    have er : r = R := er
    subst er
    have kk := k s f
    unfold yAns at kk
    refine s_X_years_40 (brF_i (by omega) ⟨fun z => ?_, fun z => ?_⟩)
    · rw [ck, f (4 + 43 * g) 1 (by omega) (by omega), hA.2.1.1]
      rw [if_pos z] at kk
      refine X_numberOf_ok rfl (by omega) (by rw [show sN 304 = 7 from rfl]; omega) (by decide) (Int.le_refl 0) (fun j a b => ?_) (by decide) ?_
      · have := hP j a b
        rw [ho j a b]; omega
      · rw [nbr_congr (f' := fun i => r.2 i + 0) _ 0 0 (fun j a b => by
          show s 304 j + 0 = r.2 j + 0
          rw [ho j a (by omega)])]
        exact kk
    · rw [if_neg z] at kk
      obtain ⟨w0, w1⟩ := hw.resolve_left z
      have h3 := ht who w0 w1
      rw [h3.1, l2iI_id (by omega) (by omega)]
      exact inb_i w0 (by omega) kk
  | succ m ih =>
    intro y r s y0 e hP ht ho f er
    have er : yrs (σ 357 g) (PtG σ g) m (fun p => r.1 p + PtG σ g r.2 p, srtO (fun p => r.1 p + PtG σ g r.2 p) ((σ 357 g).toNat - 1) 1 r.2) = R := er
    have fm : ∀ b j, 357 ≤ b → b ≤ 364 → s b j = σ b j := fun b j x1 x2 => f b j (by omega) (by omega)
    have hAs : GA s g := GA_fr (fun b j z => f b j (by unfold fA at z; omega) (by unfold fA at z; omega)) hA
    have e7 : s 357 g = σ 357 g := fm _ _ (by omega) (by omega)
    have e8 : s 358 g = σ 358 g := fm _ _ (by omega) (by omega)
    have hPI := dlG_PI (back := false) hA hP
    refine s_X_years_40 (brT_i (by omega) (X_dealG (o := r.2) (back := false) (Or.inr rfl) g0 (by omega) hAs (by rw [e7]; exact ho) (by rw [e7]; exact hP) rfl (fun s1 h1 f1 => ?_)))
    rw [e7, e8, dlG_fr (fun b j x y => fm b j x (by omega))] at h1
    have lp : ∀ (q : Nat) (p : Int) (s2 : Mem), 0 ≤ p → p + q = σ 357 g → (∀ v, 0 ≤ v → v < σ 357 g → s2 306 v = if v < p then r.1 v + PtG σ g r.2 v else r.1 v) → (∀ b j, ¬ b = 306 → s2 b j = s1 b j) → AW2 i_X_years (d + 4) 52 [] [(0, (2, 0)), (3, (0, N)), (4, (0, who)), (5, (2, 4 + 43 * g)), (6, (0, y)), (7, (0, p))] s2 K := by
      intro q
      induction q with
      | zero =>
        intro p s2 p0 e2 x2 f2
        have f3 : ∀ b j, ¬ (285 ≤ b ∧ b ≤ 304) → ¬ b = 306 → s2 b j = σ b j := fun b j z1 z2 => by rw [f2 b j z2, f1 b j (by omega), f b j z1 z2]
        refine s_X_years_52 ?_
        rw [ck, f3 (4 + 43 * g) 1 (by omega) (by omega), hA.2.1.1]
        refine brF_i (by omega) (by
          rw [ck]
          refine fewest_ok (tot := fun p => r.1 p + PtG σ g r.2 p) (o := r.2) (by omega) (fun v a b => by rw [x2 v a b, if_pos (by omega)]) (fun i a b => by rw [f2 _ _ (by omega), f1 _ _ (by omega)]; exact ho i a b) hP (fun s3 x3 f4 => ?_)
          rw [w32_id (by omega) (by omega)]
          refine ih (y + 1) _ s3 (by omega) (by omega) (srtO_PM _ 1 r.2 (by omega) hP) (fun v a b => ?_) x3 (fun b j z1 z2 => by rw [f4 b j (by omega), f3 b j z1 z2]) er
          have h9 := ht v a b
          have h10 := PtG_r hA hB hP a b
          rw [f4 _ _ (by omega), x2 v a b, if_pos (by omega)]
          show r.1 v + PtG σ g r.2 v = r.1 v + PtG σ g r.2 v ∧ 0 ≤ r.1 v + PtG σ g r.2 v ∧ r.1 v + PtG σ g r.2 v ≤ 27 * (y + 1)
          omega)
      | succ q ih2 =>
        intro p s2 p0 e2 x2 f2
        have f3 : ∀ b j, ¬ (285 ≤ b ∧ b ≤ 304) → ¬ b = 306 → s2 b j = σ b j := fun b j z1 z2 => by rw [f2 b j z2, f1 b j (by omega), f b j z1 z2]
        have h9 := ht p p0 (by omega)
        have h10 := PtG_r hA hB hP p0 (show p < σ 357 g by omega)
        refine s_X_years_52 ?_
        rw [ck, f3 (4 + 43 * g) 1 (by omega) (by omega), hA.2.1.1]
        refine brT_i (by omega) (inb_i p0 (by omega) (X_pointsOf_ok (lv := glv σ g p) (n := σ 357 g) (m := σ 358 g) (Or.inr rfl) g0 (by omega) (by omega) (by omega) (HR_fr (by omega) (fun b j _ _ => f2 b j (by omega)) h1) hPI.1 p0 (by omega) (hPI.2 p p0 (by omega)) (fun t t0 t1 => ?_) (inb_i p0 (by omega) ?_)))
        · rw [f3 _ _ (by omega) (by omega)]; exact hB.2 p t p0 (by omega) t0 t1
        · have ep : pts (dlG σ g r.2 false) (glv σ g p) p = PtG σ g r.2 p := rfl
          rw [x2 p p0 (by omega), if_neg (by omega), ep, w64_id (by omega) (by omega), w32_id (by omega) (by omega)]
          refine ih2 (p + 1) _ (by omega) (by omega) (fun v a b => ?_) (fun b j z => by rw [st_ne (by omega), f2 b j z])
          by_cases z : v = p
          · rw [z, st_self, if_pos (by omega)]
          · rw [st_ne (by omega), x2 v a b]
            by_cases w : v < p
            · rw [if_pos w, if_pos (by omega)]
            · rw [if_neg w, if_neg (by omega)]
    exact lp (σ 357 g).toNat 0 s1 (Int.le_refl 0) (by omega) (fun v a b => by rw [f1 _ _ (by omega), if_neg (by omega)]; exact (ht v a b).1) (fun _ _ _ => rfl)
theorem M_years_loop {d : Nat} {K : Int → Mem → Prop} {σ : Mem} {g N who : Int} (g0 : 0 ≤ g) (g5 : g < 5) (hA : GA σ g) (hB : GB σ g) (hN : N ≤ 9) (hw : who = -1 ∨ 0 ≤ who ∧ who < σ 357 g) {R : (Int → Int) × (Int → Int)} (k : ∀ s2 : Mem, (∀ b j, ¬ (379 ≤ b ∧ b ≤ 384) → ¬ b = 406 → s2 b j = σ b j) → K (yAns (σ 357 g) R who) s2) : ∀ (m : Nat) (y : Int) (r : (Int → Int) × (Int → Int)) (s : Mem), 0 ≤ y → y + m = N → PM (σ 357 g) r.2 → (∀ p, 0 ≤ p → p < σ 357 g → s 406 p = r.1 p ∧ 0 ≤ r.1 p ∧ r.1 p ≤ 27 * y) → (∀ i, 0 ≤ i → i < σ 357 g → s 379 i = r.2 i) → (∀ b j, ¬ (379 ≤ b ∧ b ≤ 384) → ¬ b = 406 → s b j = σ b j) → yrs (σ 357 g) (PtG σ g) m r = R → AW2 i_M_years (d + 3) 42 [] [(0, (2, 356)), (1, (0, g)), (3, (0, N)), (4, (0, who)), (5, (0, y))] s K := by
  have hn := hA.1
  have hLo : LGo (σ 357 g) (σ 358 g) (gls σ g) (gsz σ g) := (GA_L hA).1
  intro m
  induction m with
  | zero =>
    intro y r s y0 e hP ht ho f er
    have er : r = R := er
    subst er
    have kk := k s f
    unfold yAns at kk
    refine s_M_years_42 (brF_i (by omega) ⟨fun z => ?_, fun z => ⟨fun w => by omega, fun w => inb_i (by omega) (by omega) ?_⟩⟩)
    · rw [if_pos z] at kk
      refine M_asDigits_ok (n := σ 357 g) g0 (by omega) (f _ _ (by omega) (by omega)) (by omega) (by omega) (fun j a b => ?_) ?_
      · have := hP j a b
        rw [ho j a b]; omega
      · rw [nbr_congr (f' := fun i => r.2 i + 0) _ 0 0 (fun j a b => by
          show s 379 j + 0 = r.2 j + 0
          rw [ho j a (by omega)])]
        exact kk
    · rw [if_neg z] at kk
      obtain ⟨w0, w1⟩ := hw.resolve_left z
      rw [(ht who w0 w1).1]
      exact kk
  | succ m ih =>
    intro y r s y0 e hP ht ho f er
    have er : yrs (σ 357 g) (PtG σ g) m (fun p => r.1 p + PtG σ g r.2 p, srtO (fun p => r.1 p + PtG σ g r.2 p) ((σ 357 g).toNat - 1) 1 r.2) = R := er
    have fm : ∀ b j, 357 ≤ b → b ≤ 364 → s b j = σ b j := fun b j x1 x2 => f b j (by omega) (by omega)
    have hPI := dlG_PI (back := false) hA hP
    refine s_M_years_42 (brT_i (by omega) ?_)
    refine M_runs_ok (R := σ 359 g) (am := gam σ g) (o := r.2) (back := false) g0 (by omega) (n := σ 357 g) (m := σ 358 g) (by omega) (by omega) (by omega) (fm _ _ (by omega) (by omega)) (fm _ _ (by omega) (by omega)) (fm _ _ (by omega) (by omega)) hLo ⟨fun p p0 p1 => fm _ _ (by omega) (by omega), fun p i p0 p1 i0 i1 => fm _ _ (by omega) (by omega)⟩ (fun t t0 t1 => ⟨fm _ _ (by omega) (by omega), (hA.2.2.1 t t0 t1).2⟩) ho hP rfl (fun s1 h1 f1 => ?_)
    have lp : ∀ (q : Nat) (p : Int) (s2 : Mem), 0 ≤ p → p + q = σ 357 g → (∀ v, 0 ≤ v → v < σ 357 g → s2 406 v = if v < p then r.1 v + PtG σ g r.2 v else r.1 v) → (∀ b j, ¬ b = 406 → s2 b j = s1 b j) → AW2 i_M_years (d + 3) 51 [] [(0, (2, 356)), (1, (0, g)), (3, (0, N)), (4, (0, who)), (5, (0, y)), (6, (0, p))] s2 K := by
      intro q
      induction q with
      | zero =>
        intro p s2 p0 e2 x2 f2
        have f3 : ∀ b j, ¬ (379 ≤ b ∧ b ≤ 384) → ¬ b = 406 → s2 b j = σ b j := fun b j z1 z2 => by rw [f2 b j z2, f1 b j (by omega), f b j z1 z2]
        refine s_M_years_51 (inb_i g0 (by omega) ?_)
        rw [f3 357 g (by omega) (by omega)]
        refine brF_i (by omega) (M_sort_ok (tot := fun p => r.1 p + PtG σ g r.2 p) (o := r.2) (n := σ 357 g) g0 (by omega) (f3 _ _ (by omega) (by omega)) (by omega) (fun v a b => by rw [x2 v a b, if_pos (by omega)]) (fun i a b => by rw [f2 _ _ (by omega), f1 _ _ (by omega)]; exact ho i a b) hP (fun s3 x3 f4 => ?_))
        rw [w32_id (by omega) (by omega)]
        refine ih (y + 1) _ s3 (by omega) (by omega) (srtO_PM _ 1 r.2 (by omega) hP) (fun v a b => ?_) x3 (fun b j z1 z2 => by rw [f4 b j (by omega), f3 b j z1 z2]) er
        have h9 := ht v a b
        have h10 := PtG_r hA hB hP a b
        rw [f4 _ _ (by omega), x2 v a b, if_pos (by omega)]
        show r.1 v + PtG σ g r.2 v = r.1 v + PtG σ g r.2 v ∧ 0 ≤ r.1 v + PtG σ g r.2 v ∧ r.1 v + PtG σ g r.2 v ≤ 27 * (y + 1)
        omega
      | succ q ih2 =>
        intro p s2 p0 e2 x2 f2
        have f3 : ∀ b j, ¬ (379 ≤ b ∧ b ≤ 384) → ¬ b = 406 → s2 b j = σ b j := fun b j z1 z2 => by rw [f2 b j z2, f1 b j (by omega), f b j z1 z2]
        have h9 := ht p p0 (by omega)
        have h10 := PtG_r hA hB hP p0 (show p < σ 357 g by omega)
        have hM2 : MR s2 (σ 357 g) (σ 358 g) (dlG σ g r.2 false) := ⟨fun t t0 t1 => by rw [f2 _ _ (by omega)]; exact h1.1 t t0 t1, fun p p0 p1 => by rw [f2 _ _ (by omega)]; exact h1.2.1 p p0 p1, fun p i p0 p1 i0 i1 => by rw [f2 _ _ (by omega), f2 _ _ (by omega)]; exact h1.2.2.1 p i p0 p1 i0 i1, fun p t p0 p1 t0 t1 => by rw [f2 _ _ (by omega)]; exact h1.2.2.2 p t p0 p1 t0 t1⟩
        refine s_M_years_51 (inb_i g0 (by omega) ?_)
        rw [f3 357 g (by omega) (by omega), x2 p p0 (by omega), if_neg (by omega)]
        refine brT_i (by omega) (inb_i p0 (by omega) (M_pointsOf_ok (lv := glv σ g p) (n := σ 357 g) (m := σ 358 g) g0 (by omega) (by omega) (by omega) (f3 _ _ (by omega) (by omega)) hM2 hPI.1 p0 (by omega) (hPI.2 p p0 (by omega)) (fun t t0 t1 => ?_) (inb_i p0 (by omega) ?_)))
        · rw [f3 _ _ (by omega) (by omega)]; exact ⟨rfl, (hB.2 p t p0 (by omega) t0 t1).2⟩
        · have ep : pts (dlG σ g r.2 false) (glv σ g p) p = PtG σ g r.2 p := rfl
          rw [ep, w32_id (x := r.1 p + PtG σ g r.2 p) (by omega) (by omega), w32_id (by omega) (by omega)]
          refine ih2 (p + 1) _ (by omega) (by omega) (fun v a b => ?_) (fun b j z => by rw [st_ne (by omega), f2 b j z])
          by_cases z : v = p
          · rw [z, st_self, if_pos (by omega)]
          · rw [st_ne (by omega), x2 v a b]
            by_cases w : v < p
            · rw [if_pos w, if_pos (by omega)]
            · rw [if_neg w, if_neg (by omega)]
    exact lp (σ 357 g).toNat 0 s1 (Int.le_refl 0) (by omega) (fun v a b => by rw [f1 _ _ (by omega), if_neg (by omega)]; exact (ht v a b).1) (fun _ _ _ => rfl)
