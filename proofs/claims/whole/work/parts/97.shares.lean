-- ===== shares of all kinds
def shE (σ : Mem) (g : Int) : ES × Int := eL (σ 357 g) (σ 358 g) (σ 359 g) (clI σ g) (csz σ g) 9 (E0 (cam σ g)) 0
def shN (σ : Mem) (g k : Int) : Int → Int := if k = 1 then cmN σ g false else if k = 2 then cmN σ g true else if k = 3 then (shE σ g).1.1 else if k = 4 then trN (σ 357 g) (cam σ g) (clI σ g) (csz σ g) (cho σ g) else if k = 5 then ctb σ g else if k = 6 then cme σ g else fun _ => 0
def shB (σ : Mem) (g k : Int) : Int := if k = 1 ∨ k = 2 then mnB σ g else if k = 3 then (shE σ g).1.2.2.2 else if k = 5 ∨ k = 6 then 60 else 1
def shH (σ : Mem) (g k : Int) : Int := if k = 3 then (shE σ g).2 else 0
theorem foldC_fr {σ s : Mem} {g : Int} {back : Bool} (e : ∀ o, dlC s g o back = dlC σ g o back) : ∀ (r : List (List Nat)) (F : Int → Int), foldC s g back r F = foldC σ g back r F
  | [], _ => rfl
  | L :: r, F => by
    show foldC s g back r (adS (dlC s g (oL L) back) F) = foldC σ g back r (adS (dlC σ g (oL L) back) F)
    rw [e]; exact foldC_fr e r _
theorem sh_fr {σ s : Mem} {g k : Int} (f : ∀ b j, (fA g b j ∨ fB g b j) → 357 ≤ b → s b j = σ b j) (fc : 5 ≤ k → ∀ b j, fC g b j → 357 ≤ b → s b j = σ b j) : shN s g k = shN σ g k ∧ shB s g k = shB σ g k ∧ shH s g k = shH σ g k := by
  have e7 : s 357 g = σ 357 g := f _ _ (Or.inl (by unfold fA; omega)) (by decide)
  have e8 : s 358 g = σ 358 g := f _ _ (Or.inl (by unfold fA; omega)) (by decide)
  have e9 : s 359 g = σ 359 g := f _ _ (Or.inl (by unfold fA; omega)) (by decide)
  have a1 : cam s g = cam σ g := funext fun t => by
    unfold cam; split
    · exact f _ _ (Or.inl (by unfold fA; omega)) (by decide)
    · rfl
  have a2 : clI s g = clI σ g := funext fun p => funext fun i => by
    unfold clI; split
    · exact f _ _ (Or.inl (by unfold fA; omega)) (by decide)
    · rfl
  have a3 : csz s g = csz σ g := funext fun p => by
    unfold csz; split
    · exact f _ _ (Or.inl (by unfold fA; omega)) (by decide)
    · rfl
  have a4 : clv s g = clv σ g := funext fun p => funext fun i => by
    unfold clv; split
    · exact f _ _ (Or.inr (by unfold fB; omega)) (by decide)
    · rfl
  have a5 : cho s g = cho σ g := funext fun p => by
    unfold cho; rw [e7]; split
    · exact f _ _ (Or.inr (by unfold fB; omega)) (by decide)
    · rfl
  have ed : ∀ o back, dlC s g o back = dlC σ g o back := fun o back => by unfold dlC; rw [e7, e9, a1, a2, a3]
  have a6 : ∀ back, cmN s g back = cmN σ g back := fun back => by unfold cmN; rw [e7]; exact foldC_fr (fun o => ed o back) _ _
  have a7 : shE s g = shE σ g := by unfold shE; rw [e7, e8, e9, a1, a2, a3]
  have a8 : mnB s g = mnB σ g := by unfold mnB; rw [e7]
  have a9 : 5 ≤ k → ctb s g = ctb σ g := fun hk => funext fun x => by
    unfold ctb; split
    · exact fc hk _ _ (by unfold fC; omega) (by decide)
    · rfl
  refine ⟨?_, ?_, ?_⟩
  · unfold shN
    rw [a6, a6, a7, e7, a1, a2, a3, a5]
    by_cases c : 5 ≤ k
    · unfold cme
      rw [a9 c, e7, e8, e9, a1, a2, a3, a4]
    · rw [if_neg (show ¬ k = 5 by omega), if_neg (show ¬ k = 6 by omega), if_neg (show ¬ k = 5 by omega), if_neg (show ¬ k = 6 by omega)]
  · unfold shB; rw [a7, a8]
  · unfold shH; rw [a7]
theorem ctb_FB {σ : Mem} {g : Int} (hA : GA σ g) (hC : GC σ g) : FB (σ 357 g) (σ 358 g) (ctb σ g) := by
  have hn := hA.1
  intro p t p0 p1 t0 t1
  rw [ctb_e (by omega) (by omega), show 56 * g + (8 * p + t) = 56 * g + 8 * p + t by omega]
  exact (hC p t p0 p1 t0 t1).2
theorem cam_r {σ : Mem} {g : Int} (hA : GA σ g) : ∀ t, 0 ≤ t → t < σ 358 g → σ (5 + 43 * g) t = cam σ g t ∧ σ 360 (8 * g + t) = cam σ g t ∧ 1 ≤ cam σ g t ∧ cam σ g t ≤ 9 := by
  have hn := hA.1
  intro t t0 t1
  have := hA.2.2.1 t t0 t1
  rw [cam_e t0 (by omega)]
  exact ⟨this.1, rfl, this.2⟩
theorem sh_r {σ : Mem} {g k : Int} (hA : GA σ g) (hB : GB σ g) (hC : GC σ g) : (1 ≤ shB σ g k ∧ shB σ g k ≤ 40353607) ∧ ∀ p t, 0 ≤ p → p < σ 357 g → 0 ≤ t → t < σ 358 g → 0 ≤ shN σ g k (8 * p + t) ∧ shN σ g k (8 * p + t) ≤ 125000000 := by
  have hn := hA.1
  have hL := (GA_C hA).1
  obtain ⟨j, j0, j1, hj⟩ := eL_EI (n := σ 357 g) (m := σ 358 g) (R := σ 359 g) (by omega) (by omega) hL 9 0 _ 0 (E0_EI (n := σ 357 g) (R := σ 359 g) (am := cam σ g) (by omega) (by omega) (fun t t0 t1 => (cam_r hA t t0 t1).2.2))
  have hb := EI_b (by omega) hj
  have hj2 : EI (σ 357 g) (σ 358 g) (σ 359 g) j (shE σ g).1 := hj
  have hb2 : (shE σ g).1.2.2.2 ≤ 40353607 := hb
  obtain ⟨E1, E2, E3, E4, E5⟩ := hj2
  have hRB := mul_b (a := σ 359 g) (b := (shE σ g).1.2.2.2) (A := 3) (C := 40353607) (by omega) (by omega) (by omega) hb2
  have hm := fun back => mn_r (back := back) hA
  constructor
  · unfold shB
    split
    · have := (hm false).2; omega
    · split
      · omega
      · split <;> omega
  · intro p t p0 p1 t0 t1
    have h4 := E4 p t p0 p1 t0 t1
    have h1 := (hm false).1 p t p0 p1 t0 (by omega)
    have h2 := (hm true).1 p t p0 p1 t0 (by omega)
    have h5 := ctb_FB hA hC p t p0 p1 t0 t1
    have h6 : 0 ≤ cme σ g (8 * p + t) ∧ cme σ g (8 * p + t) ≤ 60 := FB_mend (by omega) (ctb_FB hA hC) p t p0 p1 t0 t1
    rw [cmN_e hA] at h1 h2
    unfold shN
    split
    · omega
    · split
      · omega
      · split
        · omega
        · split
          · unfold trN; split <;> omega
          · split
            · omega
            · split
              · omega
              · show (0 : Int) ≤ 0 ∧ (0 : Int) ≤ 125000000
                decide
theorem X_sharesOf_ok {d : Nat} {K : Int → Mem → Prop} {s : Mem} {g k : Int} (g0 : 0 ≤ g) (g5 : g ≤ 5) (k0 : 0 ≤ k) (k7 : k < 7) (hA : GA s g) (hB : GB s g) (hC : GC s g) (hf : s (33 + 43 * g + 2 * k) 2 = 0 ∨ (¬ s (33 + 43 * g + 2 * k) 2 = 0 ∧ ShX s (33 + 43 * g + 2 * k) (s 357 g) (s 358 g) (shN s g k) (shB s g k) (shH s g k)))
    (q : ∀ s2 : Mem, ShX s2 (33 + 43 * g + 2 * k) (s 357 g) (s 358 g) (shN s g k) (shB s g k) (shH s g k) → ¬ s2 (33 + 43 * g + 2 * k) 2 = 0 → (∀ b j, ¬ b = 34 + 43 * g + 2 * k → ¬ b = 33 + 43 * g + 2 * k → ¬ (285 ≤ b ∧ b ≤ 304) → ¬ (307 ≤ b ∧ b ≤ 315) → s2 b j = s b j) → K (33 + 43 * g + 2 * k) s2) : AM2 i_X_sharesOf (d + 5) [(2, 0), (2, 4 + 43 * g), (0, k)] s K := by
  have ck := fun {P : Prop} => ck_sh (P := P) g0 g5 k0 k7
  refine e_X_sharesOf fun _ => ?_
  rw [ck_g g0 g5, pt_kn g0 g5, ck_kn g0 g5, sn_kn g0 g5, pt_sh g0 g5 k0 k7, ck, ck]
  refine inb_i k0 k7 ?_
  rcases hf with hf | hf
  · refine brT_i hf (X_clearS_ok (d := d + 2) g0 g5 k0 k7 (fun s1 z0 z1 z3 z4 f1 => ?_))
    have e7 : s1 357 g = s 357 g := f1 _ _ (by omega) (by omega)
    have e8 : s1 358 g = s 358 g := f1 _ _ (by omega) (by omega)
    have hA1 : GA s1 g := GA_fr (fun b j z => by unfold fA at z; exact f1 b j (by omega) (by omega)) hA
    have hn := hA.1
    have hB1 : GB s1 g := GB_fr (by omega) (fun b j z => by unfold fB at z; exact f1 b j (by omega) (by omega)) hB
    have hC1 : GC s1 g := GC_fr (by omega) (fun b j z => by unfold fC at z; exact f1 b j (by omega) (by omega)) hC
    have hL := GA_C hA1
    have hn1 := hA1.1
    have sf := sh_fr (σ := s) (s := s1) (g := g) (k := k) (fun b j _ w => f1 b j (by omega) (by omega)) (fun _ b j _ w => f1 b j (by omega) (by omega))
    have fin : ∀ s2 : Mem, TP s2 (34 + 43 * g + 2 * k) (s1 357 g) (s1 358 g) (shN s1 g k) → s2 (33 + 43 * g + 2 * k) 1 = shB s1 g k → s2 (33 + 43 * g + 2 * k) 3 = 0 → s2 (33 + 43 * g + 2 * k) 4 = shH s1 g k → (∀ b j, ¬ b = 34 + 43 * g + 2 * k → ¬ (b = 33 + 43 * g + 2 * k ∧ (j = 1 ∨ j = 3 ∨ j = 4)) → ¬ (285 ≤ b ∧ b ≤ 304) → ¬ (307 ≤ b ∧ b ≤ 315) → s2 b j = s1 b j) → AW2 i_X_sharesOf (d + 5) 51 [] [(3, (2, 33 + 43 * g + 2 * k))] s2 K := fun s2 h1 h2 h3 h4 f2 => by
      rw [sf.1, e7, e8] at h1
      rw [sf.2.1] at h2
      rw [sf.2.2] at h4
      refine s_X_sharesOf_51 ?_
      rw [ck]
      refine q _ ⟨⟨by rw [st_ne (by omega)]; exact h2, by rw [st_ne (by omega)]; exact h3, by rw [st_ne (by omega)]; exact h4⟩, fun p t p0 p1 t0 t1 => ?_⟩ (by rw [st_self]; decide) (fun b j y1 y2 y3 y4 => ?_)
      · rw [show 33 + 43 * g + 2 * k + 1 = 34 + 43 * g + 2 * k by omega, st_ne (by omega)]; exact h1 p t p0 p1 t0 t1
      · rw [st_ne (by omega), f2 b j y1 (by omega) y3 y4]; exact f1 b j y1 (by omega)
    have zT : TP s1 (34 + 43 * g + 2 * k) (s1 357 g) (s1 358 g) (fun _ => 0) := fun p t p0 p1 t0 t1 => z0 _ (by omega) (by omega)
    have hH : ¬ k = 3 → shH s1 g k = 0 := fun c => if_neg c
    have h7 : k = 0 ∨ k = 1 ∨ k = 2 ∨ k = 3 ∨ k = 4 ∨ k = 5 ∨ k = 6 := by omega
    have orders : ∀ (bk : Int) (back : Bool), (bk = if back = true then 1 else 0) → shN s1 g k = cmN s1 g back → shB s1 g k = mnB s1 g → ¬ k = 3 → AW2 i_X_sharesOf (d + 5) 26 [(0, bk), (2, 304), (2, 285), (2, 4 + 43 * g), (2, 33 + 43 * g + 2 * k)] [(3, (2, 33 + 43 * g + 2 * k))] s1 K := fun bk back hb eN eB h3 => by
      refine s_X_sharesOf_26 ?_
      rw [ck]
      refine X_addOrders_ok (d := d) (back := back) g0 g5 k0 k7 hA1 hb zT (fun s2 y1 y2 f2 => ?_)
      rw [cmN_e hA1, ← eN] at y1
      rw [← eB] at y2
      exact fin s2 y1 y2 (by rw [f2 _ _ (by omega) (by omega) (by omega)]; exact z3) (by rw [f2 _ _ (by omega) (by omega) (by omega), hH h3]; exact z4) (fun b j w1 w2 w3 w4 => f2 b j w1 (by omega) w3)
    rcases h7 with h7 | h7 | h7 | h7 | h7 | h7 | h7
    · refine brF_i (by omega) (brF_i (by omega) (brF_i (by omega) (brF_i (by omega) (brF_i (by omega) (brF_i (by omega) (fin s1 ?_ ?_ z3 (by rw [hH (by omega)]; exact z4) (fun _ _ _ _ _ _ => rfl)))))))
      · rw [show shN s1 g k = fun _ => 0 by rw [h7]; rfl]; exact zT
      · rw [show shB s1 g k = 1 by rw [h7]; rfl]; exact z1
    · exact brT_i h7 (brF_i (by omega) (orders 0 false rfl (by rw [h7]; rfl) (by rw [h7]; rfl) (by omega)))
    · exact brF_i (by omega) (brT_i h7 (brT_i h7 (orders 1 true rfl (by rw [h7]; rfl) (by rw [h7]; rfl) (by omega))))
    · refine brF_i (by omega) (brF_i (by omega) (brT_i h7 ?_))
      refine X_eat_ok (d := d + 1) (n := s1 357 g) (m := s1 358 g) (R := s1 359 g) (am := cam s1 g) g0 g5 k0 k7 hL.1 hL.2.1 hA1.2.1.1 hA1.2.1.2.1 hA1.2.1.2.2 (by omega) (by omega) (by omega) (fun t t0 t1 => ⟨(cam_r hA1 t t0 t1).1, (cam_r hA1 t t0 t1).2.2⟩) zT z1 z3 z4 (fun s2 y1 y2 y3 y4 f2 => ?_)
      refine fin s2 ?_ ?_ y3 ?_ (fun b j w1 w2 w3 w4 => f2 b j w1 w2 (by omega))
      · rw [show shN s1 g k = (shE s1 g).1.1 by rw [h7]; rfl]; exact y1
      · rw [show shB s1 g k = (shE s1 g).1.2.2.2 by rw [h7]; rfl]; exact y2
      · rw [show shH s1 g k = (shE s1 g).2 by rw [h7]; rfl]; exact y4
    · refine brF_i (by omega) (brF_i (by omega) (brF_i (by omega) (brT_i h7 ?_)))
      refine X_trade_ok (d := d + 1) (n := s1 357 g) (m := s1 358 g) (h := cho s1 g) (am := cam s1 g) g0 g5 k0 k7 hL.1 hL.2.1 hA1.2.1.1 hA1.2.1.2.1 (by omega) (by omega) (fun o o0 o1 => by rw [(hB1.1 o o0 o1).1, cho_e o0 o1 (by omega)]) (cho_HT hA1 hB1) (fun t t0 t1 => (cam_r hA1 t t0 t1).1) zT (fun s2 y1 f2 => ?_)
      refine fin s2 ?_ ?_ (by rw [f2 _ _ (by omega) (by omega)]; exact z3) (by rw [f2 _ _ (by omega) (by omega), hH (by omega)]; exact z4) (fun b j w1 w2 w3 w4 => f2 b j w1 (by omega))
      · rw [show shN s1 g k = trN (s1 357 g) (cam s1 g) (clI s1 g) (csz s1 g) (cho s1 g) by rw [h7]; rfl]; exact y1
      · rw [show shB s1 g k = 1 by rw [h7]; rfl, f2 _ _ (by omega) (by omega)]; exact z1
    · refine brF_i (by omega) (brF_i (by omega) (brF_i (by omega) (brF_i (by omega) (brT_i h7 ?_))))
      rw [ck]
      refine X_copyTable_ok (d := d + 3) g0 g5 k0 k7 hA1 hC1 (fun s2 y1 y2 f2 => ?_)
      refine fin s2 (fun p t p0 p1 t0 t1 => ?_) ?_ (by rw [f2 _ _ (by omega) (by omega)]; exact z3) (by rw [f2 _ _ (by omega) (by omega), hH (by omega)]; exact z4) (fun b j w1 w2 w3 w4 => f2 b j w1 (by omega))
      · rw [y2 p t p0 p1 t0 t1, show shN s1 g k = ctb s1 g by rw [h7]; rfl, ctb_e (by omega) (by omega), show 56 * g + (8 * p + t) = 56 * g + 8 * p + t by omega]
      · rw [show shB s1 g k = 60 by rw [h7]; rfl]; exact y1
    · refine brF_i (by omega) (brF_i (by omega) (brF_i (by omega) (brF_i (by omega) (brF_i (by omega) (brT_i h7 ?_)))))
      rw [ck]
      refine X_copyTable_ok (d := d + 3) g0 g5 k0 k7 hA1 hC1 (fun s2 y1 y2 f2 => ?_)
      rw [ck]
      have g7 : s2 357 g = s1 357 g := f2 _ _ (by omega) (by omega)
      have g8 : s2 358 g = s1 358 g := f2 _ _ (by omega) (by omega)
      have hA2 : GA s2 g := GA_fr (fun b j z => by unfold fA at z; exact f2 b j (by omega) (by omega)) hA1
      have hB2 : GB s2 g := GB_fr (by omega) (fun b j z => by unfold fB at z; exact f2 b j (by omega) (by omega)) hB1
      have hC2 : GC s2 g := GC_fr (by omega) (fun b j z => by unfold fC at z; exact f2 b j (by omega) (by omega)) hC1
      have sf2 := sh_fr (σ := s1) (s := s2) (g := g) (k := k) (fun b j _ w => f2 b j (by omega) (by omega)) (fun _ b j _ w => f2 b j (by omega) (by omega))
      have ht : TP s2 (34 + 43 * g + 2 * k) (s2 357 g) (s2 358 g) (ctb s2 g) := fun p t p0 p1 t0 t1 => by
        rw [y2 p t p0 (by omega) t0 (by omega), ctb_e (by omega) (by omega), f2 365 _ (by omega) (by omega), show 56 * g + (8 * p + t) = 56 * g + 8 * p + t by omega]
      refine X_mend_ok (d := d + 2) (σ := s2) g0 g5 k0 k7 hA2 hB2 (fun _ _ _ => rfl) ht (ctb_FB hA2 hC2) (fun s3 y3 f3 => ?_)
      refine fin s3 (fun p t p0 p1 t0 t1 => ?_) ?_ (by rw [f3 _ _ (by omega), f2 _ _ (by omega) (by omega)]; exact z3) (by rw [f3 _ _ (by omega), f2 _ _ (by omega) (by omega), hH (by omega)]; exact z4) (fun b j w1 w2 w3 w4 => by rw [f3 b j w1]; exact f2 b j w1 (by omega))
      · rw [y3 p t p0 (by omega) t0 (by omega), cme_e hA2 (fun _ _ _ _ _ _ => rfl) p t p0 (by omega) t0 (by omega), ← sf2.1, show shN s2 g k = cme s2 g by rw [h7]; rfl]
      · rw [show shB s1 g k = 60 by rw [h7]; rfl, f3 _ _ (by omega)]; exact y1
  · exact brF_i hf.1 (q s hf.2 hf.1 (fun _ _ _ _ _ _ => rfl))
theorem M_shares_ok {d : Nat} {K : Int → Mem → Prop} {s : Mem} {g k : Int} (g0 : 0 ≤ g) (g5 : g ≤ 5) (k0 : 0 ≤ k) (k7 : k < 7) (hA : GA s g) (hB : GB s g) (hC : GC s g)
    (q : ∀ s2 : Mem, ShM s2 (s 357 g) (s 358 g) (shN s g k) (shB s g k) → (k = 3 → s2 356 44 = shH s g k) → (∀ b j, ¬ (b = 356 ∧ (j = 43 ∨ j = 44 ∨ j = 48 ∨ j = 49)) → ¬ (379 ≤ b ∧ b ≤ 384) → ¬ (387 ≤ b ∧ b ≤ 398) → s2 b j = s b j) → K 0 s2) : AM2 i_M_shares (d + 4) [(2, 356), (0, g), (0, k)] s K := by
  refine e_M_shares fun _ _ => M_clears_ok (d := d + 2) (fun s1 z0 z3 f1 => ?_)
  have e7 : s1 357 g = s 357 g := f1 _ _ (by omega) (by omega) (by omega)
  have e8 : s1 358 g = s 358 g := f1 _ _ (by omega) (by omega) (by omega)
  have hn := hA.1
  have hA1 : GA s1 g := GA_fr (fun b j z => by unfold fA at z; exact f1 b j (by omega) (by omega) (by omega)) hA
  have hB1 : GB s1 g := GB_fr (by omega) (fun b j z => by unfold fB at z; exact f1 b j (by omega) (by omega) (by omega)) hB
  have hC1 : GC s1 g := GC_fr (by omega) (fun b j z => by unfold fC at z; exact f1 b j (by omega) (by omega) (by omega)) hC
  have hL := GA_C hA1
  have hn1 := hA1.1
  have fR : ∀ b j, (fA g b j ∨ fB g b j) → 357 ≤ b → s1 b j = s b j := fun b j z w => by unfold fA fB at z; exact f1 b j (by omega) (by omega) (by omega)
  have sf := sh_fr (σ := s) (s := s1) (g := g) (k := k) fR (fun _ b j z w => by unfold fC at z; exact f1 b j (by omega) (by omega) (by omega))
  have c1 : ∀ x : Int, x / cm x 1 = x ∧ 1 / cm x 1 = 1 := fun x => by
    have h1 := cm_pos x 1
    have h2 := cm_le (a := x) (b := 1) (by decide)
    rw [show cm x 1 = 1 by omega]
    exact ⟨Int.ediv_one x, rfl⟩
  have fin : ∀ s2 : Mem, s2 356 43 = 0 → (∀ p t, 0 ≤ p → p < s1 357 g → 0 ≤ t → t < s1 358 g → FQ s2 387 388 (8 * p + t) (shN s1 g k (8 * p + t)) (shB s1 g k)) → (k = 3 → s2 356 44 = shH s1 g k) → (∀ b j, ¬ (b = 356 ∧ (j = 43 ∨ j = 44 ∨ j = 48 ∨ j = 49)) → ¬ (379 ≤ b ∧ b ≤ 384) → ¬ (387 ≤ b ∧ b ≤ 398) → s2 b j = s1 b j) → K 0 s2 := fun s2 h1 h2 h3 f2 => by
    rw [sf.2.2] at h3
    refine q s2 ⟨h1, fun p t p0 p1 t0 t1 => ?_⟩ h3 (fun b j w1 w2 w3 => by rw [f2 b j w1 w2 w3]; exact f1 b j (by omega) (by omega) (by omega))
    have := h2 p t p0 (by omega) t0 (by omega)
    rw [sf.1, sf.2.1] at this
    exact this
  have h7 : k = 0 ∨ k = 1 ∨ k = 2 ∨ k = 3 ∨ k = 4 ∨ k = 5 ∨ k = 6 := by omega
  have orders : ∀ (bk : Int) (back : Bool), (bk = if back = true then 1 else 0) → shN s1 g k = cmN s1 g back → shB s1 g k = mnB s1 g → ¬ k = 3 → AM2 i_M_means (d + 3) [(2, 356), (0, g), (0, bk)] s1 (fun _ σ2 => K 0 σ2) := fun bk back hb eN eB h3 => by
    refine M_means_ok (d := d) (back := back) g0 g5 hA1 hb (fun s2 y1 f2 => fin s2 (by rw [f2 _ _ (by omega) (by omega)]; exact z3) (fun p t p0 p1 t0 t1 => ?_) (fun z => absurd z h3) (fun b j w1 w2 w3 => f2 b j w2 (by omega)))
    have := y1 p t p0 p1 t0 (by omega)
    rw [cmN_e hA1, ← eN, ← eB] at this
    exact this
  have table : ∀ s2 : Mem, (∀ p t, 0 ≤ p → p < s1 357 g → 0 ≤ t → t < s1 358 g → s2 398 (8 * p + t) = shN s1 g k (8 * p + t)) → (∀ b j, ¬ b = 398 → s2 b j = s1 b j) → (∀ p t, 0 ≤ p → p < s1 357 g → 0 ≤ t → t < s1 358 g → 0 ≤ shN s1 g k (8 * p + t) ∧ shN s1 g k (8 * p + t) ≤ 60) → shB s1 g k = 60 → ¬ k = 3 → AW2 i_M_takesParts (d + 3) 26 [] [(0, (2, 356)), (1, (0, g)), (3, (0, 0))] s2 (fun _ σ2 => K 0 σ2) := fun s2 y1 f2 hr hb h3 => by
    refine M_parts_ok (d := d) (n := s1 357 g) (m := s1 358 g) (N := shN s1 g k) g0 g5 (f2 _ _ (by omega)) (by omega) (by omega) (fun p t p0 p1 t0 t1 => ⟨y1 p t p0 p1 t0 t1, hr p t p0 p1 t0 t1⟩) (fun s3 w1 f3 => ?_)
    refine fin s3 (by rw [f3 _ _ (by omega) (by omega), f2 _ _ (by omega)]; exact z3) (fun p t p0 p1 t0 t1 => ?_) (fun z => absurd z h3) (fun b j w1 w2 w3 => by rw [f3 b j (by omega) (by omega)]; exact f2 b j (by omega))
    rw [hb]
    exact w1 p t p0 p1 t0 t1
  have hr := sh_r (k := k) hA1 hB1 hC1
  rcases h7 with h7 | h7 | h7 | h7 | h7 | h7 | h7
  · refine brT_i h7 (fin s1 z3 (fun p t p0 p1 t0 t1 => ?_) (fun z => by omega) (fun _ _ _ _ _ => rfl))
    have := z0 (8 * p + t) (by omega) (by omega)
    rw [show shN s1 g k = fun _ => 0 by rw [h7]; rfl, show shB s1 g k = 1 by rw [h7]; rfl]
    exact ⟨by rw [this.1, (c1 0).1], by rw [this.2, (c1 0).2]⟩
  · exact brF_i (by omega) (brT_i h7 (brF_i (by omega) (orders 0 false rfl (by rw [h7]; rfl) (by rw [h7]; rfl) (by omega))))
  · exact brF_i (by omega) (brF_i (by omega) (brT_i h7 (brT_i h7 (orders 1 true rfl (by rw [h7]; rfl) (by rw [h7]; rfl) (by omega)))))
  · refine brF_i (by omega) (brF_i (by omega) (brF_i (by omega) (brT_i h7 ?_)))
    refine M_eating_ok (d := d) (n := s1 357 g) (m := s1 358 g) (R := s1 359 g) (am := cam s1 g) g0 g5 hL.1 hL.2.2 rfl rfl rfl (by omega) (by omega) (by omega) (fun t t0 t1 => (cam_r hA1 t t0 t1).2) (fun p t p0 p1 t0 t1 => z0 _ (by omega) (by omega)) z3 (fun s2 y1 y2 y3 f2 => ?_)
    refine fin s2 y2 (fun p t p0 p1 t0 t1 => ?_) (fun _ => ?_) (fun b j w1 w2 w3 => f2 b j (by omega) (by omega) (by omega) w1)
    · rw [show shN s1 g k = (shE s1 g).1.1 by rw [h7]; rfl, show shB s1 g k = (shE s1 g).1.2.2.2 by rw [h7]; rfl]; exact y1 p t p0 p1 t0 t1
    · rw [show shH s1 g k = (shE s1 g).2 by rw [h7]; rfl]; exact y3
  · refine brF_i (by omega) (brF_i (by omega) (brF_i (by omega) (brF_i (by omega) (brT_i h7 ?_))))
    refine M_trades_ok (d := d) (n := s1 357 g) (m := s1 358 g) (h := cho s1 g) (am := cam s1 g) g0 g5 hL.1 hL.2.2 rfl rfl (by omega) (by omega) (fun o o0 o1 => (cho_e o0 o1 (by omega)).symm) (cho_HT hA1 hB1) (fun t t0 t1 => (cam_r hA1 t t0 t1).2) (fun p t p0 p1 t0 t1 => (z0 _ (by omega) (by omega)).1) (fun s2 y1 f2 => ?_)
    refine fin s2 (by rw [f2 _ _ (by omega) (by omega) (by omega)]; exact z3) (fun p t p0 p1 t0 t1 => ?_) (fun z => by omega) (fun b j w1 w2 w3 => f2 b j (by omega) (by omega) (by omega))
    have e1 : shN s1 g k = trN (s1 357 g) (cam s1 g) (clI s1 g) (csz s1 g) (cho s1 g) := by rw [h7]; rfl
    rw [show shB s1 g k = 1 by rw [h7]; rfl, e1]
    exact ⟨by rw [(c1 _).1]; exact y1 p t p0 p1 t0 t1, by rw [(c1 _).2, f2 _ _ (by omega) (by omega) (by omega)]; exact (z0 _ (by omega) (by omega)).2⟩
  · refine brF_i (by omega) (brF_i (by omega) (brF_i (by omega) (brF_i (by omega) (brF_i (by omega) (brF_i (by omega) ?_)))))
    have e1 : shN s1 g k = ctb s1 g := by rw [h7]; rfl
    refine M_takes_ok (d := d + 2) g0 g5 (fun s2 y1 f2 => ⟨fun _ => ?_, fun z => absurd rfl z⟩)
    refine table s2 (fun p t p0 p1 t0 t1 => ?_) f2 (fun p t p0 p1 t0 t1 => by rw [e1]; exact ctb_FB hA1 hC1 p t p0 p1 t0 t1) (by rw [h7]; rfl) (by omega)
    rw [y1 _ (by omega) (by omega), e1, ctb_e (by omega) (by omega)]
  · refine brF_i (by omega) (brF_i (by omega) (brF_i (by omega) (brF_i (by omega) (brF_i (by omega) (brT_i h7 ?_)))))
    have e1 : shN s1 g k = cme s1 g := by rw [h7]; rfl
    refine M_takes_ok (d := d + 2) g0 g5 (fun s2 y1 f2 => ⟨fun z => absurd z (by decide), fun _ => ?_⟩)
    have g7 : s2 357 g = s1 357 g := f2 _ _ (by omega)
    have g8 : s2 358 g = s1 358 g := f2 _ _ (by omega)
    have hA2 : GA s2 g := GA_fr (fun b j z => by unfold fA at z; exact f2 b j (by omega)) hA1
    have hB2 : GB s2 g := GB_fr (by omega) (fun b j z => by unfold fB at z; exact f2 b j (by omega)) hB1
    have hC2 : GC s2 g := GC_fr (by omega) (fun b j z => by unfold fC at z; exact f2 b j (by omega)) hC1
    have sf2 := sh_fr (σ := s1) (s := s2) (g := g) (k := k) (fun b j z w => by unfold fA fB at z; exact f2 b j (by omega)) (fun _ b j z w => by unfold fC at z; exact f2 b j (by omega))
    refine M_mends_ok (d := d) (F := ctb s2 g) g0 g5 hA2 (fun p t p0 p1 t0 t1 => ?_) (ctb_FB hA2 hC2) (fun s3 y3 f3 => ?_)
    · rw [y1 _ (by omega) (by omega), ctb_e (by omega) (by omega), f2 365 _ (by omega)]
    · refine table s3 (fun p t p0 p1 t0 t1 => ?_) (fun b j w => by rw [f3 b j w]; exact f2 b j w) (fun p t p0 p1 t0 t1 => by rw [e1]; exact FB_mend (by omega) (ctb_FB hA1 hC1) p t p0 p1 t0 t1) (by rw [h7]; rfl) (by omega)
      rw [y3 p t p0 (by omega) t0 (by omega), cme_e hA2 (fun _ _ _ _ _ _ => rfl) p t p0 (by omega) t0 (by omega), ← sf2.1, show shN s2 g k = cme s2 g by rw [h7]; rfl]
