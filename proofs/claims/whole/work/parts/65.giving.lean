-- ===== giving
theorem lsH_r {T am : Int → Int} {L m : Int} (m0 : 0 ≤ m) : ∀ (f : Nat) (who p : Int) (D : GD), 0 ≤ p → p ≤ L → 0 ≤ (lsH T L m am f who p D).2.1 ∧ (lsH T L m am f who p D).2.1 ≤ L
  | 0, _, _, _, p0, p1 => ⟨p0, p1⟩
  | f + 1, who, p, D, p0, p1 => by
    have e : lsH T L m am (f + 1) who p D = (if hre T L p = 59 then
      (if (rdL T L m am (hcD D who) (p + 1)).1 = true then lsH T L m am f (who + 1) (rdL T L m am (hcD D who) (p + 1)).2.1 (putD D who (rdL T L m am (hcD D who) (p + 1)))
       else (false, (rdL T L m am (hcD D who) (p + 1)).2.1, who, D))
      else (decide (p = L), p, who, D)) := rfl
    rw [e]
    by_cases c : hre T L p = 59
    · rw [if_pos c]
      have := hre_in c (by decide)
      have hr := (rdL_r (T := T) (L := L) (m := m) (p := p + 1) (am := am) (hc := hcD D who) m0 (by omega) (by omega)).2
      by_cases c2 : (rdL T L m am (hcD D who) (p + 1)).1 = true
      · rw [if_pos c2]; exact lsH_r m0 f _ _ _ hr.1 hr.2
      · rw [if_neg c2]; exact hr
    · rw [if_neg c]; exact ⟨p0, p1⟩
theorem rdG_r {T : Int → Int} {L : Int} (L0 : 0 ≤ L) : 0 ≤ (rdG T L).2.1 ∧ (rdG T L).2.1 ≤ L := by
  have hth := thL_r (T := T) (L := L) 8 0 0 (fun _ => 0) (Int.le_refl 0) (Int.le_refl 0) L0 rfl (fun t a b => by omega)
  unfold rdG
  split
  · exact lsH_r hth.2.1.1 7 0 _ _ hth.1.1 hth.1.2
  · exact hth.1
theorem GWl_congr {m z : Int} {ls ls' lv lv' : Int → Int} (h1 : ∀ i, 0 ≤ i → i < z → ls' i = ls i) (h2 : ∀ t, 0 ≤ t → t < m → lv' t = lv t) (h : GWl m z ls lv) : GWl m z ls' lv' := by
  obtain ⟨a, b, c, e, f, g⟩ := h
  have hl : ∀ i, 0 ≤ i → i < z → lv' (ls' i) = lv (ls i) := fun i i0 i1 => by
    rw [h1 i i0 i1]; exact h2 _ (b i i0 i1).1.1 (b i i0 i1).1.2
  refine ⟨a, fun i i0 i1 => ?_, fun i i0 i1 => ?_, fun i j i0 i1 j0 j1 x => ?_, fun t t0 t1 => ?_, fun t t0 t1 x => ?_⟩
  · rw [hl i i0 i1, h1 i i0 i1]; exact b i i0 i1
  · rw [hl i i0 (by omega), hl (i + 1) (by omega) i1]; exact c i i0 i1
  · rw [h1 i i0 i1, h1 j j0 j1] at x; exact e i j i0 i1 j0 j1 x
  · rw [h2 t t0 t1]; exact f t t0 t1
  · rw [h2 t t0 t1] at x
    obtain ⟨i, i0, i1, y⟩ := g t t0 t1 x
    exact ⟨i, i0, i1, by rw [h1 i i0 i1]; exact y⟩
/-- the lists of a giving are as lists may be; no more is held than there is -/
def GW (σ : Mem) (g : Int) : Prop := (∀ p, 0 ≤ p → p < σ 357 g → GWl (σ 358 g) (σ 362 (7 * g + p)) (fun i => σ 363 (56 * g + 8 * p + i)) (fun t => σ 364 (56 * g + 8 * p + t))) ∧ ∀ t, 0 ≤ t → t < σ 358 g → sm (fun v => if σ 361 (7 * g + v) = t then 1 else 0) (σ 357 g).toNat 0 0 ≤ σ 360 (8 * g + t)
def I_GW (σ : Mem) : Prop := ∀ g, 0 ≤ g → g < σ 356 0 → GW σ g
theorem GW_fr {σ s : Mem} {g : Int} (hA : GA σ g) (f : ∀ b j, (fA g b j ∨ fB g b j) → 357 ≤ b → s b j = σ b j) (h : GW σ g) : GW s g := by
  have hn := hA.1
  have e7 : s 357 g = σ 357 g := f _ _ (Or.inl (by unfold fA; omega)) (by decide)
  have e8 : s 358 g = σ 358 g := f _ _ (Or.inl (by unfold fA; omega)) (by decide)
  refine ⟨fun p p0 p1 => ?_, fun t t0 t1 => ?_⟩
  · have hz := hA.2.2.2.1 p p0 (by omega)
    have h1 := h.1 p p0 (by omega)
    rw [e8, f 362 (7 * g + p) (Or.inl (by unfold fA; omega)) (by decide)]
    exact GWl_congr (fun i i0 i1 => f _ _ (Or.inl (by unfold fA; omega)) (by decide)) (fun t t0 t1 => f _ _ (Or.inr (by unfold fB; omega)) (by decide)) h1
  · rw [e7, f 360 (8 * g + t) (Or.inl (by unfold fA; omega)) (by decide), sm_congr (f' := fun v => if σ 361 (7 * g + v) = t then 1 else 0) _ 0 0 (fun v v0 v1 => by
      show (if s 361 (7 * g + v) = t then (1 : Int) else 0) = _
      rw [f 361 (7 * g + v) (Or.inr (by unfold fB; omega)) (by decide)])]
    exact h.2 t t0 (by omega)
/-- a new giving, or none -/
def NewE (σ σ2 : Mem) : Prop := (σ2 356 0 = σ 356 0 ∨ (σ2 356 0 = σ 356 0 + 1 ∧ σ 356 0 < 5 ∧ (∀ k, 0 ≤ k → k < 7 → σ2 (33 + 43 * σ 356 0 + 2 * k) 2 = 0) ∧ σ2 (4 + 43 * σ 356 0) 10 = 0)) ∧ ∀ b j, ¬ b = 1 → ¬ (b = 0 ∧ j = 2) → ¬ (b = 356 ∧ (j = 0 ∨ j = 13 ∨ j = 31)) → ¬ fNX (σ 356 0) b j → ¬ fNM (σ 356 0) b j → ¬ (b = 359 ∧ j = σ 356 0) → ¬ (b = 365 ∧ 56 * σ 356 0 ≤ j ∧ j < 56 * σ 356 0 + 56) → σ2 b j = σ b j
theorem NewE_old {σ σ2 : Mem} (hI : I_giv σ) (hw : I_GW σ) (f : ∀ b j, ¬ b = 1 → ¬ (b = 0 ∧ j = 2) → ¬ (b = 356 ∧ (j = 0 ∨ j = 13 ∨ j = 31)) → ¬ fNX (σ 356 0) b j → ¬ fNM (σ 356 0) b j → ¬ (b = 359 ∧ j = σ 356 0) → ¬ (b = 365 ∧ 56 * σ 356 0 ≤ j ∧ j < 56 * σ 356 0 + 56) → σ2 b j = σ b j) : ∀ g, 0 ≤ g → g < σ 356 0 → (GA σ2 g ∧ GB σ2 g ∧ GC σ2 g) ∧ GW σ2 g := by
  intro g g0 g1
  obtain ⟨hA, hB, hC⟩ := hI.2.2.2 g g0 g1
  have hn := hA.1
  have h5 := hI.2.2.1
  have fA' : ∀ b j, fA g b j → σ2 b j = σ b j := fun b j z => by unfold fA at z; exact f b j (by omega) (by omega) (by omega) (by unfold fNX; omega) (by unfold fNM; omega) (by omega) (by omega)
  have fB' : ∀ b j, fB g b j → σ2 b j = σ b j := fun b j z => by unfold fB at z; exact f b j (by omega) (by omega) (by omega) (by unfold fNX; omega) (by unfold fNM; omega) (by omega) (by omega)
  have fC' : ∀ b j, fC g b j → σ2 b j = σ b j := fun b j z => by unfold fC at z; exact f b j (by omega) (by omega) (by omega) (by unfold fNX; omega) (by unfold fNM; omega) (by omega) (by omega)
  exact ⟨⟨GA_fr fA' hA, GB_fr (by omega) fB' hB, GC_fr (by omega) fC' hC⟩, GW_fr hA (fun b j z _ => z.elim (fA' b j) (fB' b j)) (hw g g0 g1)⟩
theorem call_giving {d : Nat} {σ : Mem} {P : Int → Int → Mem → Prop} (hI : I_giv σ) (hw : I_GW σ) (hT : I_tape σ) (h : ∀ r σ2, NewE σ σ2 → I_giv σ2 → I_GW σ2 → I_tape σ2 → P r r σ2) :
    AM2 i_X_giving (d + 6) [(2, 0)] σ (fun w1 σ1 => AM2 i_M_giving (d + 6) [(2, 356)] σ1 (fun w2 σ2 => P w1 w2 σ2)) := by
  obtain ⟨c0, n0, n5, hg⟩ := id hI
  obtain ⟨t1, t2, t3, t4⟩ := id hT
  refine e_X_giving ⟨fun c => ?_, fun c => e_M_giving (brT_i (by omega) (h _ _ ⟨Or.inl rfl, fun _ _ _ _ _ _ _ _ _ => rfl⟩ hI hw hT))⟩
  rw [c0]
  rw [c0] at c
  have hTX : TX σ (σ 367) (σ 356 13) := ⟨t1, ⟨t2, t3⟩, fun i a b => t4 i a b⟩
  have ck := fun {P : Prop} => ck_g (P := P) n0 n5
  rw [pt3 n0 c]
  -- both behind their reading
  have mo : ∀ (s : Mem) (v : Int), (∀ b j, 356 ≤ b → s b j = σ b j) → (∀ s2 : Mem, (rdG (σ 367) (σ 356 13)).1 = true → RGM s2 (σ 356 0) (σ 367) (σ 356 13) → s2 359 (σ 356 0) = 1 → (∀ j, 0 ≤ j → j < 56 → s2 365 (56 * σ 356 0 + j) = 0) → s2 356 0 = σ 356 0 + 1 → s2 356 13 = 0 → (∀ b j, ¬ fNM (σ 356 0) b j → ¬ (b = 356 ∧ (j = 0 ∨ j = 13)) → ¬ (b = 359 ∧ j = σ 356 0) → ¬ (b = 365 ∧ 56 * σ 356 0 ≤ j ∧ j < 56 * σ 356 0 + 56) → s2 b j = s b j) → P v (σ 356 0) s2) →
      (∀ s2 : Mem, (rdG (σ 367) (σ 356 13)).1 = false → s2 356 13 = 0 → (∀ b j, ¬ fNM (σ 356 0) b j → ¬ (b = 356 ∧ j = 13) → s2 b j = s b j) → P v (-100 - (rdG (σ 367) (σ 356 13)).2.1) s2) → (0 ≤ (rdG (σ 367) (σ 356 13)).2.1 ∧ (rdG (σ 367) (σ 356 13)).2.1 ≤ 1000) → AM2 i_M_giving (d + 6) [(2, 356)] s (fun w2 σ2 => P v w2 σ2) := by
    intro s v f k1 k0 hr
    refine e_M_giving (brF_i (by rw [f _ _ (by omega)]; omega) ?_)
    have hTM : TM (st s 356 31 0) (σ 367) (σ 356 13) := ⟨by rw [st_ne (by omega)]; exact f _ _ (by omega), ⟨t2, t3⟩, fun i a b => ⟨by rw [st_ne (by omega)]; exact f _ _ (by omega), (t4 i a b).2⟩⟩
    rw [show st s 356 31 0 356 0 = σ 356 0 by rw [st_ne (by omega)]; exact f _ _ (by omega)]
    refine M_readsGiving_ok (d := d + 1) n0 (by omega) hTM (st_self _ _ _ _) (fun s2 x1 x2 x3 f2 => br1 ?_) (fun s2 x1 x2 f2 => br0 ?_)
    · have e0 : st s2 356 13 0 356 0 = σ 356 0 := by rw [st_ne (by omega), f2 _ _ (by unfold fNM; omega), st_ne (by omega)]; exact f _ _ (by omega)
      rw [e0]
      refine inb_i n0 (by omega) ?_
      have lp : ∀ (q : Nat) (i : Int) (s3 : Mem), 0 ≤ i → i + q = 56 → s3 356 0 = σ 356 0 → (∀ j, 0 ≤ j → j < i → s3 365 (56 * σ 356 0 + j) = 0) → (∀ b j, ¬ (b = 365 ∧ 56 * σ 356 0 ≤ j ∧ j < 56 * σ 356 0 + 56) → s3 b j = st (st s2 356 13 0) 359 (σ 356 0) 1 b j) → AW2 i_M_giving (d + 6) 32 [] [(0, (2, 356)), (2, (0, i))] s3 (fun w2 σ2 => P v w2 σ2) := by
        intro q
        induction q with
        | zero =>
          intro i s3 i0 e e3 y fy
          refine s_M_giving_32 (brF_i (by omega) ?_)
          rw [st_self, e3, w32_id (x := σ 356 0 + 1) (by omega) (by omega), w32_id (x := σ 356 0 + 1 - 1) (by omega) (by omega), show σ 356 0 + 1 - 1 = σ 356 0 by omega]
          have f5 : ∀ b j, ¬ (b = 356 ∧ (j = 0 ∨ j = 13)) → ¬ (b = 359 ∧ j = σ 356 0) → ¬ (b = 365 ∧ 56 * σ 356 0 ≤ j ∧ j < 56 * σ 356 0 + 56) → st s3 356 0 (σ 356 0 + 1) b j = s2 b j := fun b j z1 z2 z3 => by rw [st_ne (by omega), fy b j z3, st_ne z2, st_ne (by omega)]
          obtain ⟨⟨r1, r2⟩, r3, r4⟩ := x3
          refine k1 _ x1 ⟨⟨by rw [f5 _ _ (by omega) (by omega) (by omega)]; exact r1, by rw [f5 _ _ (by omega) (by omega) (by omega)]; exact r2⟩, fun t a b => by rw [f5 _ _ (by omega) (by omega) (by omega)]; exact r3 t a b, fun p a b => ?_⟩ (by rw [st_ne (by omega), fy _ _ (by omega), st_self]) (fun j a b => by rw [st_ne (by omega)]; exact y j a (by omega)) (st_self _ _ _ _) (by rw [st_ne (by omega), fy _ _ (by omega), st_ne (by omega), st_self]) (fun b j z1 z2 z3 z4 => by
            rw [f5 b j z2 z3 z4, f2 b j z1, st_ne (by unfold fNM at z1; omega)])
          have h4 := r4 p a b
          exact ⟨by rw [f5 _ _ (by omega) (by omega) (by omega)]; exact h4.1, by rw [f5 _ _ (by omega) (by omega) (by omega)]; exact h4.2.1, fun i c e => by rw [f5 _ _ (by omega) (by omega) (by omega)]; exact h4.2.2.1 i c e, fun t c e => by rw [f5 _ _ (by omega) (by omega) (by omega)]; exact h4.2.2.2 t c e⟩
        | succ q ih =>
          intro i s3 i0 e e3 y fy
          refine s_M_giving_32 (brT_i (by omega) ?_)
          rw [e3, w32_id (x := 56 * σ 356 0) (by omega) (by omega), w32_id (x := 56 * σ 356 0 + i) (by omega) (by omega), w32_id (x := i + 1) (by omega) (by omega)]
          refine inb_i (by omega) (by omega) (ih (i + 1) _ (by omega) (by omega) (by rw [st_ne (by omega)]; exact e3) (fun j a b => ?_) (fun b j z => by rw [st_ne (by omega)]; exact fy b j z))
          by_cases z : j = i
          · rw [z, st_self]
          · rw [st_ne (by omega)]; exact y j a (by omega)
      exact lp 56 0 _ (Int.le_refl 0) rfl (by rw [st_ne (by omega)]; exact e0) (fun j a b => by omega) (fun _ _ _ => rfl)
    · rw [show st s2 356 13 0 356 31 = (rdG (σ 367) (σ 356 13)).2.1 by rw [st_ne (by omega)]; exact x2, w32_id (by omega) (by omega)]
      exact k0 _ x1 (st_self _ _ _ _) (fun b j z1 z2 => by rw [st_ne z2, f2 b j z1, st_ne (by unfold fNM at z1; omega)])
  -- where the reading ends
  have hend : 0 ≤ (rdG (σ 367) (σ 356 13)).2.1 ∧ (rdG (σ 367) (σ 356 13)).2.1 ≤ 1000 := by
    have := rdG_r (T := σ 367) (L := σ 356 13) t2
    omega
  have tape0 : ∀ s2 : Mem, s2 1 1 = 0 → s2 356 13 = 0 → I_tape s2 := fun s2 a b => ⟨by omega, by omega, by omega, fun i i0 i1 => by omega⟩
  refine inb_i n0 c (X_readGiving_ok (d := d) n0 (by omega) hTX (fun s1 x1 x2 x3 x4 x5 x6 f1 => br1 ?_) (fun s1 x1 x2 f1 => br0 ?_))
  · have e02 : st s1 1 1 0 0 2 = σ 356 0 := by rw [st_ne (by omega), f1 _ _ (by unfold fNX; omega)]; exact c0
    rw [e02, st_self, w32_id (x := σ 356 0 + 1) (by omega) (by omega), w32_id (x := σ 356 0 + 1 - 1) (by omega) (by omega), show σ 356 0 + 1 - 1 = σ 356 0 by omega]
    generalize hs : st (st s1 1 1 0) 0 2 (σ 356 0 + 1) = s3
    have f3 : ∀ b j, ¬ (b = 1 ∧ j = 1) → ¬ (b = 0 ∧ j = 2) → s3 b j = s1 b j := fun b j z1 z2 => by rw [← hs, st_ne z2, st_ne z1]
    refine mo s3 _ (fun b j z => by rw [f3 b j (by omega) (by omega), f1 b j (by unfold fNX; omega)]) (fun s2 y1 y2 y3 y4 y5 y6 f2 => ?_) (fun s2 y1 => by rw [x1] at y1; cases y1) hend
    have w1 : s2 1 1 = 0 := by rw [f2 _ _ (by unfold fNM; omega) (by omega) (by omega) (by omega), ← hs, st_ne (by omega), st_self]
    have w2 : s2 0 2 = σ 356 0 + 1 := by rw [f2 _ _ (by unfold fNM; omega) (by omega) (by omega) (by omega), ← hs, st_self]
    have fx : ∀ b j, b < 356 → ¬ (b = 1 ∧ j = 1) → ¬ (b = 0 ∧ j = 2) → s2 b j = s1 b j := fun b j z z1 z2 => by rw [f2 b j (by unfold fNM; omega) (by omega) (by omega) (by omega), f3 b j z1 z2]
    have fr : ∀ b j, ¬ b = 1 → ¬ (b = 0 ∧ j = 2) → ¬ (b = 356 ∧ (j = 0 ∨ j = 13 ∨ j = 31)) → ¬ fNX (σ 356 0) b j → ¬ fNM (σ 356 0) b j → ¬ (b = 359 ∧ j = σ 356 0) → ¬ (b = 365 ∧ 56 * σ 356 0 ≤ j ∧ j < 56 * σ 356 0 + 56) → s2 b j = σ b j := fun b j z1 z2 z3 z4 z5 z6 z7 => by
      rw [f2 b j z5 (by omega) z6 z7, f3 b j (by omega) z2]; exact f1 b j z4
    have old := NewE_old hI hw fr
    obtain ⟨⟨a1, a2, a3⟩, a4, a5, a6⟩ := x3
    obtain ⟨⟨b1, b2⟩, b3, b4⟩ := y2
    obtain ⟨v1, v2, v3, v4⟩ := x4
    generalize hn : σ 356 0 = n at *
    generalize hR : thL (σ 367) (σ 356 13) 8 0 0 (fun _ => 0) = R at *
    generalize hQ : rdG (σ 367) (σ 356 13) = Q at *
    have A2 : s2 (4 + 43 * n) 0 = R.2.2.1 := by rw [fx _ _ (by omega) (by omega) (by omega)]; exact a1
    have A1 : s2 (4 + 43 * n) 1 = Q.2.2.1 := by rw [fx _ _ (by omega) (by omega) (by omega)]; exact a2
    have A3 : s2 (4 + 43 * n) 2 = 1 := by rw [fx _ _ (by omega) (by omega) (by omega)]; exact a3
    have newA : GA s2 n := by
      refine ⟨by omega, ⟨by omega, by omega, by omega⟩, fun t t0 t1 => ?_, fun p p0 p1 => ?_, fun p i p0 p1 i0 i1 => ?_⟩
      · rw [b1] at t1
        rw [fx _ _ (by omega) (by omega) (by omega), a4 t t0 t1, b3 t t0 t1]
        exact ⟨rfl, v3 t t0 t1⟩
      · rw [b2] at p1
        have hz := (v4.1 p p0 p1).1.1
        rw [fx _ _ (by omega) (by omega) (by omega), (a5 p p0 p1).2.1, (b4 p p0 p1).2.1]
        exact ⟨rfl, by omega, by omega⟩
      · rw [b2] at p1
        have hz := v4.1 p p0 p1
        rw [(b4 p p0 p1).2.1] at i1
        have h1 := (a5 p p0 p1).2.2.1 i i0 i1
        have h2 := (b4 p p0 p1).2.2.1 i i0 i1
        rw [show 8 * (7 * n + p) + i = 56 * n + 8 * p + i by omega] at h2
        rw [fx _ _ (by omega) (by omega) (by omega), h1, h2, b1]
        exact ⟨rfl, (hz.1.2.1 i i0 i1).1.1, (hz.1.2.1 i i0 i1).1.2⟩
    have lvb : ∀ p t, 0 ≤ p → p < Q.2.2.1 → 0 ≤ t → t < R.2.2.1 → -1 ≤ Q.2.2.2.2.2.2 p t ∧ Q.2.2.2.2.2.2 p t ≤ 7 := fun p t p0 p1 t0 t1 => by
      have hz := (v4.1 p p0 p1).1
      refine ⟨hz.2.2.2.2.1 t t0 t1, ?_⟩
      by_cases y : 0 ≤ Q.2.2.2.2.2.2 p t
      · obtain ⟨i, i0, i1, e⟩ := hz.2.2.2.2.2 t t0 t1 y
        have := (hz.2.1 i i0 i1).2.2
        rw [e] at this
        have := hz.1.2
        omega
      · omega
    have newB : GB s2 n := by
      refine ⟨fun p p0 p1 => ?_, fun p t p0 p1 t0 t1 => ?_⟩
      · rw [b2] at p1
        have hz := v4.1 p p0 p1
        rw [fx _ _ (by omega) (by omega) (by omega), (a5 p p0 p1).1, (b4 p p0 p1).1, b1]
        exact ⟨rfl, hz.2.1, hz.2.2⟩
      · rw [b2] at p1
        rw [b1] at t1
        have h1 := (a5 p p0 p1).2.2.2 t t0 (by omega)
        have h2 := (b4 p p0 p1).2.2.2 t t0 (by omega)
        rw [show 8 * (7 * n + p) + t = 56 * n + 8 * p + t by omega] at h2
        rw [fx _ _ (by omega) (by omega) (by omega), h1, h2]
        exact ⟨rfl, lvb p t p0 p1 t0 t1⟩
    have newC : GC s2 n := by
      intro p t p0 p1 t0 t1
      rw [b2] at p1
      rw [b1] at t1
      have h2 := y4 (8 * p + t) (by omega) (by omega)
      rw [show 56 * n + (8 * p + t) = 56 * n + 8 * p + t by omega] at h2
      rw [fx _ _ (by omega) (by omega) (by omega), a6 p t p0 (by omega) t0 (by omega), h2]
      exact ⟨rfl, Int.le_refl 0, by decide⟩
    have newW : GW s2 n := by
      refine ⟨fun p p0 p1 => ?_, fun t t0 t1 => ?_⟩
      · rw [b2] at p1
        rw [b1, (b4 p p0 p1).2.1]
        refine GWl_congr (fun i i0 i1 => ?_) (fun t t0 t1 => ?_) (v4.1 p p0 p1).1
        · have h2 := (b4 p p0 p1).2.2.1 i i0 i1
          rw [show 8 * (7 * n + p) + i = 56 * n + 8 * p + i by omega] at h2
          exact h2
        · have h2 := (b4 p p0 p1).2.2.2 t t0 (by omega)
          rw [show 8 * (7 * n + p) + t = 56 * n + 8 * p + t by omega] at h2
          exact h2
      · rw [b1] at t1
        rw [b2, b3 t t0 t1]
        have := v4.2 t t0 t1
        unfold hcD at this
        rw [sm_congr (f' := fun v => if Q.2.2.2.1 v = t then 1 else 0) _ 0 0 (fun v v0 v1' => by
          show (if s2 361 (7 * n + v) = t then (1 : Int) else 0) = _
          rw [(b4 v v0 (by omega)).1])]
        exact this
    refine h _ s2 ⟨Or.inr ⟨by rw [hn]; exact y5, by rw [hn]; exact c, fun k a b => by rw [hn, fx _ _ (by omega) (by omega) (by omega)]; exact x5 k a b, by rw [hn, fx _ _ (by omega) (by omega) (by omega)]; exact x6⟩, by rw [hn]; exact fr⟩ ⟨by rw [w2, y5], by omega, by omega, fun g g0 g1 => ?_⟩ (fun g g0 g1 => ?_) (tape0 s2 w1 y6)
    · by_cases z : g = n
      · rw [z]; exact ⟨newA, newB, newC⟩
      · exact (old g g0 (by omega)).1
    · by_cases z : g = n
      · rw [z]; exact newW
      · exact (old g g0 (by omega)).2
  · rw [show st s1 1 1 0 1 2 = (rdG (σ 367) (σ 356 13)).2.1 by rw [st_ne (by omega)]; exact x2, w32_id (by omega) (by omega)]
    refine mo _ _ (fun b j z => by rw [st_ne (by omega), f1 b j (by unfold fNX; omega)]) (fun s2 y1 => by rw [x1] at y1; cases y1) (fun s2 y1 y2 f2 => ?_) hend
    have fr : ∀ b j, ¬ b = 1 → ¬ (b = 0 ∧ j = 2) → ¬ (b = 356 ∧ (j = 0 ∨ j = 13 ∨ j = 31)) → ¬ fNX (σ 356 0) b j → ¬ fNM (σ 356 0) b j → ¬ (b = 359 ∧ j = σ 356 0) → ¬ (b = 365 ∧ 56 * σ 356 0 ≤ j ∧ j < 56 * σ 356 0 + 56) → s2 b j = σ b j := fun b j z1 z2 z3 z4 z5 z6 z7 => by
      rw [f2 b j z5 (by omega), st_ne (by omega)]; exact f1 b j z4
    have old := NewE_old hI hw fr
    have e0 : s2 356 0 = σ 356 0 := by rw [f2 _ _ (by unfold fNM; omega) (by omega), st_ne (by omega), f1 _ _ (by unfold fNX; omega)]
    have e2 : s2 0 2 = σ 356 0 := by rw [f2 _ _ (by unfold fNM; omega) (by omega), st_ne (by omega), f1 _ _ (by unfold fNX; omega)]; exact c0
    exact h _ s2 ⟨Or.inl e0, fr⟩ ⟨by omega, by omega, by omega, fun g g0 g1 => (old g g0 (by omega)).1⟩ (fun g g0 g1 => (old g g0 (by omega)).2) (tape0 s2 (by rw [f2 _ _ (by unfold fNM; omega) (by omega), st_self]) y2)
