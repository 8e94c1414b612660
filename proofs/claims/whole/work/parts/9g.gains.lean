-- ===== with one turn each a list told otherwise never helps
theorem rnd_add {ls : Int → Int → Int} {sz who : Int → Int} : ∀ (a b : Nat) (i k : Int) (S : RS), rnd ls sz who (a + b) i k S = rnd ls sz who b (i + a) (k + a) (rnd ls sz who a i k S)
  | 0, b, i, k, S => by
    rw [Nat.zero_add, show i + ((0 : Nat) : Int) = i by omega, show k + ((0 : Nat) : Int) = k by omega]; rfl
  | a + 1, b, i, k, S => by
    rw [show a + 1 + b = (a + b) + 1 by omega]
    show rnd ls sz who (a + b) (i + 1) (k + 1) (trn ls sz S k (who i)) = rnd ls sz who b (i + ((a + 1 : Nat) : Int)) (k + ((a + 1 : Nat) : Int)) (rnd ls sz who a (i + 1) (k + 1) (trn ls sz S k (who i)))
    rw [rnd_add a b, show i + 1 + (a : Int) = i + ((a + 1 : Nat) : Int) by omega, show k + 1 + (a : Int) = k + ((a + 1 : Nat) : Int) by omega]
theorem rnd_same {ls ls' : Int → Int → Int} {sz who : Int → Int} {p : Int} (he : ∀ x, ¬ x = p → ls' x = ls x) : ∀ (q : Nat) (i k : Int) (S : RS), (∀ j, i ≤ j → j < i + q → ¬ who j = p) → rnd ls' sz who q i k S = rnd ls sz who q i k S
  | 0, _, _, _, _ => rfl
  | q + 1, i, k, S, h => by
    show rnd ls' sz who q (i + 1) (k + 1) (trn ls' sz S k (who i)) = rnd ls sz who q (i + 1) (k + 1) (trn ls sz S k (who i))
    have e : trn ls' sz S k (who i) = trn ls sz S k (who i) := by
      unfold trn frs
      rw [he _ (h i (Int.le_refl i) (by omega))]
    rw [e]
    exact rnd_same he q (i + 1) (k + 1) _ (fun j a b => h j (by omega) (by omega))
theorem rnd_keep {ls : Int → Int → Int} {sz who : Int → Int} {p : Int} : ∀ (q : Nat) (i k : Int) (S : RS), (∀ j, i ≤ j → j < i + q → ¬ who j = p) → (rnd ls sz who q i k S).2.1 p = S.2.1 p ∧ (rnd ls sz who q i k S).2.2.1 p = S.2.2.1 p
  | 0, _, _, _, _ => ⟨rfl, rfl⟩
  | q + 1, i, k, S, h => by
    have h0 := h i (Int.le_refl i) (by omega)
    have ih := rnd_keep (ls := ls) (sz := sz) q (i + 1) (k + 1) (trn ls sz S k (who i)) (fun j a b => h j (by omega) (by omega))
    have e : (trn ls sz S k (who i)).2.1 p = S.2.1 p ∧ (trn ls sz S k (who i)).2.2.1 p = S.2.2.1 p := by
      unfold trn tk
      split
      · exact ⟨rfl, rfl⟩
      · refine ⟨up_n (fun y => h0 y.symm), funext fun j => ?_⟩
        show up2 S.2.2.1 (who i) (S.2.1 (who i)) _ p j = S.2.2.1 p j
        exact up2_n (fun y => h0 y.1.symm)
    show (rnd ls sz who q (i + 1) (k + 1) (trn ls sz S k (who i))).2.1 p = _ ∧ (rnd ls sz who q (i + 1) (k + 1) (trn ls sz S k (who i))).2.2.1 p = _
    exact ⟨ih.1.trans e.1, ih.2.trans e.2⟩
theorem hs_keep {S S' : RS} {p : Int} (h1 : S.2.1 p = S'.2.1 p) (h2 : S.2.2.1 p = S'.2.2.1 p) (t : Int) : hs S p t = hs S' p t := by
  unfold hs
  rw [h1, h2]
theorem CSl_le {m l : Int} {lv A B : Int → Int} (h : ∀ t, 0 ≤ t → t < m → 0 ≤ lv t → lv t ≤ l → A t ≤ B t) : CSl m lv A l ≤ CSl m lv B l := by
  unfold CSl
  have main : ∀ q : Nat, (q : Int) ≤ m → sm (fun t => if 0 ≤ lv t ∧ lv t ≤ l then A t else 0) q 0 0 ≤ sm (fun t => if 0 ≤ lv t ∧ lv t ≤ l then B t else 0) q 0 0 := by
    intro q
    induction q with
    | zero => intro _; exact Int.le_refl _
    | succ q ih =>
      intro hq
      rw [sm_snoc, sm_snoc]
      have := ih (by omega)
      have h2 := h (0 + (q : Int)) (by omega) (by omega)
      have : (if 0 ≤ lv (0 + (q : Int)) ∧ lv (0 + (q : Int)) ≤ l then A (0 + (q : Int)) else 0) ≤ (if 0 ≤ lv (0 + (q : Int)) ∧ lv (0 + (q : Int)) ≤ l then B (0 + (q : Int)) else 0) := by
        by_cases c : 0 ≤ lv (0 + (q : Int)) ∧ lv (0 + (q : Int)) ≤ l
        · rw [if_pos c, if_pos c]; exact h2 c.1 c.2
        · rw [if_neg c, if_neg c]; exact Int.le_refl _
      omega
  by_cases c : 0 ≤ m
  · exact main m.toNat (by omega)
  · rw [show m.toNat = 0 by omega]; exact Int.le_refl _
theorem sm_add {f g : Int → Int} : ∀ q : Nat, sm (fun t => f t + g t) q 0 0 = sm f q 0 0 + sm g q 0 0
  | 0 => rfl
  | q + 1 => by rw [sm_snoc, sm_snoc, sm_snoc, sm_add q]; omega
theorem CSl_add {m l : Int} {lv A B : Int → Int} : CSl m lv (fun t => A t + B t) l = CSl m lv A l + CSl m lv B l := by
  unfold CSl
  rw [← sm_add]
  refine sm_congr _ _ _ (fun t _ _ => ?_)
  by_cases c : 0 ≤ lv t ∧ lv t ≤ l
  · rw [if_pos c, if_pos c, if_pos c]
  · rw [if_neg c, if_neg c, if_neg c]; rfl
/-- one thing alone -/
theorem CSl_one {m l u : Int} {lv A : Int → Int} (hA : ∀ t, 0 ≤ t → t < m → A t = if t = u then 1 else 0) (u0 : 0 ≤ u) (u1 : u < m) : CSl m lv A l = if 0 ≤ lv u ∧ lv u ≤ l then 1 else 0 := by
  unfold CSl
  rw [sm_set (f := fun t => if 0 ≤ lv t ∧ lv t ≤ l then A t else 0) (f' := fun _ => 0) (d := u) m.toNat 0 0 u0 (by omega) (fun t t0 t1 y => by
    show (if 0 ≤ lv t ∧ lv t ≤ l then A t else 0) = 0
    rw [hA t t0 (by omega), if_neg y]; split <;> rfl)]
  have h0 := sm_le (f := fun _ => 0) (lo := 0) (hi := 0) m.toNat 0 0 (fun _ _ _ => ⟨Int.le_refl 0, Int.le_refl 0⟩)
  show sm (fun _ => 0) m.toNat 0 0 + (if 0 ≤ lv u ∧ lv u ≤ l then A u else 0) - 0 = _
  rw [hA u u0 u1, if_pos rfl]
  split <;> omega
/-- in one order -/
theorem lie_one {n m l p z : Int} {ls ls' : Int → Int → Int} {sz am lv o : Int → Int} {L : Int → Int} (n0 : 0 ≤ n) (hw : GWl m z (ls p) lv) (ez : sz p = z) (he : ∀ x, ¬ x = p → ls' x = ls x) (hP : PM z o) (hl : ∀ i, 0 ≤ i → i < z → ls' p i = ls p (o i)) (hi : ∀ i j, 0 ≤ i → i < n → 0 ≤ j → j < n → L i = L j → i = j) :
    CSl m lv (fun t => hs (dl n 1 L false am ls' sz) p t) l ≤ CSl m lv (fun t => hs (dl n 1 L false am ls sz) p t) l := by
  have ew : whoR L n false 0 = L := by
    funext i
    unfold whoR
    rw [if_neg (fun w => by cases w.1)]
  have e1 : ∀ ls : Int → Int → Int, dl n 1 L false am ls sz = rnd ls sz L n.toNat 0 0 (S0 am) := fun ls => by
    show rnd ls sz (whoR L n false 0) n.toNat 0 0 (S0 am) = _
    rw [ew]
  rw [e1, e1]
  by_cases c : ∃ i, 0 ≤ i ∧ i < n ∧ L i = p
  · obtain ⟨i, i0, i1, eL⟩ := c
    have hne : ∀ j, 0 ≤ j → j < n → ¬ j = i → ¬ L j = p := fun j j0 j1 y e => y (hi j i j0 j1 i0 i1 (e.trans eL.symm))
    have esp : ∀ ls : Int → Int → Int, rnd ls sz L n.toNat 0 0 (S0 am) = rnd ls sz L (n.toNat - i.toNat - 1) (i + 1) (i + 1) (trn ls sz (rnd ls sz L i.toNat 0 0 (S0 am)) i p) := fun ls => by
      have h1 := rnd_add (ls := ls) (sz := sz) (who := L) i.toNat (n.toNat - i.toNat - 1 + 1) 0 0 (S0 am)
      rw [show i.toNat + (n.toNat - i.toNat - 1 + 1) = n.toNat by omega, show (0 : Int) + (i.toNat : Int) = i by omega] at h1
      rw [h1]
      show rnd ls sz L (n.toNat - i.toNat - 1) (i + 1) (i + 1) (trn ls sz (rnd ls sz L i.toNat 0 0 (S0 am)) i (L i)) = _
      rw [eL]
    have hk : ∀ (ls : Int → Int → Int) (t : Int), hs (rnd ls sz L n.toNat 0 0 (S0 am)) p t = hs (trn ls sz (rnd ls sz L i.toNat 0 0 (S0 am)) i p) p t := fun ls t => by
      rw [esp]
      have := rnd_keep (ls := ls) (sz := sz) (who := L) (p := p) (n.toNat - i.toNat - 1) (i + 1) (i + 1) (trn ls sz (rnd ls sz L i.toNat 0 0 (S0 am)) i p) (fun j a b => hne j (by omega) (by omega) (by omega))
      exact hs_keep this.1 this.2 t
    have hb := rnd_same (sz := sz) (who := L) he i.toNat 0 0 (S0 am) (fun j a b => hne j a (by omega) (by omega))
    have hg := rnd_keep (ls := ls) (sz := sz) (who := L) (p := p) i.toNat 0 0 (S0 am) (fun j a b => hne j a (by omega) (by omega))
    simp only [hk, hb]
    generalize rnd ls sz L i.toNat 0 0 (S0 am) = S at *
    have g0 : S.2.1 p = 0 := hg.1
    have h0 : ∀ u, hs S p u = 0 := fun u => by
      unfold hs
      rw [g0]; rfl
    have hz := hw.1
    -- what one takes
    have t1 := fsT_cases (c := fun x => decide (0 < S.1 x)) (ls := ls p) (sz p).toNat 0
    have t2 := fsT_cases (c := fun x => decide (0 < S.1 x)) (ls := ls' p) (sz p).toNat 0
    have two : ∀ (ls : Int → Int → Int) (u : Int), frs ls sz S p = u → ¬ u = -1 → ∀ t, hs (trn ls sz S i p) p t = if t = u then 1 else 0 := fun ls u eu hu t => by
      unfold trn
      rw [eu, hs_tk hu (by omega), h0]
      by_cases y : t = u
      · rw [if_pos ⟨rfl, y⟩, if_pos y]; rfl
      · rw [if_neg (fun w => y w.2), if_neg y]
    rcases t2 with ⟨f2, n2⟩ | ⟨j2, j20, j21, f2, c2, -⟩
    · -- nothing by the lie
      have f2 : frs ls' sz S p = -1 := f2
      have e2 : ∀ t, hs (trn ls' sz S i p) p t = 0 := fun t => by
        unfold trn tk
        rw [f2, if_pos rfl]; exact h0 t
      refine CSl_le (fun t _ _ _ _ => ?_)
      show hs (trn ls' sz S i p) p t ≤ hs (trn ls sz S i p) p t
      rw [e2]
      rcases t1 with ⟨f1, -⟩ | ⟨j1, j10, j11, f1, -, -⟩
      · have f1 : frs ls sz S p = -1 := f1
        unfold trn tk
        rw [f1, if_pos rfl, h0]
        exact Int.le_refl _
      · have f1 : frs ls sz S p = ls p j1 := f1
        rw [two ls _ f1 (by have := (hw.2.1 j1 j10 (by omega)).1; omega)]
        split <;> omega
    · have f2 : frs ls' sz S p = ls' p j2 := f2
      have hj2 := hP j2 j20 (by omega)
      have e2 := hl j2 j20 (by omega)
      have hb2 := hw.2.1 (o j2) hj2.1.1 hj2.1.2
      rw [e2] at f2 c2
      rcases t1 with ⟨f1, n1⟩ | ⟨j1, j10, j11, f1, c1, m1⟩
      · exact absurd c2 (by rw [n1 (o j2) hj2.1.1 (by omega)]; decide)
      · have f1 : frs ls sz S p = ls p j1 := f1
        have hb1 := hw.2.1 j1 j10 (by omega)
        have hle : j1 ≤ o j2 := by
          apply Classical.byContradiction
          intro y
          have := m1 (o j2) hj2.1.1 (by omega)
          rw [this] at c2; cases c2
        have hmo := mono_lv hw (o j2 - j1).toNat j1 j10 (by omega)
        rw [show j1 + (((o j2 - j1).toNat : Nat) : Int) = o j2 by omega] at hmo
        rw [CSl_one (u := ls p (o j2)) (fun t _ _ => two ls' _ f2 (by omega) t) hb2.1.1 hb2.1.2, CSl_one (u := ls p j1) (fun t _ _ => two ls _ f1 (by omega) t) hb1.1.1 hb1.1.2]
        split
        · rw [if_pos (by omega)]; exact Int.le_refl _
        · split <;> omega
  · rw [rnd_same (sz := sz) (who := L) he n.toNat 0 0 (S0 am) (fun j a b y => c ⟨j, a, by omega, y⟩)]
    exact Int.le_refl _
theorem lie_fold {n m l p z : Int} {ls ls' : Int → Int → Int} {sz am lv o : Int → Int} (n0 : 0 ≤ n) (m8 : m ≤ 8) (hw : GWl m z (ls p) lv) (ez : sz p = z) (he : ∀ x, ¬ x = p → ls' x = ls x) (hP : PM z o) (hl : ∀ i, 0 ≤ i → i < z → ls' p i = ls p (o i)) : ∀ (r : List (List Nat)) (L : List Nat) (F F' : Int → Int), CH (L :: r) → (L.length : Int) = n → PM (L.length : Int) (oL L) → CSl m lv (fun t => F' (8 * p + t)) l ≤ CSl m lv (fun t => F (8 * p + t)) l → CSl m lv (fun t => foldP n 1 am ls' sz false (L :: r) F' (8 * p + t)) l ≤ CSl m lv (fun t => foldP n 1 am ls sz false (L :: r) F (8 * p + t)) l := by
  have step : ∀ (L : List Nat) (F F' : Int → Int), (L.length : Int) = n → PM (L.length : Int) (oL L) → CSl m lv (fun t => F' (8 * p + t)) l ≤ CSl m lv (fun t => F (8 * p + t)) l → CSl m lv (fun t => adS (dl n 1 (oL L) false am ls' sz) F' (8 * p + t)) l ≤ CSl m lv (fun t => adS (dl n 1 (oL L) false am ls sz) F (8 * p + t)) l := fun L F F' hn hL hF => by
    have ea : ∀ (S : RS) (F : Int → Int), CSl m lv (fun t => adS S F (8 * p + t)) l = CSl m lv (fun t => F (8 * p + t)) l + CSl m lv (fun t => hs S p t) l := fun S F => by
      rw [← CSl_add]
      unfold CSl
      refine sm_congr _ _ _ (fun t t0 t1 => ?_)
      show (if 0 ≤ lv t ∧ lv t ≤ l then adS S F (8 * p + t) else 0) = if 0 ≤ lv t ∧ lv t ≤ l then F (8 * p + t) + hs S p t else 0
      rw [adS_at t0 (by omega)]
    rw [ea, ea]
    have := lie_one (L := oL L) (am := am) (l := l) n0 hw ez he hP hl (fun i j i0 i1 j0 j1 e => (hL j j0 (by omega)).2 i i0 (by omega) e)
    omega
  intro r
  induction r with
  | nil => intro L F F' _ hn hL hF; exact step L F F' hn hL hF
  | cons L2 r ih =>
    intro L F F' hC hn hL hF
    have hC : nxL L = some L2 ∧ CH (L2 :: r) := hC
    exact ih L2 _ _ hC.2 (by rw [nxL_len hC.1]; exact hn) (nxL_PM hL hC.1) (step L F F' hn hL hF)
theorem lie_no {σ : Mem} {g p : Int} {o : Int → Int} (hA : GA σ g) (hw : GW σ g) (p0 : 0 ≤ p) (p1 : p < σ 357 g) (hR : σ 359 g = 1) (hP : PM (csz σ g p) o) : ¬ lyV σ g p 1 o 1 := by
  have hn := hA.1
  have hL := GA_C hA
  have hz := hL.1.1 p p0 p1
  have ez : csz σ g p = σ 362 (7 * g + p) := csz_e p0 (by omega)
  have hW : GWl (σ 358 g) (csz σ g p) (clI σ g p) (fun t => σ 364 (56 * g + 8 * p + t)) := by
    have := hw.1 p p0 p1
    rw [← ez] at this
    exact GWl_congr (fun i i0 i1 => clI_e p0 (by omega) i0 (by omega)) (fun _ _ _ => rfl) this
  intro hV
  unfold lyV CmpR at hV
  have hg : gtL (σ 358 g) (fun t => σ 364 (56 * g + 8 * p + t)) (fun t => tpN (σ 357 g) (σ 358 g) (σ 359 g) (cam σ g) (lyL σ g p o) (csz σ g) 1 (8 * p + t)) (tpB (σ 357 g) (σ 358 g) (σ 359 g) (cam σ g) (lyL σ g p o) (csz σ g) 1) (fun t => shN σ g 1 (8 * p + t)) (shB σ g 1) := by
    rcases hV with z | z | z | z
    · omega
    · exact z.2.1
    · omega
    · omega
  obtain ⟨l, l0, l1, hlt⟩ := hg
  rw [(sh_tp (σ := σ) (g := g) (k := 1) (Or.inl rfl)).1, (sh_tp (σ := σ) (g := g) (k := 1) (Or.inl rfl)).2] at hlt
  have eB : ∀ ls, tpB (σ 357 g) (σ 358 g) (σ 359 g) (cam σ g) ls (csz σ g) 1 = mnQ (σ 357 g) := fun _ => rfl
  have eN : ∀ ls, tpN (σ 357 g) (σ 358 g) (σ 359 g) (cam σ g) ls (csz σ g) 1 = mnP (σ 357 g) 1 (cam σ g) ls (csz σ g) false := fun ls => by rw [hR]; rfl
  rw [eB, eB, eN, eN] at hlt
  obtain ⟨r, e1, e2, e3⟩ := pm_CH (σ 357 g).toNat (by omega)
  have hfold := lie_fold (n := σ 357 g) (m := σ 358 g) (l := l) (p := p) (z := csz σ g p) (ls := clI σ g) (ls' := lyL σ g p o) (sz := csz σ g) (am := cam σ g) (o := o) (by omega) (by omega) hW rfl (fun x y => funext fun i => lyL_n y) hP (fun i i0 i1 => lyL_p i0 i1) r _ (fun _ => 0) (fun _ => 0) e2 (by rw [List.length_range]; omega) (by rw [List.length_range]; exact range_PM _) (Int.le_refl _)
  rw [← e1] at hfold
  have hQ := (mnP_r (n := σ 357 g) (m := σ 358 g) (R := 1) (am := cam σ g) (back := false) (by omega) (by decide) hL.1 (fun t t0 t1 => (cam_r hA t t0 t1).2.2)).2.1
  have := Int.mul_le_mul_of_nonneg_right hfold (show 0 ≤ mnQ (σ 357 g) by omega)
  have hlt2 : CSl (σ 358 g) (fun t => σ 364 (56 * g + 8 * p + t)) (fun t => foldP (σ 357 g) 1 (cam σ g) (clI σ g) (csz σ g) false (pmN (σ 357 g).toNat) (fun _ => 0) (8 * p + t)) l * mnQ (σ 357 g) < CSl (σ 358 g) (fun t => σ 364 (56 * g + 8 * p + t)) (fun t => foldP (σ 357 g) 1 (cam σ g) (lyL σ g p o) (csz σ g) false (pmN (σ 357 g).toNat) (fun _ => 0) (8 * p + t)) l * mnQ (σ 357 g) := hlt
  omega
