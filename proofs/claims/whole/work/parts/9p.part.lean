-- ===== parted: may it be parted? and the model's finding
def CBP (σ : Mem) (g : Int) : Prop := σ 359 g = 1 ∧ barD (σ 357 g) (σ 358 g) (σ 359 g) (fun p t => σ 365 (56 * g + 8 * p + t)) (fun p t => σ 364 (56 * g + 8 * p + t)) (fun t => σ 360 (8 * g + t)) = -2 ∧ ∀ p, 0 ≤ p → p < σ 357 g → rowS (σ 358 g) (ctb σ g) p = 60
theorem CBP_PT {σ : Mem} {g : Int} (hA : GA σ g) (hC : GC σ g) (h : CBP σ g) : PT (σ 357 g) (σ 358 g) (cam σ g) (ctb σ g) 60 := by
  have hn := hA.1
  refine ⟨by decide, ctb_FB hA hC, h.2.2, fun t t0 t1 => ?_⟩
  have hb := h.2.1
  unfold barD at hb
  have hw := fsT_cases (c := fun p => decide (60 * σ 359 g < sm (fun t => σ 365 (56 * g + 8 * p + t)) (σ 358 g).toNat 0 0) || unl (σ 358 g) (fun t => σ 365 (56 * g + 8 * p + t)) (fun t => σ 364 (56 * g + 8 * p + t))) (ls := fun p => p) (σ 357 g).toNat 0
  have hv := fsT_cases (c := fun t => decide (60 * σ 360 (8 * g + t) < sm (fun p => σ 365 (56 * g + 8 * p + t)) (σ 357 g).toNat 0 0)) (ls := fun t => t) (σ 358 g).toNat 0
  rcases hw with ⟨e, -⟩ | ⟨j, j0, j1, e, -, -⟩
  · rw [e] at hb
    unfold pk at hb
    rw [if_pos rfl] at hb
    rcases hv with ⟨e2, n2⟩ | ⟨j, j0, j1, e2, -, -⟩
    · have := of_decide_eq_false (n2 t t0 (by omega))
      rw [cam_e t0 (by omega), Int.mul_comm]
      have ec : colS (σ 357 g) (ctb σ g) t = sm (fun p => σ 365 (56 * g + 8 * p + t)) (σ 357 g).toNat 0 0 := sm_congr _ _ _ (fun p p0 p1 => by
        show ctb σ g (8 * p + t) = σ 365 (56 * g + 8 * p + t)
        rw [ctb_e (by omega) (by omega), show 56 * g + (8 * p + t) = 56 * g + 8 * p + t by omega])
      rw [ec]
      omega
    · rw [e2] at hb
      unfold pk2 at hb
      rw [if_neg (by omega)] at hb
      omega
  · rw [e] at hb
    unfold pk at hb
    rw [if_neg (by omega)] at hb
    omega
theorem X_canBeParted_ok {d : Nat} {K : Int → Mem → Prop} {σ : Mem} {g : Int} (g0 : 0 ≤ g) (g5 : g ≤ 5) (hA : GA σ g) (hB : GB σ g) (hC : GC σ g) (k1 : CBP σ g → K 1 σ) (k0 : ¬ CBP σ g → K 0 σ) : AM2 i_Giving_canBeParted (d + 3) [(2, 4 + 43 * g)] σ K := by
  have ckg := fun {P : Prop} => ck_g (P := P) g0 g5
  obtain ⟨n1, n2, n3, n4, n5, n6⟩ := hA.1
  obtain ⟨m1, m2, m3⟩ := hA.2.1
  have ham := hA.2.2.1
  refine e_Giving_canBeParted ?_
  rw [ckg, m3]
  refine ⟨fun c => ?_, fun c => k0 (fun z => c z.1)⟩
  rw [ckg]
  refine X_barring_ok (d := d) g0 g5 (by omega) (by omega) (by omega) (fun t t0 t1 => by have := ham t t0 (by omega); omega) (fun p t p0 p1 t0 t1 => by have := hC p t p0 (by omega) t0 (by omega); omega) ?_
  rw [m1, m2, m3, barD_congr (pf' := fun p t => σ 365 (56 * g + 8 * p + t)) (lf' := fun p t => σ 364 (56 * g + 8 * p + t)) (af' := fun t => σ 360 (8 * g + t)) (fun p t p0 p1 t0 t1 => ⟨(hC p t p0 p1 t0 t1).1, (hB.2 p t p0 p1 t0 t1).1⟩) (fun t t0 t1 => (ham t t0 t1).1)]
  refine ⟨fun c2 => ?_, fun c2 => k0 (fun z => c2 z.2.1)⟩
  have l12 : ∀ (q : Nat) (p : Int), 0 ≤ p → p + q = σ 357 g → (∀ x, 0 ≤ x → x < p → rowS (σ 358 g) (ctb σ g) x = 60) → AW2 i_Giving_canBeParted (d + 3) 12 [] [(0, (2, 4 + 43 * g)), (1, (0, p))] σ K := by
    intro q
    induction q with
    | zero =>
      intro p p0 e h
      refine s_Giving_canBeParted_12 ?_
      rw [ckg, m1]
      exact brF_i (by omega) (k1 ⟨c, c2, fun x x0 x1 => h x x0 (by omega)⟩)
    | succ q ih =>
      intro p p0 e h
      refine s_Giving_canBeParted_12 ?_
      rw [ckg, m1, ckg]
      refine brT_i (by omega) (X_partsOfPerson_ok (d := d + 1) g0 g5 p0 (by omega) (by omega) (fun t t0 t1 => by have := hC p t p0 (by omega) t0 (by omega); omega) ?_)
      have er : sm (fun t => σ (25 + 43 * g + p) t) (σ (4 + 43 * g) 0).toNat 0 0 = rowS (σ 358 g) (ctb σ g) p := by
        rw [m2]
        exact sm_congr _ _ _ (fun t t0 t1 => by
          show σ (25 + 43 * g + p) t = ctb σ g (8 * p + t)
          rw [(hC p t p0 (by omega) t0 (by omega)).1, ctb_e (by omega) (by omega), show 56 * g + (8 * p + t) = 56 * g + 8 * p + t by omega])
      rw [er, w32_id (x := p + 1) (by omega) (by omega)]
      refine ⟨fun c3 => ih (p + 1) (by omega) (by omega) (fun x x0 x1 => ?_), fun c3 => k0 (fun z => c3 (z.2.2 p p0 (by omega)))⟩
      by_cases y : x = p
      · rw [y]; exact c3
      · exact h x x0 (by omega)
  exact l12 (σ 357 g).toNat 0 (Int.le_refl 0) (by omega) (fun x a b => by omega)
theorem M_finds_ok {g n m : Int} {T am : Int → Int} (g0 : 0 ≤ g) (g5 : g ≤ 5) (n7 : 1 ≤ n ∧ n ≤ 7) (m8 : 1 ≤ m ∧ m ≤ 8) : ∀ (q : Nat) {d : Nat} {K : Int → Mem → Prop} (s : Mem) (p : Int) (fr mu : Int → Int), 0 ≤ p → p + q = n → s 357 g = n → s 358 g = m → (∀ t, 0 ≤ t → t < m → s 360 (8 * g + t) = am t ∧ 1 ≤ am t ∧ am t ≤ 9) → (∀ x t, 0 ≤ x → x < n → 0 ≤ t → t < m → s 398 (8 * x + t) = T (8 * x + t)) → (∀ t, 0 ≤ t → t < m → s 403 t = am t - fr t ∧ s 404 t = mu t + (am t - fr t) ∧ (0 ≤ fr t ∧ fr t ≤ 9) ∧ -1000 + q ≤ mu t ∧ mu t ≤ 9) →
      (∀ a s2, PkR m T q p fr mu a → (∀ x, p ≤ x → x < n → s2 402 x = a x) → (∀ t, 0 ≤ t → t < m → s2 403 t = am t - fr t + sm (fun v => if a v = t then 1 else 0) q p 0) → (∀ b j, ¬ (b = 402 ∧ p ≤ j) → ¬ b = 403 → s2 b j = s b j) → K 1 s2) → (¬ Cm m T q p fr mu → ∀ s2 : Mem, (∀ t, 0 ≤ t → t < m → s2 403 t = s 403 t) → (∀ b j, ¬ (b = 402 ∧ p ≤ j) → ¬ b = 403 → s2 b j = s b j) → K 0 s2) → AM2 i_M_finds (d + q + 1) [(2, 356), (0, g), (0, p)] s K := by
  intro q
  induction q with
  | zero => ?_
  | succ q ih => ?_
  all_goals
    intro d K s p fr mu p0 e eN eM ha hT hu k1 k0
    -- what is lacking
    have lack : ∀ (D : Nat) (q : Nat), p + q = n → (∀ t, 0 ≤ t → t < m → s 403 t = am t - fr t ∧ s 404 t = mu t + (am t - fr t) ∧ (0 ≤ fr t ∧ fr t ≤ 9) ∧ -1000 + q ≤ mu t ∧ mu t ≤ 9) → (¬ sm (fun t => maxI 0 (mu t)) m.toNat 0 0 ≤ q → K 0 s) → (sm (fun t => maxI 0 (mu t)) m.toNat 0 0 ≤ q → (q = 0 → K 1 s) ∧ (¬ q = 0 → AW2 i_M_finds (D + 1) 55 [] [(0, (2, 356)), (1, (0, g)), (2, (0, p)), (4, (0, 0))] s K)) → AM2 i_M_finds (D + 1) [(2, 356), (0, g), (0, p)] s K := by
      intro D q e hu h0 h1
      have l4 : ∀ (u : Nat) (t c : Int), 0 ≤ t → t + u = m → (0 ≤ c ∧ c ≤ 9 * t) → sm (fun t => maxI 0 (mu t)) u t c = sm (fun t => maxI 0 (mu t)) m.toNat 0 0 → AW2 i_M_finds (D + 1) 4 [] [(0, (2, 356)), (1, (0, g)), (2, (0, p)), (3, (0, c)), (4, (0, t))] s K := by
        intro u
        induction u with
        | zero =>
          intro t c t0 e2 hc ec
          have ec : c = sm (fun t => maxI 0 (mu t)) m.toNat 0 0 := ec
          refine s_M_finds_4 (inb_i g0 (by omega) ?_)
          rw [eM, eN, w32_id (x := n - p) (by omega) (by omega)]
          refine brF_i (by omega) (inb_i g0 (by omega) ⟨fun y => h0 (by omega), fun y => inb_i g0 (by omega) ⟨fun z => (h1 (by omega)).1 (by omega), fun z => (h1 (by omega)).2 (by omega)⟩⟩)
        | succ u ihu =>
          intro t c t0 e2 hc ec
          have hut := hu t t0 (by omega)
          have ec : sm (fun t => maxI 0 (mu t)) u (t + 1) (c + maxI 0 (mu t)) = sm (fun t => maxI 0 (mu t)) m.toNat 0 0 := ec
          have hmx := max0 (mu t)
          refine s_M_finds_4 (inb_i g0 (by omega) ?_)
          rw [eM, hut.1, hut.2.1, w32_id (x := t + 1) (by omega) (by omega), show mu t + (am t - fr t) - (am t - fr t) = mu t by omega]
          refine brT_i (by omega) (inb_i t0 (by omega) (inb_i t0 (by omega) ⟨fun y => inb_i t0 (by omega) (inb_i t0 (by omega) ?_), fun y => ?_⟩))
          · have em : maxI 0 (mu t) = mu t := by unfold maxI; rw [if_pos (by omega)]
            rw [em] at ec
            rw [w32_id (x := mu t) (by omega) (by omega), w32_id (x := c + mu t) (by omega) (by omega)]
            exact ihu (t + 1) _ (by omega) (by omega) (by omega) ec
          · have em : maxI 0 (mu t) = 0 := by unfold maxI; rw [if_neg (by omega)]
            rw [em] at ec
            rw [w32_id (x := c + 0) (by omega) (by omega)]
            exact ihu (t + 1) _ (by omega) (by omega) (by omega) ec
      exact e_M_finds fun _ _ => l4 m.toNat 0 0 (Int.le_refl 0) (by omega) (by decide) rfl
  · refine lack d 0 e hu (fun h => k0 (fun hc => h ?_) s (fun _ _ _ => rfl) (fun _ _ _ _ => rfl)) (fun h => ⟨fun _ => k1 (fun _ => 0) s ?_ (fun x a b => by omega) (fun t t0 t1 => by rw [(hu t t0 t1).1]; show am t - fr t = am t - fr t + 0; omega) (fun _ _ _ _ => rfl), fun z => absurd rfl z⟩)
    · rw [sm_z _ _ (fun t t0 t1 => by
        have := hc t t0 (by omega)
        show maxI 0 (mu t) = 0
        unfold maxI; rw [if_neg (by omega)])]
      exact Int.le_refl _
    · intro t t0 t1
      apply Classical.byContradiction
      intro y
      have := sm_lt (f := fun _ => 0) (g := fun t => maxI 0 (mu t)) m.toNat 0 0 (fun j _ _ => (max0 (mu j)).1) ⟨t, t0, by omega, by show 0 < maxI 0 (mu t); have := max0 (mu t); omega⟩
      rw [sm_z _ _ (fun _ _ _ => rfl)] at this
      omega
  · refine lack (d + (q + 1)) (q + 1) e hu (fun h => k0 (fun hc => h ?_) s (fun _ _ _ => rfl) (fun _ _ _ _ => rfl)) (fun h => ⟨fun z => absurd z (by omega), fun _ => ?_⟩)
    · have h1 := (Cm_HC _ _ _ _ (fun t t0 t1 => (hu t t0 t1).2.2.1.1) hc (fun _ => true)).2
      have h2 : cMs m T (q + 1) p (fun _ => true) ≤ ((q + 1 : Nat) : Int) := by
        have := sm_le (f := fun x => if hitS m T (fun _ => true) x = true then 1 else 0) (lo := 0) (hi := 1) (q + 1) p 0 (fun j _ _ => by
          show 0 ≤ (if hitS m T (fun _ => true) j = true then (1 : Int) else 0) ∧ (if hitS m T (fun _ => true) j = true then (1 : Int) else 0) ≤ 1
          split <;> omega)
        unfold cMs
        omega
      have h3 : nSs m mu (fun _ => true) = sm (fun t => maxI 0 (mu t)) m.toNat 0 0 := sm_congr _ _ _ (fun _ _ _ => if_pos rfl)
      omega
    · -- thing by thing
      have l55 : ∀ (u : Nat) (t : Int) (s1 : Mem), 0 ≤ t → t + u = m → (∀ v, 0 ≤ v → v < m → s1 403 v = s 403 v) → (∀ v, 0 ≤ v → v < t → ¬ ((0 < T (8 * p + v) ∧ 0 < fr v) ∧ Cm m T q (p + 1) (up fr v (fr v - 1)) (up mu v (mu v - 1)))) → (∀ b j, ¬ (b = 402 ∧ p ≤ j) → ¬ b = 403 → s1 b j = s b j) → AW2 i_M_finds (d + (q + 1) + 1) 55 [] [(0, (2, 356)), (1, (0, g)), (2, (0, p)), (4, (0, t))] s1 K := by
        intro u
        induction u with
        | zero =>
          intro t s1 t0 e2 h1 hno f
          refine s_M_finds_55 (inb_i g0 (by omega) ?_)
          rw [f 358 g (by omega) (by omega), eM]
          refine brF_i (by omega) (k0 (fun hc => ?_) s1 h1 f)
          obtain ⟨v, hv, hc⟩ := hc
          exact hno v hv.1 (by omega) ⟨⟨hv.2.2.1, hv.2.2.2⟩, hc⟩
        | succ u ihu =>
          intro t s1 t0 e2 h1 hno f
          have hut := hu t t0 (by omega)
          have hat := ha t t0 (by omega)
          have next : ¬ ((0 < T (8 * p + t) ∧ 0 < fr t) ∧ Cm m T q (p + 1) (up fr t (fr t - 1)) (up mu t (mu t - 1))) → ∀ v, 0 ≤ v → v < t + 1 → ¬ ((0 < T (8 * p + v) ∧ 0 < fr v) ∧ Cm m T q (p + 1) (up fr v (fr v - 1)) (up mu v (mu v - 1))) := fun hn v v0 v1 => by
            by_cases y : v = t
            · rw [y]; exact hn
            · exact hno v v0 (by omega)
          refine s_M_finds_55 (inb_i g0 (by omega) ?_)
          rw [f 358 g (by omega) (by omega), eM, w32_id (x := 8 * p) (by omega) (by omega), w32_id (x := 8 * p + t) (by omega) (by omega), f 398 _ (by omega) (by omega), hT p t p0 (by omega) t0 (by omega), w32_id (x := t + 1) (by omega) (by omega), w32_id (x := 8 * g) (by omega) (by omega), w32_id (x := 8 * g + t) (by omega) (by omega), h1 t t0 (by omega), hut.1, f 360 _ (by omega) (by omega), hat.1, w32_id (x := p + 1) (by omega) (by omega)]
          refine brT_i (by omega) (inb_i (by omega) (by omega) ⟨fun c => inb_i t0 (by omega) (inb_i (by omega) (by omega) ⟨fun c2 => inb_i p0 (by omega) (inb_i t0 (by omega) (inb_i t0 (by omega) ?_)), fun c2 => ihu (t + 1) s1 (by omega) (by omega) h1 (next (fun w => by omega)) f⟩), fun c => ihu (t + 1) s1 (by omega) (by omega) h1 (next (fun w => c w.1.1)) f⟩)
          rw [show st s1 402 p t 403 t = am t - fr t by rw [st_ne (by omega), h1 t t0 (by omega)]; exact hut.1, w32_id (x := am t - fr t + 1) (by omega) (by omega)]
          have f2 : ∀ b j, ¬ (b = 402 ∧ p ≤ j) → ¬ b = 403 → st (st s1 402 p t) 403 t (am t - fr t + 1) b j = s b j := fun b j z1 z2 => by rw [st_ne (by omega), st_ne (by omega)]; exact f b j z1 z2
          have ed : d + (q + 1) = d + q + 1 := by omega
          rw [ed]
          refine ih (d := d) _ (p + 1) (up fr t (fr t - 1)) (up mu t (mu t - 1)) (by omega) (by omega) (by rw [f2 _ _ (by omega) (by omega)]; exact eN) (by rw [f2 _ _ (by omega) (by omega)]; exact eM) (fun v v0 v1 => by rw [f2 _ _ (by omega) (by omega)]; exact ha v v0 v1) (fun x v x0 x1 v0 v1 => by rw [f2 _ _ (by omega) (by omega)]; exact hT x v x0 x1 v0 v1) (fun v v0 v1 => ?_) (fun a s2 hPk y1 y2 f3 => ?_) (fun hnc s2 y1 f3 => ?_)
          · have hv := hu v v0 v1
            by_cases y : v = t
            · rw [y, up_s, up_s, st_self, f2 _ _ (by omega) (by omega)]
              rw [y] at hv
              omega
            · rw [up_n y, up_n y, st_ne (by omega), st_ne (by omega), h1 v v0 v1, f2 _ _ (by omega) (by omega)]
              omega
          · have e402 : s2 402 p = t := by rw [f3 _ _ (by omega) (by omega), st_ne (by omega), st_self]
            have hpa : ∀ v, 0 ≤ v → v < m → s2 403 v = am v - fr v + sm (fun x => if (up a p t) x = v then 1 else 0) (q + 1) p 0 := fun v v0 v1 => by
              have e1 : sm (fun x => if (up a p t) x = v then 1 else 0) (q + 1) p 0 = (if t = v then 1 else 0) + sm (fun x => if a x = v then 1 else 0) q (p + 1) 0 := by
                show sm (fun x => if (up a p t) x = v then 1 else 0) q (p + 1) (0 + if (up a p t) p = v then 1 else 0) = _
                rw [sm_acc, up_s, Int.zero_add, sm_congr (f' := fun x => if a x = v then 1 else 0) q (p + 1) 0 (fun j j0 j1 => by
                  show (if (up a p t) j = v then (1 : Int) else 0) = if a j = v then 1 else 0
                  rw [up_n (by omega)])]
              rw [y2 v v0 v1, e1]
              by_cases y : v = t
              · rw [y, up_s, if_pos rfl]; omega
              · rw [up_n y, if_neg (fun w => y w.symm)]; omega
            have hPk2 : PkR m T (q + 1) p fr mu (up a p t) := by
              have hcm : Cm m T q (p + 1) (up fr t (fr t - 1)) (up mu t (mu t - 1)) := by
                have : ∀ (q : Nat) (p : Int) (fr mu : Int → Int), PkR m T q p fr mu a → Cm m T q p fr mu := by
                  intro q
                  induction q with
                  | zero => intro p fr mu h; exact h
                  | succ q ihq => intro p fr mu h; exact ⟨a p, h.1.1, h.1.2⟩
                exact this _ _ _ _ hPk
              have hco : ∀ (q : Nat) (p2 : Int) (fr mu : Int → Int), p < p2 → PkR m T q p2 fr mu a → PkR m T q p2 fr mu (up a p t) := by
                intro q
                induction q with
                | zero => intro p2 fr mu _ h; exact h
                | succ q ihq =>
                  intro p2 fr mu hp h
                  have e1 : up a p t p2 = a p2 := up_n (by omega)
                  obtain ⟨h1, h2, h3⟩ := h
                  refine ⟨by rw [e1]; exact h1, by rw [e1]; exact h2, ?_⟩
                  rw [e1]
                  exact ihq (p2 + 1) _ _ (by omega) h3
              have e1 : up a p t p = t := up_s
              refine ⟨⟨by rw [e1]; exact ⟨t0, by omega, c, by omega⟩, by rw [e1]; exact hcm⟩, by rw [e1]; exact hno, ?_⟩
              rw [e1]
              exact hco _ _ _ _ (by omega) hPk
            refine inb_i t0 (by omega) (brF_i (by decide) (inb_i t0 (by omega) (brF_i (by decide) ?_)))
            have hb : -20 ≤ s2 403 t ∧ s2 403 t ≤ 30 := by
              rw [hpa t t0 (by omega)]
              have := sm_le (f := fun x => if (up a p t) x = t then 1 else 0) (lo := 0) (hi := 1) (q + 1) p 0 (fun j _ _ => by
                show 0 ≤ (if (up a p t) j = t then (1 : Int) else 0) ∧ (if (up a p t) j = t then (1 : Int) else 0) ≤ 1
                split <;> omega)
              omega
            rw [w32_id (x := s2 403 t - 0) (by omega) (by omega), show s2 403 t - 0 = s2 403 t by omega, st_same]
            refine k1 (up a p t) s2 hPk2 (fun x x0 x1 => ?_) hpa (fun b j z1 z2 => by rw [f3 b j (by omega) z2]; exact f2 b j z1 z2)
            by_cases y : x = p
            · rw [y, up_s]; exact e402
            · rw [up_n y]; exact y1 x (by omega) x1
          · have e403 : ∀ v, 0 ≤ v → v < m → s2 403 v = if v = t then am t - fr t + 1 else s 403 v := fun v v0 v1 => by
              rw [y1 v v0 v1]
              by_cases y : v = t
              · rw [y, st_self, if_pos rfl]
              · rw [st_ne (by omega), st_ne (by omega), if_neg y]; exact h1 v v0 v1
            have et := e403 t t0 (by omega)
            rw [if_pos rfl] at et
            refine inb_i t0 (by omega) (brT_i rfl (inb_i t0 (by omega) (brT_i rfl ?_)))
            rw [et, w32_id (x := am t - fr t + 1 - 1) (by omega) (by omega)]
            refine ihu (t + 1) _ (by omega) (by omega) (fun v v0 v1 => ?_) (next (fun w => hnc w.2)) (fun b j z1 z2 => by rw [st_ne (by omega), f3 b j (by omega) z2]; exact f2 b j z1 z2)
            by_cases y : v = t
            · rw [y, st_self, hut.1]; omega
            · rw [st_ne (by omega), e403 v v0 v1, if_neg y]
      exact l55 m.toNat 0 s (Int.le_refl 0) (by omega) (fun _ _ _ => rfl) (fun v a b => by omega) (fun _ _ _ _ => rfl)
