theorem M_swap_loop {d : Nat} {K : Int → Mem → Prop} {σ : Mem} {g q : Int} (g0 : 0 ≤ g) (g5 : g < 5) (hA : GA σ g) (hB : GB σ g) (k : ∀ s2 : Mem, (∀ b j, ¬ (379 ≤ b ∧ b ≤ 384) → s2 b j = σ b j) → K (if q = 0 then (swG σ g).2 else (swG σ g).1) s2) : ∀ s : Mem, LR s 379 (List.range (σ 357 g).toNat) → (∀ b j, ¬ (379 ≤ b ∧ b ≤ 384) → s b j = σ b j) → AW2 i_M_swap (d + 3) 23 [] [(0, (2, 356)), (1, (0, g)), (2, (0, q)), (3, (0, -1)), (4, (0, 0)), (5, (0, 1))] s K := by
  have hn := hA.1
  -- a state of the search: nothing found yet, or the best and its difference
  have step : ∀ (r : List (List Nat)) (L : List Nat) (best least : Int) (R : Int × Int) (s : Mem), CH (L :: r) → (L.length : Int) = σ 357 g → PM (L.length : Int) (oL L) → LR s 379 L → (∀ b j, ¬ (379 ≤ b ∧ b ≤ 384) → s b j = σ b j) → (best < 0 ∧ R.1 = 1000000 ∨ 0 ≤ best ∧ best = R.2 ∧ least = R.1 ∧ -27 ≤ R.1 ∧ R.1 ≤ 27) → swF (gpG σ g) (nbG σ g) (L :: r) R = swG σ g →
      (∀ (M : List Nat) (R2 : Int × Int), nxL L = some M → ∀ s2 : Mem, LR s2 379 M → (∀ b j, ¬ (379 ≤ b ∧ b ≤ 384) → s2 b j = σ b j) → 0 ≤ R2.2 → -27 ≤ R2.1 → R2.1 ≤ 27 → swF (gpG σ g) (nbG σ g) r R2 = swG σ g → AW2 i_M_swap (d + 3) 23 [] [(0, (2, 356)), (1, (0, g)), (2, (0, q)), (3, (0, R2.2)), (4, (0, R2.1)), (5, (0, 1))] s2 K) → (nxL L = none → r = []) →
      AW2 i_M_swap (d + 3) 23 [] [(0, (2, 356)), (1, (0, g)), (2, (0, q)), (3, (0, best)), (4, (0, least)), (5, (0, 1))] s K := by
    intro r L best least R s hC hl hPM hR f hb e cont hnil
    have fm : ∀ b j, 357 ≤ b → b ≤ 364 → s b j = σ b j := fun b j x y => f b j (by omega)
    have e7 : s 357 g = σ 357 g := fm _ _ (by omega) (by omega)
    have hgp := gpG_r hA hB hl hPM
    have hnb := nbG_0 (σ := σ) (g := g) (L := L)
    have hPI := dlL_PI (back := true) hA hl hPM
    have e' : swF (gpG σ g) (nbG σ g) r (if gpG σ g L < R.1 then (gpG σ g L, nbG σ g L) else R) = swG σ g := e
    -- the end of a turn: with what is the best now
    have tail : ∀ (R2 : Int × Int) (s2 : Mem), LR s2 379 L → (∀ b j, ¬ (379 ≤ b ∧ b ≤ 384) → s2 b j = σ b j) → 0 ≤ R2.2 → -27 ≤ R2.1 → R2.1 ≤ 27 → swF (gpG σ g) (nbG σ g) r R2 = swG σ g → inb g 6 (AM2 i_M_nextOrder (d + 2) [(2, 356), (0, s2 357 g)] s2 (fun w3 σ3 => AW2 i_M_swap (d + 3) 23 [] [(0, (2, 356)), (1, (0, g)), (2, (0, q)), (3, (0, R2.2)), (4, (0, R2.1)), (5, (0, w3))] σ3 K)) := by
      intro R2 s2 hR2 f2 r0 r1 r2 e2
      refine inb_i g0 (by omega) ?_
      rw [f2 357 g (by omega), ← hl]
      refine M_nextOrder_ok (by omega) hR2 (fun hno => ?_) (fun M s3 hM hR3 f3 => cont M R2 hM s3 hR3 (fun b j z => by rw [f3 b j (by omega), f2 b j z]) r0 r1 r2 e2)
      rw [hnil hno] at e2
      have e2 : R2 = swG σ g := e2
      have kk := k s2 f2
      rw [← e2] at kk
      refine s_M_swap_23 (brT_i rfl ⟨fun z => ?_, fun z => ?_⟩)
      · rw [if_pos z] at kk; exact kk
      · rw [if_neg z] at kk; exact kk
    have num : ∀ (s2 : Mem) (K2 : Int → Mem → Prop), LR s2 379 L → (∀ b j, ¬ (379 ≤ b ∧ b ≤ 384) → s2 b j = σ b j) → K2 (nbG σ g L) s2 → AM2 i_M_asDigits (d + 2) [(2, 356), (0, g)] s2 K2 := by
      intro s2 K2 hR2 f2 kk
      refine M_asDigits_ok (n := σ 357 g) g0 (by omega) (f2 _ _ (by omega)) (by omega) (by omega) (fun j a b => ?_) ?_
      · have := hPM j a (by omega)
        rw [hR2 j a (by omega)]; omega
      · rw [nbr_congr (f' := fun i => oL L i + 0) _ 0 0 (fun j a b => by
          show s2 379 j + 0 = oL L j + 0
          rw [hR2 j a (by omega)])]
        exact kk
    have lp : ∀ (m : Nat) (p hi lo : Int) (s2 : Mem), 0 ≤ p → p + m = σ 357 g → 0 ≤ hi → hi ≤ 27 → 0 ≤ lo → lo ≤ 1000000 → LR s2 379 L → (∀ b j, ¬ (379 ≤ b ∧ b ≤ 384) → s2 b j = σ b j) → MR s2 (σ 357 g) (σ 358 g) (dlG σ g (oL L) true) → mxf (fun p => pts (dlG σ g (oL L) true) (glv σ g p) p) m p hi - mnf (fun p => pts (dlG σ g (oL L) true) (glv σ g p) p) m p lo = gpG σ g L → AW2 i_M_swap (d + 3) 35 [] [(0, (2, 356)), (1, (0, g)), (2, (0, q)), (3, (0, best)), (4, (0, least)), (6, (0, hi)), (7, (0, lo)), (8, (0, p))] s2 K := by
      intro m
      induction m with
      | zero =>
        intro p hi lo s2 p0 e2 h0 h1 l0 l1 hR2 f2 hM eg
        have eg : hi - lo = gpG σ g L := eg
        refine s_M_swap_35 (inb_i g0 (by omega) ?_)
        rw [f2 357 g (by omega), eg, w32_id (x := gpG σ g L) (by omega) (by omega)]
        refine ⟨fun z => by omega, fun _ => ⟨fun z => ?_, fun z => ⟨fun z2 => ?_, fun z2 => ?_⟩⟩⟩
        · refine num s2 _ hR2 f2 ?_
          rw [if_pos (by omega)] at e'
          exact tail (gpG σ g L, nbG σ g L) s2 hR2 f2 hnb hgp.1 hgp.2 e'
        · refine num s2 _ hR2 f2 ?_
          rw [if_pos (by omega)] at e'
          exact tail (gpG σ g L, nbG σ g L) s2 hR2 f2 hnb hgp.1 hgp.2 e'
        · obtain ⟨b0, b1, b2, b3, b4⟩ := hb.resolve_left (fun y => z y.1)
          rw [if_neg (by omega)] at e'
          have := tail R s2 hR2 f2 (by omega) b3 b4 e'
          rw [← b1, ← b2, f2 357 g (by omega)] at this
          exact this
      | succ m ih =>
        intro p hi lo s2 p0 e2 h0 h1 l0 l1 hR2 f2 hM eg
        have eg : mxf (fun p => pts (dlG σ g (oL L) true) (glv σ g p) p) m (p + 1) (maxI hi (pts (dlG σ g (oL L) true) (glv σ g p) p)) - mnf (fun p => pts (dlG σ g (oL L) true) (glv σ g p) p) m (p + 1) (minI lo (pts (dlG σ g (oL L) true) (glv σ g p) p)) = gpG σ g L := eg
        have hq := pts_r (S := dlG σ g (oL L) true) (lv := glv σ g p) (p := p) (m := σ 358 g) (fun i i0 i1 => hPI.1.2 p i p0 (by omega) i0 i1) (hPI.2 p p0 (by omega)) (fun t t0 t1 => (hB.2 p t p0 (by omega) t0 t1).2)
        refine s_M_swap_35 (inb_i g0 (by omega) ?_)
        rw [f2 357 g (by omega)]
        refine ⟨fun _ => M_pointsOf_ok (lv := glv σ g p) g0 (by omega) (n := σ 357 g) (m := σ 358 g) (by omega) (by omega) (f2 _ _ (by omega)) hM hPI.1 p0 (by omega) (hPI.2 p p0 (by omega)) (fun t t0 t1 => ?_) ?_, fun z => by omega⟩
        · rw [f2 _ _ (by omega)]; exact ⟨rfl, (hB.2 p t p0 (by omega) t0 t1).2⟩
        · generalize pts (dlG σ g (oL L) true) (glv σ g p) p = v at *
          rw [w32_id (by omega) (by omega)]
          unfold maxI minI at eg
          refine ⟨fun c => ⟨fun c2 => ?_, fun c2 => ?_⟩, fun c => ⟨fun c2 => ?_, fun c2 => ?_⟩⟩
          · rw [if_pos c, if_pos c2] at eg; exact ih (p + 1) v v s2 (by omega) (by omega) (by omega) (by omega) (by omega) (by omega) hR2 f2 hM eg
          · rw [if_pos c, if_neg c2] at eg; exact ih (p + 1) v lo s2 (by omega) (by omega) (by omega) (by omega) (by omega) (by omega) hR2 f2 hM eg
          · rw [if_neg c, if_pos c2] at eg; exact ih (p + 1) hi v s2 (by omega) (by omega) (by omega) (by omega) (by omega) (by omega) hR2 f2 hM eg
          · rw [if_neg c, if_neg c2] at eg; exact ih (p + 1) hi lo s2 (by omega) (by omega) (by omega) (by omega) (by omega) (by omega) hR2 f2 hM eg
    have hLo : LGo (σ 357 g) (σ 358 g) (gls σ g) (gsz σ g) := (GA_L hA).1
    refine s_M_swap_23 (brF_i (by decide) ?_)
    refine M_runs_ok (R := σ 359 g) (am := gam σ g) (o := oL L) (back := true) g0 (by omega) (n := σ 357 g) (m := σ 358 g) (by omega) (by omega) (by omega) e7 (fm _ _ (by omega) (by omega)) (fm _ _ (by omega) (by omega)) hLo ⟨fun p p0 p1 => fm _ _ (by omega) (by omega), fun p i p0 p1 i0 i1 => fm _ _ (by omega) (by omega)⟩ (fun t t0 t1 => ⟨fm _ _ (by omega) (by omega), (hA.2.2.1 t t0 t1).2⟩) (fun j j0 j1 => hR j j0 (by omega)) (by rw [← hl]; exact hPM) rfl (fun s2 h2 f2 => ?_)
    exact lp (σ 357 g).toNat 0 0 1000000 s2 (Int.le_refl 0) (by omega) (Int.le_refl 0) (by decide) (by decide) (by decide) (fun j a b => by rw [f2 _ _ (by omega)]; exact hR j a b) (fun b j z => by rw [f2 b j (by omega), f b j z]) h2 rfl
  have go : ∀ (r : List (List Nat)) (L : List Nat) (best least : Int) (R : Int × Int) (s : Mem), CH (L :: r) → (L.length : Int) = σ 357 g → PM (L.length : Int) (oL L) → LR s 379 L → (∀ b j, ¬ (379 ≤ b ∧ b ≤ 384) → s b j = σ b j) → (best < 0 ∧ R.1 = 1000000 ∨ 0 ≤ best ∧ best = R.2 ∧ least = R.1 ∧ -27 ≤ R.1 ∧ R.1 ≤ 27) → swF (gpG σ g) (nbG σ g) (L :: r) R = swG σ g → AW2 i_M_swap (d + 3) 23 [] [(0, (2, 356)), (1, (0, g)), (2, (0, q)), (3, (0, best)), (4, (0, least)), (5, (0, 1))] s K := by
    intro r
    induction r with
    | nil =>
      intro L best least R s hC hl hPM hR f hb e
      exact step [] L best least R s hC hl hPM hR f hb e (fun L' _ h => by have hC : nxL L = none := hC; rw [hC] at h; cases h) (fun _ => rfl)
    | cons L' r ih =>
      intro L best least R s hC hl hPM hR f hb e
      have hC : nxL L = some L' ∧ CH (L' :: r) := hC
      refine step (L' :: r) L best least R s hC hl hPM hR f hb e (fun M R2 h s2 x2 f2 w q0 q1 e2 => ?_) (fun h => by rw [hC.1] at h; cases h)
      rw [hC.1] at h
      cases h
      exact ih L' R2.2 R2.1 R2 s2 hC.2 (by rw [nxL_len hC.1]; exact hl) (nxL_PM hPM hC.1) x2 f2 (Or.inr ⟨w, rfl, rfl, q0, q1⟩) e2
  obtain ⟨r, e1, e2, e3⟩ := pm_CH (σ 357 g).toNat (by omega)
  intro s hR f
  refine go r (List.range (σ 357 g).toNat) (-1) 0 (1000000, -1) s e2 (by rw [List.length_range]; omega) (by rw [List.length_range]; exact range_PM _) hR f (Or.inl ⟨by decide, rfl⟩) ?_
  unfold swG
  rw [e1]
def SwE (σ σ2 : Mem) (g : Int) : Prop := ∀ b j, ¬ b = 304 → ¬ (285 ≤ b ∧ b ≤ 303) → ¬ (b = 4 + 43 * g ∧ 10 ≤ j ∧ j ≤ 12) → ¬ (379 ≤ b ∧ b ≤ 384) → σ2 b j = σ b j
theorem I_swap_fr {σ s : Mem} (f : ∀ b j, 357 ≤ b → b ≤ 364 → s b j = σ b j) (f2 : ∀ g j, 0 ≤ g → g < 5 → 10 ≤ j → j ≤ 12 → s (4 + 43 * g) j = σ (4 + 43 * g) j) (e : s 356 0 = σ 356 0) (hI : σ 356 0 ≤ 5) (h : I_swap σ) : I_swap s := by
  intro g g0 g1
  rw [f2 g 10 g0 (by omega) (by decide) (by decide), f2 g 11 g0 (by omega) (by decide) (by decide), f2 g 12 g0 (by omega) (by decide) (by decide), swG_fr f]
  exact h g g0 (by omega)
theorem call_swap {d : Nat} {σ : Mem} {g q : Int} {P : Int → Int → Mem → Prop} (hI : I_giv σ) (hS : I_swap σ) (h : ∀ r σ2, (σ2 = σ ∨ (0 ≤ g ∧ g < σ 356 0 ∧ SwE σ σ2 g)) → I_swap σ2 → P r r σ2) :
    AM2 i_X_swap (d + 5) [(2, 0), (0, g), (0, q)] σ (fun w1 σ1 => AM2 i_M_swap (d + 5) [(2, 356), (0, g), (0, q)] σ1 (fun w2 σ2 => P w1 w2 σ2)) := by
  have hh := h (-1) σ (Or.inl rfl) hS
  have bad : ¬ ((0 ≤ g ∧ g < σ 356 0) ∧ (q = 0 ∨ q = 1)) → AM2 i_M_swap (d + 5) [(2, 356), (0, g), (0, q)] σ (fun w2 σ2 => P (-1) w2 σ2) := fun c =>
    e_M_swap fun _ _ => Mg hI (fun a _ b _ _ _ => br1 (M_in_ok (fun x y => absurd ⟨⟨a, b⟩, by omega⟩ c) (fun _ => br0 hh))) (fun _ => br0 hh)
  refine e_X_swap fun _ _ => Xg hI (fun g0 g5 g1 hA hB hC => br1 (X_isNoSide_ok (fun hq => br0 (inb_i g0 g5 ?_)) (fun hq => br1 (bad (fun z => hq z.2))))) (fun c => br0 (bad (fun z => c z.1)))
  have hn := hA.1
  have ck := fun {P : Prop} => ck_g (P := P) g0 (show g ≤ 5 by omega)
  -- the model, from what the class has left
  have mo : ∀ (s : Mem) (v : Int), (∀ b j, ¬ b = 304 → ¬ (285 ≤ b ∧ b ≤ 303) → ¬ (b = 4 + 43 * g ∧ 10 ≤ j ∧ j ≤ 12) → s b j = σ b j) → s (4 + 43 * g) 10 = 1 → s (4 + 43 * g) 11 = (swG σ g).2 → s (4 + 43 * g) 12 = (swG σ g).1 → v = (if q = 0 then (swG σ g).2 else (swG σ g).1) → AM2 i_M_swap (d + 5) [(2, 356), (0, g), (0, q)] s (fun w2 σ2 => P v w2 σ2) := by
    intro s v f w1 w2 w3 hv
    have fm : ∀ b j, 341 ≤ b → s b j = σ b j := fun b j x => f b j (by omega) (by omega) (by omega)
    have hAs : GA s g := GA_fr (fun b j z => f b j (by unfold fA at z; omega) (by unfold fA at z; omega) (by unfold fA at z; omega)) hA
    have hBs : GB s g := GB_fr (by omega) (fun b j z => f b j (by unfold fB at z; omega) (by unfold fB at z; omega) (by unfold fB at z; omega)) hB
    have hq2 := giv_P2 (σ1 := s) hI (fun b j x y => fm b j (by omega))
    have e0 : mG s = σ 356 0 := fm _ _ (by omega)
    have e7 : s 357 g = σ 357 g := fm _ _ (by omega)
    have esw : swG s g = swG σ g := swG_fr (fun b j x y => fm b j (by omega))
    refine e_M_swap fun _ _ => M_isGiving_ok hq2.1 (fun _ _ => br1 (M_in_ok (fun _ _ => br1 (inb_i g0 (by omega) ?_)) (fun z => absurd ⟨by omega, by omega⟩ z))) (fun z => absurd ⟨g0, by omega⟩ z)
    rw [show s 357 g = (((s 357 g).toNat : Nat) : Int) by omega]
    refine M_firstOrder_ok (by omega) (fun s2 x2 f2 => ?_)
    have fs2 : ∀ b j, ¬ (379 ≤ b ∧ b ≤ 384) → s2 b j = s b j := fun b j z => f2 b j (by omega)
    refine M_swap_loop g0 g5 hAs hBs (fun s3 f3 => ?_) s2 x2 fs2
    rw [esw, ← hv]
    have fe : SwE σ s3 g := fun b j y1 y2 y3 y4 => by rw [f3 b j y4, f b j y1 y2 y3]
    refine h _ _ (Or.inr ⟨g0, g1, fe⟩) (fun x x0 x1 => ?_)
    have e0' : s3 356 0 = σ 356 0 := fe _ _ (by omega) (by omega) (by omega) (by omega)
    have hi5 := hI.2.2.1
    rw [swG_fr (σ := σ) (s := s3) (fun b j y z => fe b j (by omega) (by omega) (by omega) (by omega))]
    by_cases c : x = g
    · subst c
      right
      rw [f3 _ _ (by omega), f3 _ _ (by omega), f3 _ _ (by omega)]
      exact ⟨w1, w2, w3⟩
    · rw [fe _ 10 (by omega) (by omega) (by omega) (by omega), fe _ 11 (by omega) (by omega) (by omega) (by omega), fe _ 12 (by omega) (by omega) (by omega) (by omega)]
      exact hS x x0 (by omega)
  rw [pt3 g0 g5, ck]
  refine ⟨fun c => findSwap_ok g0 g5 hA hB (fun s w1 w2 w3 f => ⟨fun z => ?_, fun z => ?_⟩), fun c => ⟨fun z => ?_, fun z => ?_⟩⟩
  · rw [ck]; exact mo s _ f w1 w2 w3 (by rw [if_pos z, w2])
  · rw [ck]; exact mo s _ f w1 w2 w3 (by rw [if_neg z, w3])
  · rw [ck]
    obtain ⟨w1, w2, w3⟩ := (hS g g0 g1).resolve_left c
    exact mo σ _ (fun _ _ _ _ _ => rfl) w1 w2 w3 (by rw [if_pos z, w2])
  · rw [ck]
    obtain ⟨w1, w2, w3⟩ := (hS g g0 g1).resolve_left c
    exact mo σ _ (fun _ _ _ _ _ => rfl) w1 w2 w3 (by rw [if_neg z, w3])
