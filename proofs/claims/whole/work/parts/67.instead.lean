-- ===== instead
/-- how many hold a thing, one person aside -/
def hcI (σ : Mem) (g a t : Int) : Int := sm (fun v => if ¬ v = a ∧ σ 361 (7 * g + v) = t then 1 else 0) (σ 357 g).toNat 0 0
/-- the list read instead -/
def rdI (σ : Mem) (g a : Int) := rdL (σ 367) (σ 356 13) (σ 358 g) (fun t => σ 360 (8 * g + t)) (hcI σ g a) 0
def InX (s σ : Mem) (g a n : Int) : Prop := (s (4 + 43 * n) 0 = σ (4 + 43 * g) 0 ∧ s (4 + 43 * n) 1 = σ (4 + 43 * g) 1 ∧ s (4 + 43 * n) 2 = σ (4 + 43 * g) 2) ∧ (∀ t, 0 ≤ t → t < 8 → s (5 + 43 * n) t = σ (5 + 43 * g) t) ∧
  (∀ p, 0 ≤ p → p < 7 → ¬ p = a → s (6 + 43 * n) p = σ (6 + 43 * g) p ∧ s (7 + 43 * n) p = σ (7 + 43 * g) p) ∧ (∀ p i, 0 ≤ p → p < 7 → ¬ p = a → 0 ≤ i → i < 8 → s (9 + 43 * n + p) i = σ (9 + 43 * g + p) i ∧ s (17 + 43 * n + p) i = σ (17 + 43 * g + p) i) ∧ (∀ p i, 0 ≤ p → p < 7 → 0 ≤ i → i < 8 → s (25 + 43 * n + p) i = σ (25 + 43 * g + p) i) ∧ RLX s n a (rdI σ g a) ∧ (∀ k, 0 ≤ k → k < 7 → s (33 + 43 * n + 2 * k) 2 = 0) ∧ s (4 + 43 * n) 10 = 0
def InM (s σ : Mem) (g a n : Int) : Prop := (s 357 n = σ 357 g ∧ s 358 n = σ 358 g ∧ s 359 n = σ 359 g) ∧ (∀ t, 0 ≤ t → t < 8 → s 360 (8 * n + t) = σ 360 (8 * g + t)) ∧
  (∀ p, 0 ≤ p → p < 7 → ¬ p = a → s 361 (7 * n + p) = σ 361 (7 * g + p) ∧ s 362 (7 * n + p) = σ 362 (7 * g + p)) ∧ (∀ p i, 0 ≤ p → p < 7 → ¬ p = a → 0 ≤ i → i < 8 → s 363 (56 * n + 8 * p + i) = σ 363 (56 * g + 8 * p + i) ∧ s 364 (56 * n + 8 * p + i) = σ 364 (56 * g + 8 * p + i)) ∧ (∀ p i, 0 ≤ p → p < 7 → 0 ≤ i → i < 8 → s 365 (56 * n + 8 * p + i) = σ 365 (56 * g + 8 * p + i)) ∧ RLM s (7 * n + a) (rdI σ g a)
/-- a new giving's invariants -/
theorem In_new {s σ : Mem} {g a n : Int} (g0 : 0 ≤ g) (n0 : 0 ≤ n) (a0 : 0 ≤ a) (a1 : a < σ 357 g) (hA : GA σ g) (hB : GB σ g) (hC : GC σ g) (hw : GW σ g) (hL : 0 ≤ σ 356 13) (hQ : (rdI σ g a).1 = true) (hx : InX s σ g a n) (hm : InM s σ g a n) : (GA s n ∧ GB s n ∧ GC s n) ∧ GW s n := by
  obtain ⟨x1, x2, x3, x4, x5, ⟨x6, x7, x8, x9⟩, -, -⟩ := hx
  obtain ⟨m1, m2, m3, m4, m5, ⟨m6, m7, m8, m9⟩⟩ := hm
  obtain ⟨A1, A2, A3, A4, A5⟩ := hA
  obtain ⟨B1, B2⟩ := hB
  have hr := (rdL_r (T := σ 367) (L := σ 356 13) (m := σ 358 g) (p := 0) (am := fun t => σ 360 (8 * g + t)) (hc := hcI σ g a) (by omega) (Int.le_refl 0) hL).1 hQ
  have hr : GWl (σ 358 g) (rdI σ g a).2.2.2.1 (rdI σ g a).2.2.2.2.1 (rdI σ g a).2.2.2.2.2 ∧ ((rdI σ g a).2.2.1 = -1 ∨ (0 ≤ (rdI σ g a).2.2.1 ∧ (rdI σ g a).2.2.1 < σ 358 g ∧ hcI σ g a (rdI σ g a).2.2.1 < σ 360 (8 * g + (rdI σ g a).2.2.1))) := hr
  generalize rdI σ g a = Q at *
  obtain ⟨q1, q2⟩ := hr
  have hz := q1.1
  rw [show 8 * (7 * n + a) = 56 * n + 8 * a by omega] at m8 m9
  have lvb : ∀ t, 0 ≤ t → t < σ 358 g → -1 ≤ Q.2.2.2.2.2 t ∧ Q.2.2.2.2.2 t ≤ 7 := fun t t0 t1 => by
    refine ⟨q1.2.2.2.2.1 t t0 t1, ?_⟩
    by_cases y : 0 ≤ Q.2.2.2.2.2 t
    · obtain ⟨i, i0, i1, e⟩ := q1.2.2.2.2.2 t t0 t1 y
      have := (q1.2.1 i i0 i1).2.2
      rw [e] at this
      omega
    · omega
  refine ⟨⟨⟨by omega, by omega, fun t t0 t1 => ?_, fun p p0 p1 => ?_, fun p i p0 p1 i0 i1 => ?_⟩, ⟨fun p p0 p1 => ?_, fun p t p0 p1 t0 t1 => ?_⟩, fun p t p0 p1 t0 t1 => ?_⟩, ⟨fun p p0 p1 => ?_, fun t t0 t1 => ?_⟩⟩
  · rw [m1.2.1] at t1
    rw [x2 t t0 (by omega), m2 t t0 (by omega)]; exact A3 t t0 t1
  · rw [m1.1] at p1
    by_cases z : p = a
    · rw [z, x7, m7]; exact ⟨rfl, by omega, by omega⟩
    · rw [(x3 p p0 (by omega) z).2, (m3 p p0 (by omega) z).2]; exact A4 p p0 p1
  · rw [m1.1] at p1
    rw [m1.2.1]
    by_cases z : p = a
    · rw [z] at i1 ⊢
      rw [m7] at i1
      rw [x8 i i0 i1, m8 i i0 i1]
      exact ⟨rfl, (q1.2.1 i i0 i1).1.1, (q1.2.1 i i0 i1).1.2⟩
    · rw [(m3 p p0 (by omega) z).2] at i1
      have h4 := A4 p p0 p1
      rw [(x4 p i p0 (by omega) z i0 (by omega)).1, (m4 p i p0 (by omega) z i0 (by omega)).1]; exact A5 p i p0 p1 i0 i1
  · rw [m1.1] at p1
    rw [m1.2.1]
    by_cases z : p = a
    · rw [z, x6, m6]; exact ⟨rfl, by omega, by omega⟩
    · rw [(x3 p p0 (by omega) z).1, (m3 p p0 (by omega) z).1]; exact B1 p p0 p1
  · rw [m1.1] at p1
    rw [m1.2.1] at t1
    by_cases z : p = a
    · rw [z, x9 t t0 (by omega), m9 t t0 (by omega)]
      exact ⟨rfl, lvb t t0 t1⟩
    · rw [(x4 p t p0 (by omega) z t0 (by omega)).2, (m4 p t p0 (by omega) z t0 (by omega)).2]; exact B2 p t p0 p1 t0 t1
  · rw [m1.1] at p1
    rw [m1.2.1] at t1
    rw [x5 p t p0 (by omega) t0 (by omega), m5 p t p0 (by omega) t0 (by omega)]; exact hC p t p0 p1 t0 t1
  · rw [m1.1] at p1
    rw [m1.2.1]
    by_cases z : p = a
    · rw [z, m7]
      exact GWl_congr (fun i i0 i1 => m8 i i0 i1) (fun t t0 t1 => m9 t t0 (by omega)) q1
    · rw [(m3 p p0 (by omega) z).2]
      have h4 := A4 p p0 p1
      exact GWl_congr (fun i i0 i1 => (m4 p i p0 (by omega) z i0 (by omega)).1) (fun t t0 t1 => (m4 p t p0 (by omega) z t0 (by omega)).2) (hw.1 p p0 p1)
  · rw [m1.2.1] at t1
    rw [m1.1, m2 t t0 (by omega)]
    have h1 := hw.2 t t0 t1
    rw [sm_set (f := fun v => if σ 361 (7 * g + v) = t then 1 else 0) (f' := fun v => if ¬ v = a ∧ σ 361 (7 * g + v) = t then 1 else 0) (d := a) (σ 357 g).toNat 0 0 a0 (by omega) (fun j _ _ e => by
      by_cases y : σ 361 (7 * g + j) = t
      · show (if σ 361 (7 * g + j) = t then (1 : Int) else 0) = if ¬ j = a ∧ σ 361 (7 * g + j) = t then 1 else 0
        rw [if_pos y, if_pos ⟨e, y⟩]
      · show (if σ 361 (7 * g + j) = t then (1 : Int) else 0) = if ¬ j = a ∧ σ 361 (7 * g + j) = t then 1 else 0
        rw [if_neg y, if_neg (fun w => y w.2)])] at h1
    rw [sm_set (f := fun v => if s 361 (7 * n + v) = t then 1 else 0) (f' := fun v => if ¬ v = a ∧ σ 361 (7 * g + v) = t then 1 else 0) (d := a) (σ 357 g).toNat 0 0 a0 (by omega) (fun j j0 j1 e => by
      show (if s 361 (7 * n + j) = t then (1 : Int) else 0) = if ¬ j = a ∧ σ 361 (7 * g + j) = t then 1 else 0
      rw [(m3 j j0 (by omega) e).1]
      by_cases y : σ 361 (7 * g + j) = t
      · rw [if_pos y, if_pos ⟨e, y⟩]
      · rw [if_neg y, if_neg (fun w => y w.2)])]
    have h2 : hcI σ g a t + (if σ 361 (7 * g + a) = t then (1 : Int) else 0) - (if ¬ a = a ∧ σ 361 (7 * g + a) = t then (1 : Int) else 0) ≤ σ 360 (8 * g + t) := h1
    show hcI σ g a t + (if s 361 (7 * n + a) = t then (1 : Int) else 0) - (if ¬ a = a ∧ σ 361 (7 * g + a) = t then (1 : Int) else 0) ≤ σ 360 (8 * g + t)
    have hn : ¬ (¬ a = a ∧ σ 361 (7 * g + a) = t) := fun w => w.1 rfl
    rw [if_neg hn] at h2 ⊢
    rw [m6]
    have h3 : (0 : Int) ≤ (if σ 361 (7 * g + a) = t then (1 : Int) else 0) := by split <;> omega
    by_cases y : Q.2.2.1 = t
    · rw [if_pos y]
      rw [y] at q2
      omega
    · rw [if_neg y]; omega
theorem call_instead {d : Nat} {σ : Mem} {g a : Int} {P : Int → Int → Mem → Prop} (hI : I_giv σ) (hw : I_GW σ) (hT : I_tape σ) (h : ∀ r σ2, NewE σ σ2 → I_giv σ2 → I_GW σ2 → I_tape σ2 → P r r σ2) :
    AM2 i_X_instead (d + 5) [(2, 0), (0, g), (0, a)] σ (fun w1 σ1 => AM2 i_M_instead (d + 5) [(2, 356), (0, g), (0, a)] σ1 (fun w2 σ2 => P w1 w2 σ2)) := by
  obtain ⟨c0, n0, n5, hg⟩ := id hI
  obtain ⟨t1, t2, t3, t4⟩ := id hT
  have hh : ∀ r, P r r σ := fun r => h r σ ⟨Or.inl rfl, fun _ _ _ _ _ _ _ _ _ => rfl⟩ hI hw hT
  have bad : ¬ ((0 ≤ g ∧ g < σ 356 0) ∧ 0 ≤ a ∧ a < σ 357 g) → AM2 i_M_instead (d + 5) [(2, 356), (0, g), (0, a)] σ (fun w2 σ2 => P (-1) w2 σ2) := fun c => by
    exact e_M_instead fun _ _ => Mp hI (fun u _ v x y _ _ _ _ => absurd ⟨⟨u, v⟩, x, y⟩ c) (fun _ => br0 (hh (-1)))
  refine e_X_instead fun _ _ => Xg hI (fun g0 g5 g1 hA hB hC => br1 ?_) (fun z => br0 (bad (fun c => z c.1)))
  refine inb_i g0 g5 ?_
  rw [pt3 g0 g5]
  refine X_isPerson_ok g0 (by omega) (fun a0 a1 => br1 ?_) (fun z => br0 (bad (fun c => z (by rw [hA.2.1.1]; exact c.2))))
  rw [hA.2.1.1] at a1
  refine ⟨fun c => ?_, fun c => e_M_instead fun _ _ => Mp hI (fun _ _ _ _ _ _ _ _ _ => br1 (brT_i (by omega) (hh (-3)))) (fun z => absurd ⟨⟨g0, g1⟩, a0, a1⟩ z)⟩
  rw [c0]
  rw [c0] at c
  have ck := fun {P : Prop} => ck_g (P := P) n0 n5
  rw [pt3 n0 c]
  generalize hn : σ 356 0 = n at *
  have hend : 0 ≤ (rdI σ g a).2.1 ∧ (rdI σ g a).2.1 ≤ σ 356 13 := (rdL_r (T := σ 367) (L := σ 356 13) (m := σ 358 g) (p := 0) (am := fun t => σ 360 (8 * g + t)) (hc := hcI σ g a) (by have := hA.1; omega) (Int.le_refl 0) t2).2
  -- the model, on both ways of the class
  have mo : ∀ (s : Mem) (v : Int), (∀ b j, 356 ≤ b → s b j = σ b j) → ((rdI σ g a).1 = true → (rdI σ g a).2.1 = σ 356 13 → ∀ s2 : Mem, InM s2 σ g a n → s2 356 0 = n + 1 → s2 356 13 = 0 → (∀ b j, ¬ fCM n b j → ¬ (b = 356 ∧ (j = 0 ∨ j = 13 ∨ j = 31)) → s2 b j = s b j) → P v n s2) →
      (¬ ((rdI σ g a).1 = true ∧ (rdI σ g a).2.1 = σ 356 13) → ∀ s2 : Mem, s2 356 13 = 0 → (∀ b j, ¬ fCM n b j → ¬ (b = 356 ∧ (j = 13 ∨ j = 31)) → s2 b j = s b j) → P v (-100 - (rdI σ g a).2.1) s2) → AM2 i_M_instead (d + 5) [(2, 356), (0, g), (0, a)] s (fun w2 σ2 => P v w2 σ2) := by
    intro s v f k1 k0
    have hp := giv_P hI
    have h56 : ∀ j, s 356 j = σ 356 j := fun j => f _ _ (by omega)
    refine e_M_instead fun _ _ => M_isPerson_ok (σ := s) (by unfold mG; rw [h56, hn]; exact ⟨n0, n5⟩) (fun x x0 x1 => by rw [f 357 x (by omega)]; exact hp.2.1 x x0 (by unfold mG at x1 ⊢; rw [← h56]; exact x1)) (fun _ _ _ _ => br1 (brF_i (by rw [h56]; omega) ?_)) (fun z => absurd ⟨⟨g0, by unfold mG; rw [h56, hn]; exact g1⟩, a0, by rw [f _ _ (by omega)]; exact a1⟩ z)
    rw [h56, hn]
    refine M_copies_ok (d := d + 3) g0 (by omega) n0 (by omega) (by omega) (fun s2 ⟨y1, y2, y3, y4⟩ f2 => ?_)
    have e0 : ∀ j, s2 356 j = σ 356 j := fun j => by rw [f2 _ _ (by unfold fCM; omega)]; exact h56 j
    rw [show st s2 356 31 0 356 0 = n by rw [st_ne (by omega), e0, hn]]
    have Q0 : rdL (σ 367) (σ 356 13) (σ 358 g) (fun t => σ 360 (8 * g + t)) (hcI σ g a) 0 = rdI σ g a := rfl
    refine M_readsList_ok (d := d + 1) (T := σ 367) (L := σ 356 13) (m := σ 358 g) (n := σ 357 g) (q := 0) (am := fun t => σ 360 (8 * g + t)) (hc := hcI σ g a) n0 (by omega) a0 (by have := hA.1; omega) (by have := hA.1; omega) (by have := hA.1; omega) ⟨by rw [st_ne (by omega), e0], ⟨t2, t3⟩, fun i u v => ⟨by rw [st_ne (by omega), f2 _ _ (by unfold fCM; omega)]; exact f _ _ (by omega), (t4 i u v).2⟩⟩ (st_self _ _ _ _) (Int.le_refl 0) t2 (by rw [st_ne (by omega), y1.2.1]; exact f _ _ (by omega)) (by rw [st_ne (by omega), y1.1]; exact f _ _ (by omega)) (fun t u v => by rw [st_ne (by omega), y2 t u (by have := hA.1; omega)]; exact f _ _ (by omega)) (fun t u v => sm_congr _ 0 0 (fun j j0 j1 => by
      show (if ¬ j = a ∧ st s2 356 31 0 361 (7 * n + j) = t then (1 : Int) else 0) = if ¬ j = a ∧ σ 361 (7 * g + j) = t then 1 else 0
      rw [st_ne (by omega), (y3 j j0 (by have := hA.1; omega)).1, f _ _ (by omega)])) (fun s3 x1 x2 x3 f3 => br1 ?_) (fun s3 x1 x2 f3 => br0 ?_)
    · rw [Q0] at x1 x2 x3
      have e3 : s3 356 13 = σ 356 13 := by rw [f3 _ _ (by unfold fLM; omega), st_ne (by omega), e0]
      refine ⟨fun c1 => ⟨fun y => absurd y (by decide), fun _ => ?_⟩, fun c1 => ⟨fun _ => ?_, fun y => absurd rfl y⟩⟩
      · rw [e3, x2] at c1
        rw [show st s3 356 13 0 356 0 = n by rw [st_ne (by omega), f3 _ _ (by unfold fLM; omega), st_ne (by omega), e0, hn], st_self, w32_id (x := n + 1) (by omega) (by omega), w32_id (x := n + 1 - 1) (by omega) (by omega), show n + 1 - 1 = n by omega]
        have f5 : ∀ b j, ¬ (b = 356 ∧ (j = 0 ∨ j = 13 ∨ j = 31)) → ¬ fLM (7 * n + a) b j → st (st s3 356 13 0) 356 0 (n + 1) b j = s2 b j := fun b j z1 z2 => by rw [st_ne (by omega), st_ne (by omega), f3 b j z2, st_ne (by omega)]
        obtain ⟨r1, r2, r3, r4⟩ := x3
        refine k1 x1 c1 _ ⟨⟨?_, ?_, ?_⟩, fun t u v => ?_, fun p u v z => ⟨?_, ?_⟩, fun p i u v z i0 i1 => ⟨?_, ?_⟩, fun p i u v i0 i1 => ?_, ⟨?_, ?_, fun i i0 i1 => ?_, fun t u v => ?_⟩⟩ (st_self _ _ _ _) (by rw [st_ne (by omega), st_self]) (fun b j z1 z2 => ?_)
        · rw [f5 _ _ (by omega) (by unfold fLM; omega), y1.1]; exact f _ _ (by omega)
        · rw [f5 _ _ (by omega) (by unfold fLM; omega), y1.2.1]; exact f _ _ (by omega)
        · rw [f5 _ _ (by omega) (by unfold fLM; omega), y1.2.2]; exact f _ _ (by omega)
        · rw [f5 _ _ (by omega) (by unfold fLM; omega), y2 t u v]; exact f _ _ (by omega)
        · rw [f5 _ _ (by omega) (by unfold fLM; omega), (y3 p u v).1]; exact f _ _ (by omega)
        · rw [f5 _ _ (by omega) (by unfold fLM; omega), (y3 p u v).2]; exact f _ _ (by omega)
        · rw [f5 _ _ (by omega) (by unfold fLM; omega), show 56 * n + 8 * p + i = 56 * n + (8 * p + i) by omega, (y4 (8 * p + i) (by omega) (by omega)).1, show 56 * g + 8 * p + i = 56 * g + (8 * p + i) by omega]; exact f _ _ (by omega)
        · rw [f5 _ _ (by omega) (by unfold fLM; omega), show 56 * n + 8 * p + i = 56 * n + (8 * p + i) by omega, (y4 (8 * p + i) (by omega) (by omega)).2.1, show 56 * g + 8 * p + i = 56 * g + (8 * p + i) by omega]; exact f _ _ (by omega)
        · rw [f5 _ _ (by omega) (by unfold fLM; omega), show 56 * n + 8 * p + i = 56 * n + (8 * p + i) by omega, (y4 (8 * p + i) (by omega) (by omega)).2.2, show 56 * g + 8 * p + i = 56 * g + (8 * p + i) by omega]; exact f _ _ (by omega)
        · rw [st_ne (by omega), st_ne (by omega)]; exact r1
        · rw [st_ne (by omega), st_ne (by omega)]; exact r2
        · rw [st_ne (by omega), st_ne (by omega)]; exact r3 i i0 i1
        · rw [st_ne (by omega), st_ne (by omega)]; exact r4 t u v
        · have z3 := z1
          unfold fCM at z3
          have ha7 : a < 7 := by have := hA.1; omega
          rw [f5 b j z2 (by unfold fLM; omega)]; exact f2 b j z1
      · rw [e3, x2] at c1
        rw [show st s3 356 13 0 356 31 = (rdI σ g a).2.1 by rw [st_ne (by omega)]; exact x2, w32_id (by omega) (by omega)]
        refine k0 (fun c => c1 c.2) _ (st_self _ _ _ _) (fun b j z1 z2 => ?_)
        have z3 := z1
        unfold fCM at z3
        have ha7 : a < 7 := by have := hA.1; omega
        rw [st_ne (by omega), f3 b j (by unfold fLM; omega), st_ne (by omega)]; exact f2 b j z1
    · rw [Q0] at x1 x2
      refine ⟨fun _ => ?_, fun y => absurd rfl y⟩
      rw [show st s3 356 13 0 356 31 = (rdI σ g a).2.1 by rw [st_ne (by omega)]; exact x2, w32_id (by omega) (by omega)]
      refine k0 (fun c => by rw [x1] at c; cases c.1) _ (st_self _ _ _ _) (fun b j z1 z2 => ?_)
      have z3 := z1
      unfold fCM at z3
      have ha7 : a < 7 := by have := hA.1; omega
      rw [st_ne (by omega), f3 b j (by unfold fLM; omega), st_ne (by omega)]; exact f2 b j z1
  have ha7 : a < 7 := by have := hA.1; omega
  have tape0 : ∀ s2 : Mem, s2 1 1 = 0 → s2 356 13 = 0 → I_tape s2 := fun s2 u v => ⟨by omega, by omega, by omega, fun i i0 i1 => by omega⟩
  -- what changes is of the new one
  have fin : ∀ s : Mem, (∀ b j, ¬ fNX n b j → ¬ b = 1 → ¬ (b = 0 ∧ j = 2) → s b j = σ b j) → ∀ s2 : Mem, (∀ b j, ¬ fCM n b j → ¬ (b = 356 ∧ (j = 0 ∨ j = 13 ∨ j = 31)) → s2 b j = s b j) → ∀ b j, ¬ b = 1 → ¬ (b = 0 ∧ j = 2) → ¬ (b = 356 ∧ (j = 0 ∨ j = 13 ∨ j = 31)) → ¬ fNX (σ 356 0) b j → ¬ fNM (σ 356 0) b j → ¬ (b = 359 ∧ j = σ 356 0) → ¬ (b = 365 ∧ 56 * σ 356 0 ≤ j ∧ j < 56 * σ 356 0 + 56) → s2 b j = σ b j := fun s f s2 f2 b j z1 z2 z3 z4 z5 z6 z7 => by
    rw [hn] at z4 z5 z6 z7
    unfold fNM at z5
    rw [f2 b j (by unfold fCM; omega) z3]; exact f b j z4 z1 z2
  have stop : ∀ s : Mem, (∀ b j, ¬ fNX n b j → ¬ b = 1 → ¬ (b = 0 ∧ j = 2) → s b j = σ b j) → s 1 1 = 0 → s 0 2 = n → ¬ ((rdI σ g a).1 = true ∧ (rdI σ g a).2.1 = σ 356 13) → AM2 i_M_instead (d + 5) [(2, 356), (0, g), (0, a)] s (fun w2 σ2 => P (-100 - (rdI σ g a).2.1) w2 σ2) := by
    intro s f s11 s02 hq
    refine mo s _ (fun b j z => f b j (by unfold fNX; omega) (by omega) (by omega)) (fun y1 y2 => absurd ⟨y1, y2⟩ hq) (fun _ s2 x1 f2 => ?_)
    have fr := fin s f s2 (fun b j z1 z2 => f2 b j z1 (by omega))
    have old := NewE_old hI hw fr
    have e0 : s2 356 0 = n := by rw [f2 _ _ (by unfold fCM; omega) (by omega), f _ _ (by unfold fNX; omega) (by omega) (by omega)]; exact hn
    have e2 : s2 0 2 = n := by rw [f2 _ _ (by unfold fCM; omega) (by omega)]; exact s02
    have e1 : s2 1 1 = 0 := by rw [f2 _ _ (by unfold fCM; omega) (by omega)]; exact s11
    exact h _ s2 ⟨Or.inl (by rw [e0, hn]), fr⟩ ⟨by omega, by omega, by omega, fun x x0 x1 => (old x x0 (by omega)).1⟩ (fun x x0 x1 => (old x x0 (by omega)).2) (tape0 s2 e1 x1)
  refine inb_i n0 c (inb_i g0 g5 ?_)
  rw [ck]
  refine X_become_ok (d := d + 2) g0 (by omega) n0 (by omega) (by omega) (fun s1 ⟨b1, b2⟩ b3 b4 f1 => ?_)
  have elow : ∀ x j, x ≤ 3 → s1 x j = σ x j := fun x j z => f1 x j (by omega) (by omega)
  have Q0 : rdL (σ 367) (σ 356 13) (σ 358 g) (fun t => σ 360 (8 * g + t)) (hcI σ g a) 0 = rdI σ g a := rfl
  refine e_Tape_readInstead fun _ => X_readList_ok (d := d) (T := σ 367) (L := σ 356 13) (m := σ 358 g) (n := σ 357 g) (q := 0) (am := fun t => σ 360 (8 * g + t)) (hc := hcI σ g a) n0 (by omega) a0 ha7 (by have := hA.1; omega) (by have := hA.1; omega) ⟨by rw [st_ne (by omega), elow _ _ (by omega)]; exact t1, ⟨t2, t3⟩, fun i u v => ⟨by rw [st_ne (by omega), elow _ _ (by omega)]; exact (t4 i u v).1, (t4 i u v).2⟩⟩ (st_self _ _ _ _) (Int.le_refl 0) t2 (by rw [st_ne (by omega), b1.1]; exact hA.2.1.2.1) (by rw [st_ne (by omega), b1.2.1]; exact hA.2.1.1) (fun t u v => by
    have hm := hA.1
    rw [st_ne (by omega), b2 5 t (by unfold cpC; omega)]; exact (hA.2.2.1 t u v).1) (fun t u v => sm_congr _ 0 0 (fun j j0 j1 => by
      have hm := hA.1
      show (if (if j = a then -1 else st s1 1 2 0 (6 + 43 * n) j) = t then (1 : Int) else 0) = if ¬ j = a ∧ σ 361 (7 * g + j) = t then 1 else 0
      by_cases y : j = a
      · rw [if_pos y, if_neg (show ¬ (-1 : Int) = t by omega), if_neg (fun w => w.1 y)]
      · rw [if_neg y, st_ne (by omega), b2 6 j (by unfold cpC; omega), (hB.1 j j0 (by omega)).1]
        by_cases y2 : σ 361 (7 * g + j) = t
        · rw [if_pos y2, if_pos ⟨y, y2⟩]
        · rw [if_neg y2, if_neg (fun w => y2 w.2)])) (fun s2 x1 x2 x3 f2 => br1 ?_) (fun s2 x1 x2 f2 => br0 (br0 ?_))
  · rw [Q0] at x1 x2 x3
    have e11 : s2 1 1 = σ 356 13 := by rw [f2 _ _ (by unfold fLX; omega), st_ne (by omega), elow _ _ (by omega)]; exact t1
    have e02 : s2 0 2 = n := by rw [f2 _ _ (by unfold fLX; omega), st_ne (by omega), elow _ _ (by omega)]; exact c0
    have fs : ∀ b j, ¬ fNX n b j → s2 b j = σ b j := fun b j z => by
      unfold fNX at z
      rw [f2 b j (by unfold fLX; omega), st_ne (by omega)]; exact f1 b j (by omega) (by omega)
    refine ⟨fun c1 => br1 ?_, fun c1 => br0 ?_⟩
    · rw [x2, e11] at c1
      rw [show st s2 1 1 0 0 2 = n by rw [st_ne (by omega)]; exact e02, st_self, w32_id (x := n + 1) (by omega) (by omega), w32_id (x := n + 1 - 1) (by omega) (by omega), show n + 1 - 1 = n by omega]
      generalize hs : st (st s2 1 1 0) 0 2 (n + 1) = s3
      have f3 : ∀ b j, ¬ (b = 1 ∧ j = 1) → ¬ (b = 0 ∧ j = 2) → s3 b j = s2 b j := fun b j z1 z2 => by rw [← hs, st_ne z2, st_ne z1]
      have fs3 : ∀ b j, ¬ fNX n b j → ¬ b = 1 → ¬ (b = 0 ∧ j = 2) → s3 b j = σ b j := fun b j z z1 z2 => by rw [f3 b j (by omega) z2]; exact fs b j z
      refine mo s3 _ (fun b j z => fs3 b j (by unfold fNX; omega) (by omega) (by omega)) (fun _ _ s4 y1 y2 y3 f4 => ?_) (fun z => absurd ⟨x1, c1⟩ z)
      have fx : ∀ b j, b < 356 → ¬ (b = 1 ∧ j = 1) → ¬ (b = 0 ∧ j = 2) → s4 b j = s2 b j := fun b j z z1 z2 => by rw [f4 b j (by unfold fCM; omega) (by omega)]; exact f3 b j z1 z2
      have fy : ∀ b j, b < 356 → ¬ (b = 1 ∧ (j = 1 ∨ j = 2)) → ¬ (b = 0 ∧ j = 2) → ¬ fLX n a b j → s4 b j = s1 b j := fun b j z z1 z2 z3 => by rw [fx b j z (by omega) z2, f2 b j z3, st_ne (by omega)]
      have e1 : s4 1 1 = 0 := by rw [f4 _ _ (by unfold fCM; omega) (by omega), ← hs, st_ne (by omega), st_self]
      have e2 : s4 0 2 = n + 1 := by rw [f4 _ _ (by unfold fCM; omega) (by omega), ← hs, st_self]
      have fr := fin s3 fs3 s4 f4
      have old := NewE_old hI hw fr
      obtain ⟨r1, r2, r3, r4⟩ := x3
      have hx : InX s4 σ g a n := by
        refine ⟨⟨?_, ?_, ?_⟩, fun t u v => ?_, fun p u v z => ⟨?_, ?_⟩, fun p i u v z i0 i1 => ⟨?_, ?_⟩, fun p i u v i0 i1 => ?_, ⟨?_, ?_, fun i i0 i1 => ?_, fun t u v => ?_⟩, fun k u v => ?_, ?_⟩
        · rw [fy _ _ (by omega) (by omega) (by omega) (by unfold fLX; omega)]; exact b1.1
        · rw [fy _ _ (by omega) (by omega) (by omega) (by unfold fLX; omega)]; exact b1.2.1
        · rw [fy _ _ (by omega) (by omega) (by omega) (by unfold fLX; omega)]; exact b1.2.2
        · rw [fy _ _ (by omega) (by omega) (by omega) (by unfold fLX; omega)]; exact b2 5 t (by unfold cpC; omega)
        · rw [fy _ _ (by omega) (by omega) (by omega) (by unfold fLX; omega)]; exact b2 6 p (by unfold cpC; omega)
        · rw [fy _ _ (by omega) (by omega) (by omega) (by unfold fLX; omega)]; exact b2 7 p (by unfold cpC; omega)
        · rw [fy _ _ (by omega) (by omega) (by omega) (by unfold fLX; omega)]
          have := b2 (9 + p) i (by unfold cpC; omega)
          rw [show 9 + p + 43 * n = 9 + 43 * n + p by omega, show 9 + p + 43 * g = 9 + 43 * g + p by omega] at this
          exact this
        · rw [fy _ _ (by omega) (by omega) (by omega) (by unfold fLX; omega)]
          have := b2 (17 + p) i (by unfold cpC; omega)
          rw [show 17 + p + 43 * n = 17 + 43 * n + p by omega, show 17 + p + 43 * g = 17 + 43 * g + p by omega] at this
          exact this
        · rw [fy _ _ (by omega) (by omega) (by omega) (by unfold fLX; omega)]
          have := b2 (25 + p) i (by unfold cpC; omega)
          rw [show 25 + p + 43 * n = 25 + 43 * n + p by omega, show 25 + p + 43 * g = 25 + 43 * g + p by omega] at this
          exact this
        · rw [fx _ _ (by omega) (by omega) (by omega)]; exact r1
        · rw [fx _ _ (by omega) (by omega) (by omega)]; exact r2
        · rw [fx _ _ (by omega) (by omega) (by omega)]; exact r3 i i0 i1
        · rw [fx _ _ (by omega) (by omega) (by omega)]; exact r4 t u v
        · rw [fy _ _ (by omega) (by omega) (by omega) (by unfold fLX; omega)]; exact b3 k u v
        · rw [fy _ _ (by omega) (by omega) (by omega) (by unfold fLX; omega)]; exact b4
      have new := In_new g0 n0 a0 a1 hA hB hC (hw g g0 (by omega)) t2 x1 hx y1
      refine h _ s4 ⟨Or.inr ⟨by rw [hn]; exact y2, by rw [hn]; exact c, fun k u v => by rw [hn]; exact hx.2.2.2.2.2.2.1 k u v, by rw [hn]; exact hx.2.2.2.2.2.2.2⟩, fr⟩ ⟨by omega, by omega, by omega, fun x x0 x1 => ?_⟩ (fun x x0 x1 => ?_) (tape0 s4 e1 y3)
      · by_cases z : x = n
        · rw [z]; exact new.1
        · exact (old x x0 (by omega)).1
      · by_cases z : x = n
        · rw [z]; exact new.2
        · exact (old x x0 (by omega)).2
    · rw [x2, e11] at c1
      rw [show st s2 1 1 0 1 2 = (rdI σ g a).2.1 by rw [st_ne (by omega)]; exact x2, w32_id (by omega) (by omega)]
      exact stop (st s2 1 1 0) (fun b j z z1 z2 => by rw [st_ne (by omega)]; exact fs b j z) (st_self _ _ _ _) (by rw [st_ne (by omega)]; exact e02) (fun z => c1 z.2)
  · rw [Q0] at x1 x2
    have e02 : s2 0 2 = n := by rw [f2 _ _ (by unfold fLX; omega), st_ne (by omega), elow _ _ (by omega)]; exact c0
    have fs : ∀ b j, ¬ fNX n b j → s2 b j = σ b j := fun b j z => by
      unfold fNX at z
      rw [f2 b j (by unfold fLX; omega), st_ne (by omega)]; exact f1 b j (by omega) (by omega)
    rw [show st s2 1 1 0 1 2 = (rdI σ g a).2.1 by rw [st_ne (by omega)]; exact x2, w32_id (by omega) (by omega)]
    exact stop (st s2 1 1 0) (fun b j z z1 z2 => by rw [st_ne (by omega)]; exact fs b j z) (st_self _ _ _ _) (by rw [st_ne (by omega)]; exact e02) (fun z => by rw [x1] at z; cases z.1)
