def glv2 (σ : Mem) (g : Int) : Int → Int → Int := fun p t => σ 364 (56 * g + 8 * p + t)
/-- the levels, nothing outside the table -/
def glc (σ : Mem) (g : Int) : Int → Int → Int := fun p t => if (0 ≤ p ∧ p < 7) ∧ 0 ≤ t ∧ t < 8 then σ 364 (56 * g + 8 * p + t) else 0
theorem glc_e {σ : Mem} {g p t : Int} (p0 : 0 ≤ p) (p1 : p < 7) (t0 : 0 ≤ t) (t1 : t < 8) : glc σ g p t = σ 364 (56 * g + 8 * p + t) := by
  unfold glc
  rw [if_pos ⟨⟨p0, p1⟩, t0, t1⟩]
theorem glc_c {σ s : Mem} {g : Int} (f : ∀ j, 56 * g ≤ j → j < 56 * g + 56 → s 364 j = σ 364 j) : glc s g = glc σ g := by
  funext p t
  unfold glc
  split
  · exact f _ (by omega) (by omega)
  · rfl
/-- the ring that is kept is right -/
def RC (σ : Mem) (g : Int) (S : RS) : Prop := σ 282 3 = 0 ∨ (σ 282 3 = 1 ∧ σ 282 2 = (ringS (glc σ g) S (σ 357 g) (σ 358 g)).1 ∧ ∀ i, 0 ≤ i → i < (ringS (glc σ g) S (σ 357 g) (σ 358 g)).1 → σ 283 i = (ringS (glc σ g) S (σ 357 g) (σ 358 g)).2.1 i ∧ σ 284 i = (ringS (glc σ g) S (σ 357 g) (σ 358 g)).2.2 i)
def I_rr (σ : Mem) : Prop := (σ 0 7 = -1 ∧ σ 356 14 = -1) ∨ ∃ g S, RunIs σ g S ∧ RC σ g S
theorem I_rr_run {σ : Mem} (h : I_rr σ) : I_run σ := by
  rcases h with h | ⟨g, S, h, _⟩
  · exact Or.inl h
  · exact Or.inr ⟨g, S, h⟩
-- how large a ring is, and what is in it
theorem lpT_r {f : (Int → Int) → Option (Int → Int)} {ok : Int → Bool} {gv : Int → Int} {dep : Int} {Q : (Int → Int) → Prop} : ∀ (q : Nat) (t : Int) (r : Int → Int), (∀ u r2, t ≤ u → u < t + q → ok u = true → f (up gv dep u) = some r2 → Q r2) → lpT f ok gv dep q t = some r → Q r
  | 0, _, _, _, h => by cases h
  | q + 1, t, r, hf, h => by
    cases c : ok t with
    | false => rw [lpT_F c] at h; exact lpT_r q (t + 1) r (fun u r2 a b => hf u r2 (by omega) (by omega)) h
    | true =>
      rw [lpT_T c] at h
      cases e : f (up gv dep t) with
      | none => rw [e] at h; exact lpT_r q (t + 1) r (fun u r2 a b => hf u r2 (by omega) (by omega)) h
      | some r2 => rw [e] at h; cases h; exact hf t _ (Int.le_refl t) (by omega) c e
theorem thS_r {hp : Int → Int → Bool} {be : Int → Int → Int → Bool} {m n : Int} {W : Int → Int} (m0 : 0 ≤ m) : ∀ (k : Nat) (dep : Int) (gv r : Int → Int), 0 ≤ dep → dep + k = n → (∀ j, 0 ≤ j → j < dep → 0 ≤ gv j ∧ gv j < m) → thS hp be m n W k dep gv = some r → ∀ j, 0 ≤ j → j < n → 0 ≤ r j ∧ r j < m
  | 0, dep, gv, r, d0, e, hg, h => by
    unfold thS at h
    by_cases c : be (W 0) (gv (n - 1)) (gv 0) = true
    · rw [if_pos c] at h; cases h; exact fun j a b => hg j a (by omega)
    · rw [if_neg c] at h; cases h
  | k + 1, dep, gv, r, d0, e, hg, h => by
    unfold thS at h
    refine lpT_r (Q := fun r => ∀ j, 0 ≤ j → j < n → 0 ≤ r j ∧ r j < m) m.toNat 0 r (fun u r2 a b _ h2 => thS_r m0 k (dep + 1) (up gv dep u) r2 (by omega) (by omega) (fun j j0 j1 => ?_) h2) h
    by_cases z : j = dep
    · rw [z, up_s]; omega
    · rw [up_n z]; exact hg j j0 (by omega)
theorem lpP_r {f : (Int → Int) → Option ((Int → Int) × (Int → Int))} {W : Int → Int} {dep : Int} {Q : (Int → Int) × (Int → Int) → Prop} : ∀ (q : Nat) (p : Int) (r : (Int → Int) × (Int → Int)), (∀ u r2, p ≤ u → u < p + q → f (up W dep u) = some r2 → Q r2) → lpP f W dep q p = some r → Q r
  | 0, _, _, _, h => by cases h
  | q + 1, p, r, hf, h => by
    cases c : okP W dep p with
    | false => rw [lpP_F c] at h; exact lpP_r q (p + 1) r (fun u r2 a b => hf u r2 (by omega) (by omega)) h
    | true =>
      rw [lpP_T c] at h
      cases e : f (up W dep p) with
      | none => rw [e] at h; exact lpP_r q (p + 1) r (fun u r2 a b => hf u r2 (by omega) (by omega)) h
      | some r2 => rw [e] at h; cases h; exact hf p _ (Int.le_refl p) (by omega) e
theorem ppS_r {hp : Int → Int → Bool} {be : Int → Int → Int → Bool} {N m n : Int} (m0 : 0 ≤ m) : ∀ (k : Nat) (dep : Int) (W : Int → Int) (r : (Int → Int) × (Int → Int)), 0 ≤ dep → dep + k = n → (∀ j, 0 ≤ j → j < dep → 0 ≤ W j ∧ W j < N) → ppS hp be N m n k dep W = some r → ∀ j, 0 ≤ j → j < n → (0 ≤ r.1 j ∧ r.1 j < N) ∧ (0 ≤ r.2 j ∧ r.2 j < m)
  | 0, dep, W, r, d0, e, hw, h => by
    unfold ppS at h
    cases c : thS hp be m n W n.toNat 0 (fun _ => 0) with
    | none => rw [c] at h; cases h
    | some g =>
      rw [c] at h
      cases h
      exact fun j a b => ⟨hw j a (by omega), thS_r m0 n.toNat 0 (fun _ => 0) g (Int.le_refl 0) (by omega) (fun j a b => by omega) c j a b⟩
  | k + 1, dep, W, r, d0, e, hw, h => by
    unfold ppS at h
    refine lpP_r (Q := fun r => ∀ j, 0 ≤ j → j < n → (0 ≤ r.1 j ∧ r.1 j < N) ∧ (0 ≤ r.2 j ∧ r.2 j < m)) N.toNat 0 r (fun u r2 a b h2 => ppS_r m0 k (dep + 1) (up W dep u) r2 (by omega) (by omega) (fun j j0 j1 => ?_) h2) h
    by_cases z : j = dep
    · rw [z, up_s]; omega
    · rw [up_n z]; exact hw j j0 (by omega)
theorem rgS_r {hp : Int → Int → Bool} {be : Int → Int → Int → Bool} {N m : Int} (m0 : 0 ≤ m) : ∀ (q : Nat) (sz : Int), 2 ≤ sz → sz + q = N + 1 → (0 ≤ (rgS hp be N m q sz).1 ∧ (rgS hp be N m q sz).1 ≤ N ∧ ¬ (rgS hp be N m q sz).1 = 1) ∧ ∀ j, 0 ≤ j → j < (rgS hp be N m q sz).1 → (0 ≤ (rgS hp be N m q sz).2.1 j ∧ (rgS hp be N m q sz).2.1 j < N) ∧ (0 ≤ (rgS hp be N m q sz).2.2 j ∧ (rgS hp be N m q sz).2.2 j < m)
  | 0, sz, h2, e => ⟨⟨Int.le_refl 0, by show (0 : Int) ≤ N; omega, by show ¬ (0 : Int) = 1; decide⟩, fun j a b => by have b : j < 0 := b; omega⟩
  | q + 1, sz, h2, e => by
    unfold rgS
    cases c : ppS hp be N m sz sz.toNat 0 (fun _ => 0) with
    | none => exact rgS_r m0 q (sz + 1) (by omega) (by omega)
    | some r => exact ⟨⟨by show 0 ≤ sz; omega, by show sz ≤ N; omega, by show ¬ sz = 1; omega⟩, fun j a b => ppS_r m0 sz.toNat 0 (fun _ => 0) r (Int.le_refl 0) (by omega) (fun j a b => by omega) c j a b⟩
theorem ringS_r {lv : Int → Int → Int} {S : RS} {N m : Int} (hN : 1 ≤ N) (m0 : 0 ≤ m) : (0 ≤ (ringS lv S N m).1 ∧ (ringS lv S N m).1 ≤ N) ∧ ∀ j, 0 ≤ j → j < (ringS lv S N m).1 → (0 ≤ (ringS lv S N m).2.1 j ∧ (ringS lv S N m).2.1 j < N) ∧ (0 ≤ (ringS lv S N m).2.2 j ∧ (ringS lv S N m).2.2 j < m) := by
  unfold ringS
  by_cases c : alP (hpS S) (betL lv) S N m = -1
  · rw [if_pos c]
    have h := rgS_r (hp := hpS S) (be := betL lv) (N := N) m0 (N - 1).toNat 2 (by decide) (by omega)
    exact ⟨⟨h.1.1, h.1.2.1⟩, h.2⟩
  · rw [if_neg c]
    refine ⟨⟨by show (0 : Int) ≤ 1; decide, by show (1 : Int) ≤ N; omega⟩, fun j _ _ => ?_⟩
    show (0 ≤ alP (hpS S) (betL lv) S N m ∧ alP (hpS S) (betL lv) S N m < N) ∧ (0 ≤ alT (hpS S) (betL lv) S m (alP (hpS S) (betL lv) S N m) ∧ alT (hpS S) (betL lv) S m (alP (hpS S) (betL lv) S N m) < m)
    have hp : 0 ≤ alP (hpS S) (betL lv) S N m ∧ alP (hpS S) (betL lv) S N m < N ∧ ¬ alT (hpS S) (betL lv) S m (alP (hpS S) (betL lv) S N m) = -1 := by
      unfold alP at c ⊢
      rcases fsT_cases (c := fun p => decide (¬ alT (hpS S) (betL lv) S m p = -1)) (ls := fun p => p) N.toNat 0 with ⟨e, _⟩ | ⟨i, i0, i1, e, h, _⟩
      · exact absurd e c
      · rw [e]; exact ⟨i0, by omega, of_decide_eq_true h⟩
    generalize alP (hpS S) (betL lv) S N m = p at *
    refine ⟨⟨hp.1, hp.2.1⟩, ?_⟩
    have h3 := hp.2.2
    unfold alT at h3 ⊢
    rcases fsT_cases (c := fun t => hpS S p t && lfS (betL lv) S m p t) (ls := fun t => t) m.toNat 0 with ⟨e, _⟩ | ⟨i, i0, i1, e, h, _⟩
    · exact absurd e h3
    · rw [e]; exact ⟨i0, by omega⟩
def RgE (σ σ2 : Mem) : Prop := ∀ b j, ¬ (b = 282 ∧ (j = 2 ∨ j = 3)) → ¬ b = 283 → ¬ b = 284 → ¬ (b = 356 ∧ j = 40) → ¬ b = 385 → ¬ b = 386 → σ2 b j = σ b j
theorem RC_fr {σ s : Mem} {g : Int} {S : RS} (f : ∀ b j, (b = 282 ∧ (j = 2 ∨ j = 3)) ∨ b = 283 ∨ b = 284 ∨ (b = 364 ∧ 56 * g ≤ j ∧ j < 56 * g + 56) → s b j = σ b j) (e7 : s 357 g = σ 357 g) (e8 : s 358 g = σ 358 g) (h : RC σ g S) : RC s g S := by
  unfold RC at *
  rw [e7, e8, show glc s g = glc σ g from glc_c fun j j0 j1 => f _ _ (by omega), f 282 3 (by omega), f 282 2 (by omega)]
  rcases h with h | ⟨h1, h2, h3⟩
  · exact Or.inl h
  · exact Or.inr ⟨h1, h2, fun i i0 i1 => by rw [f 283 i (by omega), f 284 i (by omega)]; exact h3 i i0 i1⟩
theorem call_ring {d : Nat} {σ : Mem} {i : Int} {P : Int → Int → Mem → Prop} (hI : I_giv σ) (hU : I_rr σ) (h : ∀ r σ2, RgE σ σ2 → I_rr σ2 → P r r σ2) :
    AM2 i_X_ring (d + 20) [(2, 0), (0, i)] σ (fun w1 σ1 => AM2 i_M_ring (d + 20) [(2, 356), (0, i)] σ1 (fun w2 σ2 => P w1 w2 σ2)) := by
  have same : ∀ r, P r r σ := fun r => h r σ (fun _ _ _ _ _ _ _ _ => rfl) hU
  refine e_X_ring fun _ => ?_
  rcases hU with ⟨u1, u2⟩ | ⟨g, S, hR, hC⟩
  · exact brT_i u1 (e_M_ring fun _ => brT_i (by omega) (same _))
  · have hR2 := hR
    obtain ⟨⟨g0, g1⟩, ⟨u1, u2⟩, hH, hPI, hM⟩ := hR2
    obtain ⟨hA, hB, _⟩ := hI.2.2.2 g g0 g1
    have hn := hA.1
    have hi5 := hI.2.2.1
    have hrr := ringS_r (lv := glc σ g) (S := S) (N := σ 357 g) (m := σ 358 g) (by omega) (by omega)
    refine brF_i (by omega) ⟨fun c => e_M_ring fun _ => brF_i (by omega) (brT_i c (same _)), fun c => ?_⟩
    rw [u1]
    -- the model and the answers, from a state with the ring found
    have fin : ∀ s : Mem, s 282 3 = 1 → s 282 2 = (ringS (glc σ g) S (σ 357 g) (σ 358 g)).1 → (∀ i, 0 ≤ i → i < (ringS (glc σ g) S (σ 357 g) (σ 358 g)).1 → s 283 i = (ringS (glc σ g) S (σ 357 g) (σ 358 g)).2.1 i ∧ s 284 i = (ringS (glc σ g) S (σ 357 g) (σ 358 g)).2.2 i) → (∀ b j, ¬ (b = 282 ∧ (j = 2 ∨ j = 3)) → ¬ b = 283 → ¬ b = 284 → s b j = σ b j) →
        (i = (-1) → (s 282 2 = 0 → AM2 i_M_ring (d + 20) [(2, 356), (0, i)] s (fun w2 σ2 => P (-2) w2 σ2)) ∧ (¬ s 282 2 = 0 → AM2 i_M_ring (d + 20) [(2, 356), (0, i)] s (fun w2 σ2 => P (s 282 2) w2 σ2))) ∧ (¬ i = (-1) → (i < (s 282 2) → inb i 7 (inb i 7 (AM2 i_M_ring (d + 20) [(2, 356), (0, i)] s (fun w2 σ2 => P (w32 ((w32 (10 * (s 283 i))) + (s 284 i))) w2 σ2)))) ∧ (¬ i < (s 282 2) → AM2 i_M_ring (d + 20) [(2, 356), (0, i)] s (fun w2 σ2 => P (-1) w2 σ2))) := by
      intro s w3 w2 w1 f
      have eg : s 356 14 = g := by rw [f _ _ (by omega) (by omega) (by omega)]; exact u2
      have e7 : s 357 g = σ 357 g := f _ _ (by omega) (by omega) (by omega)
      have e8 : s 358 g = σ 358 g := f _ _ (by omega) (by omega) (by omega)
      have mo : ∀ (v : Int), (i = -1 → v = if (ringS (glc σ g) S (σ 357 g) (σ 358 g)).1 = 0 then -2 else (ringS (glc σ g) S (σ 357 g) (σ 358 g)).1) → (0 ≤ i → i < (ringS (glc σ g) S (σ 357 g) (σ 358 g)).1 → v = 10 * (ringS (glc σ g) S (σ 357 g) (σ 358 g)).2.1 i + (ringS (glc σ g) S (σ 357 g) (σ 358 g)).2.2 i) → ((ringS (glc σ g) S (σ 357 g) (σ 358 g)).1 ≤ i → v = -1) → AM2 i_M_ring (d + 20) [(2, 356), (0, i)] s (fun w2 σ2 => P v w2 σ2) := by
        intro v v1 v2 v3
        refine e_M_ring fun _ => brF_i (by omega) (brF_i c ?_)
        refine M_findsRing_ok (S := S) (lv := glc σ g) g0 (by omega) (by omega) (by omega) eg e7 e8 (fun p t p0 p1 t0 t1 => by rw [glc_e p0 (by omega) t0 (by omega)]; exact f _ _ (by omega) (by omega) (by omega)) (MQ_fr (fun b j _ _ => f _ _ (by omega) (by omega) (by omega)) hM) (fun s2 x1 x2 f2 => ?_)
        have fe : RgE σ s2 := fun b j y1 y2 y3 y4 y5 y6 => by rw [f2 b j y4 y5 y6, f b j y1 y2 y3]
        have hh : ∀ r, P r r s2 := fun r => h r s2 fe (Or.inr ⟨g, S, RunIs_fr hI (fun b j z => by unfold fRun at z; exact fe b j (by omega) (by omega) (by omega) (by omega) (by omega) (by omega)) (by rw [fe _ _ (by omega) (by omega) (by omega) (by omega) (by omega) (by omega)]; exact Int.le_refl _) (fun j _ => ⟨fe _ _ (by omega) (by omega) (by omega) (by omega) (by omega) (by omega), fe _ _ (by omega) (by omega) (by omega) (by omega) (by omega) (by omega)⟩) hR, by
          refine RC_fr (σ := s) (fun b j z => f2 b j (by omega) (by omega) (by omega)) (f2 _ _ (by omega) (by omega) (by omega)) (f2 _ _ (by omega) (by omega) (by omega)) (Or.inr ?_)
          rw [e7, e8, show glc s g = glc σ g from glc_c fun j _ _ => f _ _ (by omega) (by omega) (by omega)]
          exact ⟨w3, w2, w1⟩⟩)
        rw [x1]
        refine ⟨fun z => ⟨fun y => ?_, fun y => ?_⟩, fun z => ⟨fun y => ?_, fun y => ?_⟩⟩
        · rw [v1 z, if_pos y]; exact hh _
        · rw [v1 z, if_neg y]; exact hh _
        · have x3 := x2 i (by omega) y
          have h9 := hrr.2 i (by omega) y
          rw [x3.1, x3.2, w32_id (x := 10 * (ringS (glc σ g) S (σ 357 g) (σ 358 g)).2.1 i) (by omega) (by omega), w32_id (by omega) (by omega), v2 (by omega) y]
          exact inb_i (by omega) (by omega) (inb_i (by omega) (by omega) (hh _))
        · rw [v3 (by omega)]; exact hh _
      rw [w2]
      refine ⟨fun z => ⟨fun y => mo _ (fun _ => by rw [if_pos y]) (fun _ _ => by omega) (fun _ => by omega), fun y => mo _ (fun _ => by rw [if_neg y]) (fun _ _ => by omega) (fun _ => by omega)⟩, fun z => ⟨fun y => ?_, fun y => mo _ (fun _ => by omega) (fun _ _ => by omega) (fun _ => rfl)⟩⟩
      have h9 := hrr.2 i (by omega) y
      have x3 := w1 i (by omega) y
      rw [x3.1, x3.2, w32_id (x := 10 * (ringS (glc σ g) S (σ 357 g) (σ 358 g)).2.1 i) (by omega) (by omega), w32_id (by omega) (by omega)]
      exact inb_i (by omega) (by omega) (inb_i (by omega) (by omega) (mo _ (fun _ => by omega) (fun _ _ => rfl) (fun _ => by omega)))
    rcases hC with hC | ⟨c1, c2, c3⟩
    · exact X_find_ok (d := d + 1) (S := S) (lv := glc σ g) g0 (by omega) (by omega) (by omega) hA.2.1.1 hA.2.1.2.1 (fun p t p0 p1 t0 t1 => by rw [glc_e p0 (by omega) t0 (by omega)]; exact (hB.2 p t p0 p1 t0 t1).1) hH hPI.2 hC fin
    · exact e_Rings_find (brF_i (by omega) (fin σ c1 c2 c3 (fun _ _ _ _ _ => rfl)))
