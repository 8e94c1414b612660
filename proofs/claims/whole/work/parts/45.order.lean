-- ===== order
def EvL (σ : Mem) : Prop := σ 332 1 = σ 356 20 ∧ 0 ≤ σ 356 20 ∧ σ 356 20 ≤ 6 ∧ (0 < σ 356 20 → σ 332 2 = σ 356 21 ∧ 0 ≤ σ 356 21 ∧ σ 356 21 < σ 356 0 ∧ ∀ k, 0 ≤ k → k < σ 356 20 → σ 333 k = σ 373 k ∧ isL (σ 357 (σ 356 21)) 0 (σ 373 k) = true)
def EvI (σ : Mem) : Prop := (σ 332 4 = 0 ∧ σ 356 23 = -1) ∨ ((1 ≤ σ 332 4 ∧ σ 332 4 ≤ 6) ∧ (0 ≤ σ 332 3 ∧ σ 332 3 ≤ 1000) ∧ σ 356 23 = σ 332 3 ∧ σ 356 24 = σ 332 4)
def I_even (σ : Mem) : Prop := EvL σ ∧ EvI σ
theorem isTold_ok {d : Nat} {K : Int → Mem → Prop} {σ : Mem} {q : Int} (hn : 0 ≤ σ 332 1 ∧ σ 332 1 ≤ 6) (k1 : ∀ k, 0 ≤ k → k < σ 332 1 → σ 333 k = q → K 1 σ) (k0 : (∀ k, 0 ≤ k → k < σ 332 1 → ¬ σ 333 k = q) → K 0 σ) : AM2 i_Evens_isTold (d + 1) [(2, 332), (0, q)] σ K := by
  have go : ∀ (m : Nat) (i : Int), 0 ≤ i → i + m = σ 332 1 → (∀ k, 0 ≤ k → k < i → ¬ σ 333 k = q) → AW2 i_Evens_isTold (d + 1) 2 [] [(0, (2, 332)), (1, (0, q)), (2, (0, i))] σ K := by
    intro m
    induction m with
    | zero => intro i i0 e x; exact s_Evens_isTold_2 ⟨fun z => by omega, fun _ => k0 (fun k a b => x k a (by omega))⟩
    | succ m ih =>
      intro i i0 e x
      refine s_Evens_isTold_2 ⟨fun _ => ?_, fun z => by omega⟩
      (try simp (disch := omega) only [w32_id, w64_id, inb_eq, st_self, st_ne, pt3, ck_g, ck_am, ck_he, ck_sz, ck_ls, ck_lv, ck_pa, ck_kn, sn_am, sn_he, sn_sz, sn_ls, sn_lv, sn_pa, sn_kn, pt_am, pt_he, pt_sz, pt_ls, pt_lv, pt_pa, pt_kn, ck_lr, ck_vr, ck_pr, sn_lr, sn_vr, sn_pr, pt_lr, pt_vr, pt_pr, pt_sh, ck_sh, pt_to, ck_to, sn_to])
      refine ⟨fun z => k1 i i0 (by omega) z, fun z => ih (i + 1) (by omega) (by omega) (fun k a b => ?_)⟩
      by_cases y : k = i
      · rw [y]; exact z
      · exact x k a (by omega)
  exact e_Evens_isTold fun _ => go (σ 332 1).toNat 0 (Int.le_refl 0) (by omega) (fun k a b => by omega)
def OrdE (σ σ2 : Mem) : Prop := ∀ b j, ¬ b = 304 → ¬ b = 379 → ¬ (b = 332 ∧ (j = 1 ∨ j = 2)) → ¬ b = 333 → ¬ b = 373 → ¬ (b = 356 ∧ (j = 20 ∨ j = 21)) → σ2 b j = σ b j
theorem EvI_fr {σ σ2 : Mem} (f : ∀ b j, (b = 332 ∧ (j = 3 ∨ j = 4)) ∨ (b = 356 ∧ (j = 23 ∨ j = 24)) → σ2 b j = σ b j) (h : EvI σ) : EvI σ2 := by
  unfold EvI at *
  rw [f 332 4 (by omega), f 332 3 (by omega), f 356 23 (by omega), f 356 24 (by omega)]
  exact h
theorem EvL_fr {σ σ2 : Mem} (f : ∀ b j, (b = 332 ∧ (j = 1 ∨ j = 2)) ∨ (b = 356 ∧ (j = 20 ∨ j = 21)) ∨ b = 333 ∨ b = 373 → σ2 b j = σ b j) (f2 : σ2 356 0 ≥ σ 356 0) (f3 : ∀ j, j < σ 356 0 → σ2 357 j = σ 357 j) (h : EvL σ) : EvL σ2 := by
  obtain ⟨a, b, c, e⟩ := h
  have e1 := f 332 1 (by omega)
  have e2 := f 356 20 (by omega)
  have e3 := f 332 2 (by omega)
  have e4 := f 356 21 (by omega)
  refine ⟨by omega, by omega, by omega, fun z => ?_⟩
  have e := e (by omega)
  refine ⟨by omega, by omega, by omega, fun k k0 k1 => ?_⟩
  rw [f 333 k (by omega), f 373 k (by omega), e4, f3 _ e.2.2.1]
  exact e.2.2.2 k k0 (by omega)
theorem call_order {d : Nat} {σ : Mem} {g q : Int} {P : Int → Int → Mem → Prop} (hI : I_giv σ) (hE : I_even σ) (h : ∀ r σ2, OrdE σ σ2 → I_even σ2 → P r r σ2) :
    AM2 i_X_order (d + 3) [(2, 0), (0, g), (0, q)] σ (fun w1 σ1 => AM2 i_M_order (d + 3) [(2, 356), (0, g), (0, q)] σ1 (fun w2 σ2 => P w1 w2 σ2)) := by
  obtain ⟨⟨o1, o2, o3, o4⟩, oI⟩ := hE
  -- what is left unchanged but for scratch
  have same : ∀ r (s2 : Mem), (∀ b j, ¬ b = 304 → ¬ b = 379 → s2 b j = σ b j) → P r r s2 := fun r s2 f =>
    h r s2 (fun b j y1 y2 _ _ _ _ => f b j y1 y2) ⟨EvL_fr (fun b j z => f b j (by omega) (by omega)) (by rw [f _ _ (by omega) (by omega)]; exact Int.le_refl _) (fun j _ => f _ _ (by omega) (by omega)) ⟨o1, o2, o3, o4⟩, EvI_fr (fun b j z => f b j (by omega) (by omega)) oI⟩
  -- the model's loop from a place on
  have mo : ∀ (s : Mem) (v r : Int) (K : Int → Mem → Prop), s 356 20 = σ 356 20 → (∀ j, s 373 j = σ 373 j) → (v = 0 ∨ v = 1) → (¬ (v = 1 ∧ ∀ k, 0 ≤ k → k < σ 356 20 → ¬ σ 373 k = q) → K (-1) s) → (v = 1 → (∀ k, 0 ≤ k → k < σ 356 20 → ¬ σ 373 k = q) → (σ 356 20 = 6 → K (-3) s) ∧ (¬ σ 356 20 = 6 → K (σ 356 20 + 1) (st (st (st s 356 21 g) 373 (σ 356 20) q) 356 20 (σ 356 20 + 1)))) → AW2 i_M_order (d + 3) 24 [] [(0, (2, 356)), (1, (0, g)), (2, (0, q)), (3, (0, v)), (4, (0, 0))] s K := by
    intro s v r K e20 e373 hv kb kg
    have go : ∀ (m : Nat) (i v2 : Int), 0 ≤ i → i + m = σ 356 20 → (v2 = 0 ∨ v2 = 1) → (v2 = 1 ↔ (v = 1 ∧ ∀ k, 0 ≤ k → k < i → ¬ σ 373 k = q)) → AW2 i_M_order (d + 3) 24 [] [(0, (2, 356)), (1, (0, g)), (2, (0, q)), (3, (0, v2)), (4, (0, i))] s K := by
      intro m
      induction m with
      | zero =>
        intro i v2 i0 e hv2 hiff
        refine s_M_order_24 ⟨fun z => by omega, fun _ => ⟨fun z => kb (fun y => ?_), fun z => ?_⟩⟩
        · have := hiff.2 ⟨y.1, fun k a b => y.2 k a (by omega)⟩; omega
        · have hx := hiff.1 (by omega)
          have kg2 := kg hx.1 (fun k a b => hx.2 k a (by omega))
          rw [e20, st_ne (by omega), e20]
          refine ⟨kg2.1, fun y => inb_i (by omega) (by omega) ?_⟩
          rw [st_self, st_ne (by omega), st_ne (by omega), e20, w32_id (by omega) (by omega)]
          exact kg2.2 y
      | succ m ih =>
        intro i v2 i0 e hv2 hiff
        refine s_M_order_24 ⟨fun _ => ⟨fun z => ?_, fun z => ?_⟩, fun z => by omega⟩
        · rw [w32_id (by omega) (by omega)]
          refine ih (i + 1) 0 (by omega) (by omega) (Or.inl rfl) ⟨fun y => by omega, fun y => ?_⟩
          have := hiff.2 ⟨y.1, fun k a b => y.2 k a (by omega)⟩; omega
        · have hx := hiff.1 (by omega)
          rw [w32_id (by omega) (by omega), e373]
          refine inb_i i0 (by omega) ⟨fun y => ih (i + 1) 0 (by omega) (by omega) (Or.inl rfl) ⟨fun x => by omega, fun x => absurd y (x.2 i i0 (by omega))⟩, fun y => ih (i + 1) 1 (by omega) (by omega) (Or.inr rfl) ⟨fun _ => ⟨hx.1, fun k a b => ?_⟩, fun _ => rfl⟩⟩
          by_cases w : k = i
          · rw [w]; exact y
          · exact hx.2 k a (by omega)
    exact go (σ 356 20).toNat 0 v (Int.le_refl 0) (by omega) hv ⟨fun z => ⟨z, fun k a b => by omega⟩, fun z => z.1⟩
  -- the model's entry
  have en : ∀ (s : Mem) (K : Int → Mem → Prop), 0 ≤ g → g < 5 → g < σ 356 0 → (∀ b j, 356 ≤ b → ¬ (b = 373) → s b j = σ b j ∨ True) → (∀ b j, 356 ≤ b → s b j = σ b j) → (∀ s2 : Mem, (∀ b j, ¬ b = 379 → s2 b j = s b j) → AW2 i_M_order (d + 3) 24 [] [(0, (2, 356)), (1, (0, g)), (2, (0, q)), (3, (0, if isL (σ 357 g) 0 q = true ∧ (σ 356 20 = 0 ∨ σ 356 21 = g) then 1 else 0)), (4, (0, 0))] s2 K) → AM2 i_M_order (d + 3) [(2, 356), (0, g), (0, q)] s K := by
    intro s K g0 g5 g1 _ f k
    have hq := giv_P2 (σ1 := s) hI (fun b j x y => f b j x)
    have hn := (hI.2.2.2 g g0 g1).1.1
    have e0 : mG s = σ 356 0 := f _ _ (by omega)
    have e7 : s 357 g = σ 357 g := f _ _ (by omega)
    refine e_M_order fun _ _ => M_isGiving_ok hq.1 (fun _ _ => br1 (M_isOrder_ok g0 (by omega) (by omega) (by omega) (fun s2 x1 x2 => ?_))) (fun z => absurd ⟨g0, by omega⟩ z)
    have kk := k s2 (fun b j z => x2 b j (by omega))
    rw [e7]
    rw [x2 356 20 (by omega), x2 356 21 (by omega), f 356 20 (by omega), f 356 21 (by omega)]
    cases hl : isL (σ 357 g) 0 q with
    | false =>
      rw [if_neg (by decide)]
      rw [if_neg (by rw [hl]; intro z; exact absurd z.1 (by decide))] at kk
      exact br0 kk
    | true =>
      rw [if_pos rfl]
      refine br1 ⟨fun z => ?_, fun z => ⟨fun y => ?_, fun y => ?_⟩⟩
      · rw [if_pos ⟨hl, Or.inl z⟩] at kk; exact kk
      · rw [if_pos ⟨hl, Or.inr y⟩] at kk; exact kk
      · rw [if_neg (by intro x; rcases x.2 with w | w <;> contradiction)] at kk; exact kk
  refine e_X_order fun _ _ => Xg hI (fun g0 g5 g1 hA hB hC => br1 ?_) (fun c => br0 (e_M_order fun _ _ => Mg hI (fun a _ b _ _ _ => absurd ⟨a, b⟩ c) (fun _ => br0 (same _ σ (fun _ _ _ _ => rfl)))))
  have hn := hA.1
  -- a refusal of the order or the giving
  have bad : ∀ s : Mem, (∀ b j, ¬ b = 304 → s b j = σ b j) → ¬ (isL (σ 357 g) 0 q = true ∧ (σ 356 20 = 0 ∨ σ 356 21 = g) ∧ ∀ k, 0 ≤ k → k < σ 356 20 → ¬ σ 373 k = q) → AM2 i_M_order (d + 3) [(2, 356), (0, g), (0, q)] s (fun w2 σ2 => P (-1) w2 σ2) := by
    intro s f c
    refine en s _ g0 g5 g1 (fun _ _ _ _ => Or.inr trivial) (fun b j z => f b j (by omega)) (fun s2 f2 => ?_)
    refine mo s2 _ 0 _ (by rw [f2 _ _ (by omega), f _ _ (by omega)]) (fun j => by rw [f2 _ _ (by omega), f _ _ (by omega)]) (by split <;> omega) (fun _ => same _ s2 (fun b j y1 y2 => by rw [f2 b j y2, f b j y1])) (fun z y => ?_)
    by_cases w : isL (σ 357 g) 0 q = true ∧ (σ 356 20 = 0 ∨ σ 356 21 = g)
    · exact absurd ⟨w.1, w.2, y⟩ c
    · rw [if_neg w] at z; omega
  have body : (σ 356 20 = 0 ∨ σ 356 21 = g) → chkK (4 + 43 * g) 3 (AM2 i_X_readLine (d + 2) [(0, q), (0, σ (4 + 43 * g) 1), (0, 0), (2, 304)] σ (fun w2 σ2 => (w2 = 0 → AM2 i_M_order (d + 3) [(2, 356), (0, g), (0, q)] σ2 (fun w2 σ2 => P (-1) w2 σ2)) ∧ (¬ w2 = 0 → AM2 i_Evens_isTold (d + 2) [(2, 332), (0, q)] σ2 (fun w3 σ3 => (w3 = 0 → ((σ3 332 1) < 6 → AM2 i_Evens_add (d + 2) [(2, 332), (0, g), (0, q)] σ3 (fun w4 σ4 => AM2 i_M_order (d + 3) [(2, 356), (0, g), (0, q)] σ4 (fun w2 σ2 => P (σ4 332 1) w2 σ2))) ∧ (¬ (σ3 332 1) < 6 → AM2 i_M_order (d + 3) [(2, 356), (0, g), (0, q)] σ3 (fun w2 σ2 => P (-3) w2 σ2))) ∧ (¬ w3 = 0 → AM2 i_M_order (d + 3) [(2, 356), (0, g), (0, q)] σ3 (fun w2 σ2 => P (-1) w2 σ2)))))) := by
    intro hg
    refine chkK_i (gF g0 (by omega)).1.1 ?_
    rw [hA.2.1.1]
    refine X_readLine_ok (by omega) (by omega) (Int.le_refl 0) (by decide) rfl (by rw [show sN 304 = 7 from rfl]; omega) (fun s hl hx f => br1 ?_) (fun s hl f => br0 (bad s (fun b j z => f b j (by omega)) (fun z => by rw [hl] at z; exact absurd z.1 (by decide))))
    have f' : ∀ b j, ¬ b = 304 → s b j = σ b j := fun b j z => f b j (by omega)
    have e1 : s 332 1 = σ 356 20 := by rw [f' _ _ (by omega), o1]
    have h333 : ∀ k, 0 ≤ k → k < σ 356 20 → s 333 k = σ 373 k := fun k a b => by rw [f' _ _ (by omega)]; exact ((o4 (by omega)).2.2.2 k a b).1
    refine isTold_ok (by omega) (fun k a b e => br1 (bad s f' (fun z => z.2.2 k a (by omega) (by rw [← h333 k a (by omega)]; exact e)))) (fun hno => br0 ?_)
    have hno2 : ∀ k, 0 ≤ k → k < σ 356 20 → ¬ σ 373 k = q := fun k a b z => hno k a (by omega) (by rw [h333 k a b]; exact z)
    have hv : (if isL (σ 357 g) 0 q = true ∧ (σ 356 20 = 0 ∨ σ 356 21 = g) then (1 : Int) else 0) = 1 := if_pos ⟨hl, hg⟩
    rw [e1]
    refine ⟨fun c6 => e_Evens_add fun _ _ => ?_, fun c6 => ?_⟩
    · rw [e1]
      refine ⟨fun _ => ?_, fun z => by omega⟩
      (try simp (disch := omega) only [w32_id, w64_id, inb_eq, st_self, st_ne, pt3, ck_g, ck_am, ck_he, ck_sz, ck_ls, ck_lv, ck_pa, ck_kn, sn_am, sn_he, sn_sz, sn_ls, sn_lv, sn_pa, sn_kn, pt_am, pt_he, pt_sz, pt_ls, pt_lv, pt_pa, pt_kn, ck_lr, ck_vr, ck_pr, sn_lr, sn_vr, sn_pr, pt_lr, pt_vr, pt_pr, pt_sh, ck_sh, pt_to, ck_to, sn_to, e1])
      generalize hs3 : st (st (st s 332 2 g) 333 (σ 356 20) q) 332 1 (σ 356 20 + 1) = s3
      have f3 : ∀ b j, ¬ b = 304 → ¬ (b = 332 ∧ (j = 1 ∨ j = 2)) → ¬ (b = 333 ∧ j = σ 356 20) → s3 b j = σ b j := fun b j y1 y2 y3 => by rw [← hs3, st_ne (by omega), st_ne (by omega), st_ne (by omega), f' b j y1]
      have w1 : s3 332 1 = σ 356 20 + 1 := by rw [← hs3, st_self]
      have w2 : s3 332 2 = g := by rw [← hs3, st_ne (by omega), st_ne (by omega), st_self]
      have w3 : s3 333 (σ 356 20) = q := by rw [← hs3, st_ne (by omega), st_self]
      first | rw [w1] | skip
      refine en s3 _ g0 g5 g1 (fun _ _ _ _ => Or.inr trivial) (fun b j z => f3 b j (by omega) (by omega) (by omega)) (fun s4 f4 => ?_)
      rw [hv]
      refine mo s4 1 0 _ (by rw [f4 _ _ (by omega), f3 _ _ (by omega) (by omega) (by omega)]) (fun j => by rw [f4 _ _ (by omega), f3 _ _ (by omega) (by omega) (by omega)]) (Or.inr rfl) (fun z => absurd ⟨rfl, hno2⟩ z) (fun _ _ => ⟨fun z => by omega, fun _ => ?_⟩)
      have f5 : ∀ b j, ¬ b = 304 → ¬ b = 379 → ¬ (b = 332 ∧ (j = 1 ∨ j = 2)) → ¬ (b = 333 ∧ j = σ 356 20) → ¬ (b = 373 ∧ j = σ 356 20) → ¬ (b = 356 ∧ (j = 20 ∨ j = 21)) → st (st (st s4 356 21 g) 373 (σ 356 20) q) 356 20 (σ 356 20 + 1) b j = σ b j := fun b j y1 y2 y3 y4 y5 y6 => by rw [st_ne (by omega), st_ne y5, st_ne (by omega), f4 b j y2, f3 b j y1 y3 y4]
      refine h _ _ (fun b j y1 y2 y3 y4 y5 y6 => f5 b j y1 y2 y3 (by omega) (by omega) y6) ⟨⟨?_, ?_, ?_, fun _ => ⟨?_, ?_, ?_, fun k k0 k1 => ?_⟩⟩, EvI_fr (fun b j z => f5 b j (by omega) (by omega) (by omega) (by omega) (by omega) (by omega)) oI⟩
      · rw [st_self, st_ne (by omega), st_ne (by omega), st_ne (by omega), f4 _ _ (by omega), w1]
      · rw [st_self]; omega
      · rw [st_self]; omega
      · rw [st_ne (by omega), st_ne (by omega), st_ne (by omega), f4 _ _ (by omega), w2, st_ne (by omega), st_ne (by omega), st_self]
      · rw [st_ne (by omega), st_ne (by omega), st_self]; exact g0
      · rw [st_ne (by omega), st_ne (by omega), st_self, f5 _ _ (by omega) (by omega) (by omega) (by omega) (by omega) (by omega)]; exact g1
      · rw [st_self] at k1
        have e21 : st (st (st s4 356 21 g) 373 (σ 356 20) q) 356 20 (σ 356 20 + 1) 356 21 = g := by rw [st_ne (by omega), st_ne (by omega), st_self]
        rw [e21, f5 357 g (by omega) (by omega) (by omega) (by omega) (by omega) (by omega)]
        by_cases z : k = σ 356 20
        · have e3 : st (st (st s4 356 21 g) 373 (σ 356 20) q) 356 20 (σ 356 20 + 1) 373 (σ 356 20) = q := by rw [st_ne (by omega), st_self]
          rw [z, e3, st_ne (by omega), st_ne (by omega), st_ne (by omega), f4 _ _ (by omega), w3]; exact ⟨rfl, hl⟩
        · rw [f5 333 k (by omega) (by omega) (by omega) (by omega) (by omega) (by omega), f5 373 k (by omega) (by omega) (by omega) (by omega) (by omega) (by omega)]
          have hk := (o4 (by omega)).2.2.2 k k0 (by omega)
          rcases hg with y | y
          · omega
          · rw [← y]; exact hk
    · refine en s _ g0 g5 g1 (fun _ _ _ _ => Or.inr trivial) (fun b j z => f' b j (by omega)) (fun s4 f4 => ?_)
      rw [hv]
      exact mo s4 1 0 _ (by rw [f4 _ _ (by omega), f' _ _ (by omega)]) (fun j => by rw [f4 _ _ (by omega), f' _ _ (by omega)]) (Or.inr rfl) (fun z => absurd ⟨rfl, hno2⟩ z) (fun _ _ => ⟨fun _ => same _ s4 (fun b j y1 y2 => by rw [f4 b j y2, f' b j y1]), fun z => by omega⟩)
  rw [pt3 g0 g5, o1]
  refine ⟨fun c => ?_, fun c => inb_i g0 g5 (body (Or.inl (by omega)))⟩
  have o5 := o4 c
  rw [o5.1]
  exact ⟨fun c2 => inb_i g0 g5 (body (Or.inr c2)), fun c2 => bad σ (fun _ _ _ => rfl) (fun z => by rcases z.2.1 with w | w <;> omega)⟩
