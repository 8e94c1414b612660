def YeE (σ σ2 : Mem) : Prop := ∀ b j, ¬ (285 ≤ b ∧ b ≤ 304) → ¬ b = 306 → ¬ (379 ≤ b ∧ b ≤ 384) → ¬ b = 406 → σ2 b j = σ b j
theorem Fill_J_ok {d : Nat} {K : Int → Mem → Prop} {σ : Mem} {b v : Int} (hk : sK b = 101) (h0 : 0 ≤ sN b) (hn : sN b ≤ 1000) (h : ∀ σ2 : Mem, (∀ i, 0 ≤ i → i < sN b → σ2 b i = v) → (∀ x j, ¬ (x = b ∧ 0 ≤ j ∧ j < sN b) → σ2 x j = σ x j) → K 0 σ2) : AM2 i_Arrays_fill_J (d + 1) [(2, b), (1, v)] σ K :=
  e_Arrays_fill_J fun _ => ⟨by rw [hk]; exact ⟨by decide, by decide⟩, fill_J hk hn (sN b).toNat σ 0 (Int.le_refl 0) (by omega) h⟩
theorem call_years {d : Nat} {σ : Mem} {g q n w : Int} {P : Int → Int → Mem → Prop} (hI : I_giv σ) (h : ∀ r σ2, YeE σ σ2 → P r r σ2) :
    AM2 i_X_years (d + 4) [(2, 0), (0, g), (0, q), (0, n), (0, w)] σ (fun w1 σ1 => AM2 i_M_years (d + 4) [(2, 356), (0, g), (0, q), (0, n), (0, w)] σ1 (fun w2 σ2 => P w1 w2 σ2)) := by
  have bad : ∀ s : Mem, (∀ b j, ¬ b = 304 → s b j = σ b j) → ¬ ((0 ≤ g ∧ g < σ 356 0) ∧ isL (σ 357 g) 0 q = true ∧ (1 ≤ n ∧ n ≤ 9) ∧ (w = -1 ∨ 0 ≤ w ∧ w < σ 357 g)) → AM2 i_M_years (d + 4) [(2, 356), (0, g), (0, q), (0, n), (0, w)] s (fun w2 σ2 => P (-1) w2 σ2) := by
    intro s f c
    have hh : ∀ s2 : Mem, (∀ b j, ¬ b = 379 → s2 b j = s b j) → P (-1) (-1) s2 := fun s2 f2 => h _ _ (fun b j y1 y2 y3 y4 => by rw [f2 b j (by omega), f b j (by omega)])
    have hq := giv_P2 (σ1 := s) hI (fun b j x y => f b j (by omega))
    have e0 : mG s = σ 356 0 := f _ _ (by omega)
    refine e_M_years fun _ _ _ _ => M_isGiving_ok hq.1 (fun a b => br1 ?_) (fun _ => br0 (hh s (fun _ _ _ => rfl)))
    have hn := (hI.2.2.2 g a (by omega)).1.1
    have e7 : s 357 g = σ 357 g := f _ _ (by omega)
    refine M_isOrder_ok a (by omega) (by omega) (by omega) (fun s2 x1 x2 => ?_)
    have hs2 := hh s2 (fun b j z => x2 b j (by omega))
    rw [e7]
    cases hl : isL (σ 357 g) 0 q with
    | false => rw [if_neg (by decide)]; exact br0 hs2
    | true =>
      rw [if_pos rfl]
      refine br1 (M_in_ok (fun u v => br1 (inb_i a (by omega) ?_)) (fun _ => br0 hs2))
      rw [x2 357 g (by omega), e7, w32_id (by omega) (by omega)]
      exact M_in_ok (fun x y => absurd ⟨⟨a, by omega⟩, hl, ⟨u, v⟩, by omega⟩ c) (fun _ => br0 hs2)
  refine e_X_years fun _ _ _ _ => Xg hI (fun g0 g5 g1 hA hB hC => br1 ⟨fun c => bad σ (fun _ _ _ => rfl) (by omega), fun c => ⟨fun c2 => bad σ (fun _ _ _ => rfl) (by omega), fun c2 => inb_i g0 g5 ?_⟩⟩) (fun c => br0 (bad σ (fun _ _ _ => rfl) (fun z => c z.1)))
  have hn := hA.1
  have ck := fun {P : Prop} => ck_g (P := P) g0 (show g ≤ 5 by omega)
  have body : (w = -1 ∨ 0 ≤ w ∧ w < σ 357 g) → AM2 i_X_readLine (d + 3) [(0, q), (0, σ (4 + 43 * g) 1), (0, 0), (2, 304)] σ (fun w2 σ2 => (w2 = 0 → AM2 i_M_years (d + 4) [(2, 356), (0, g), (0, q), (0, n), (0, w)] σ2 (fun w2 σ2 => P (-1) w2 σ2)) ∧ (¬ w2 = 0 → AM2 i_Arrays_fill_J (d + 3) [(2, 306), (1, 0)] σ2 (fun w3 σ3 => AW2 i_X_years (d + 4) 40 [] [(0, (2, 0)), (3, (0, n)), (4, (0, w)), (5, (2, 4 + 43 * g)), (6, (0, 0))] σ3 (fun w1 σ1 => AM2 i_M_years (d + 4) [(2, 356), (0, g), (0, q), (0, n), (0, w)] σ1 (fun w2 σ2 => P w1 w2 σ2))))) := by
    intro hw
    rw [hA.2.1.1]
    refine X_readLine_ok (by omega) (by omega) (Int.le_refl 0) (by decide) rfl (by rw [show sN 304 = 7 from rfl]; omega) (fun s hl hx f => br1 ?_) (fun s hl f => br0 (bad s (fun b j z => f b j (by omega)) (fun z => by rw [hl] at z; exact absurd z.2.1 (by decide))))
    have hPM := isL_PM (by omega) (by omega) hl
    refine Fill_J_ok rfl (by decide) (by decide) (fun s1 x1 f1 => ?_)
    rw [show sN 306 = 7 from rfl] at x1 f1
    have fa : ∀ b j, ¬ (285 ≤ b ∧ b ≤ 304) → ¬ b = 306 → s1 b j = σ b j := fun b j y1 y2 => by rw [f1 b j (by omega), f b j (by omega)]
    refine X_years_loop (R := yrs (σ 357 g) (PtG σ g) n.toNat (fun _ => 0, oOf (σ 357 g) q)) (σ := σ) (g := g) (who := w) (N := n) g0 g5 hA hB (by omega) hw (fun s2 f2 => ?_) n.toNat 0 (fun _ => 0, oOf (σ 357 g) q) s1 (Int.le_refl 0) (by omega) hPM.2 (fun p p0 p1 => by rw [x1 p p0 (by omega)]; exact ⟨rfl, Int.le_refl 0, Int.le_refl 0⟩) (fun i i0 i1 => by rw [f1 _ _ (by omega)]; exact hx i i0 i1) fa rfl
    have fm : ∀ b j, 341 ≤ b → s2 b j = σ b j := fun b j x => f2 b j (by omega) (by omega)
    have hq2 := giv_P2 (σ1 := s2) hI (fun b j x y => fm b j (by omega))
    have e0 : mG s2 = σ 356 0 := fm _ _ (by omega)
    have e7 : s2 357 g = σ 357 g := fm _ _ (by omega)
    have hA2 : GA s2 g := GA_fr (fun b j z => f2 b j (by unfold fA at z; omega) (by unfold fA at z; omega)) hA
    have hB2 : GB s2 g := GB_fr (by omega) (fun b j z => f2 b j (by unfold fB at z; omega) (by unfold fB at z; omega)) hB
    refine e_M_years fun _ _ _ _ => M_isGiving_ok hq2.1 (fun _ _ => br1 (M_isOrder_ok g0 (by omega) (by omega) (by omega) (fun s3 x3 f3 => ?_))) (fun z => absurd ⟨g0, by omega⟩ z)
    rw [e7, hl, if_pos rfl]
    refine br1 (M_in_ok (fun _ _ => br1 (inb_i g0 (by omega) ?_)) (fun z => absurd ⟨by omega, by omega⟩ z))
    rw [f3 357 g (by omega), e7, w32_id (by omega) (by omega)]
    refine M_in_ok (fun _ _ => br1 ?_) (fun z => absurd ⟨by omega, by omega⟩ z)
    rw [e7] at x3 f3
    have l30 : ∀ (m : Nat) (i : Int) (s4 : Mem), 0 ≤ i → i + m = 7 → (∀ j, 0 ≤ j → j < i → s4 406 j = 0) → (∀ b j, ¬ b = 406 → s4 b j = s3 b j) → AW2 i_M_years (d + 4) 30 [] [(0, (2, 356)), (1, (0, g)), (3, (0, n)), (4, (0, w)), (5, (0, i))] s4 (fun w2 σ2 => P (yAns (σ 357 g) (yrs (σ 357 g) (PtG σ g) n.toNat (fun _ => 0, oOf (σ 357 g) q)) w) w2 σ2) := by
      intro m
      induction m with
      | zero =>
        intro i s4 i0 e4 x4 f4
        refine s_M_years_30 (brF_i (by omega) ?_)
        have f5 : ∀ b j, ¬ (379 ≤ b ∧ b ≤ 384) → ¬ b = 406 → s4 b j = s2 b j := fun b j z1 z2 => by rw [f4 b j z2, f3 b j (by omega)]
        have ept : PtG s2 g = PtG σ g := by
          funext o p
          unfold PtG
          rw [dlG_fr (fun b j x y => fm b j (by omega)), show glv s2 g p = glv σ g p from funext fun t => fm _ _ (by omega)]
        have := M_years_loop (d := d + 1) (σ := s2) (g := g) (who := w) (N := n) (R := yrs (σ 357 g) (PtG σ g) n.toNat (fun _ => 0, oOf (σ 357 g) q)) (K := fun w2 σ2 => P (yAns (σ 357 g) (yrs (σ 357 g) (PtG σ g) n.toNat (fun _ => 0, oOf (σ 357 g) q)) w) w2 σ2) g0 g5 hA2 hB2 (by omega) (by rw [e7]; exact hw) (fun s5 f6 => by
          rw [e7]
          exact h _ _ (fun b j y1 y2 y3 y4 => by rw [f6 b j y3 y4, f2 b j y1 y2])) n.toNat 0 (fun _ => 0, oOf (σ 357 g) q) s4 (Int.le_refl 0) (by omega) (by rw [e7]; exact hPM.2) (fun p p0 p1 => by rw [x4 p p0 (by omega)]; exact ⟨rfl, Int.le_refl 0, Int.le_refl 0⟩) (fun i i0 i1 => by rw [f4 _ _ (by omega), x3 hPM.1 i i0 (by omega)]; show dgt (σ 357 g).toNat q i = dgt (σ 357 g).toNat q i - 0; omega) f5 (by rw [e7, ept])
        exact this
      | succ m ih =>
        intro i s4 i0 e4 x4 f4
        refine s_M_years_30 (brT_i (by omega) (inb_i i0 (by omega) ?_))
        rw [w32_id (by omega) (by omega)]
        refine ih (i + 1) _ (by omega) (by omega) (fun j j0 j1 => ?_) (fun b j z => by rw [st_ne (by omega), f4 b j z])
        by_cases z : j = i
        · rw [z, st_self]
        · rw [st_ne (by omega)]; exact x4 j j0 (by omega)
    exact l30 7 0 s3 (Int.le_refl 0) rfl (fun j a b => by omega) (fun _ _ _ => rfl)
  rw [pt3 g0 g5]
  refine ⟨fun c3 => ?_, fun c3 => ?_⟩
  · rw [ck]; exact body (Or.inl c3)
  · refine X_isPerson_ok g0 (by omega) (fun u v => br1 ?_) (fun z => br0 (bad σ (fun _ _ _ => rfl) (by have := hA.2.1.1; omega)))
    rw [ck]; exact body (Or.inr ⟨u, by rw [← hA.2.1.1]; exact v⟩)
