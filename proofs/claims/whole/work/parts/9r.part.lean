-- ===== parted: pair of calls
def I_part (σ : Mem) : Prop := (σ 316 3 = -1 ∨ ∃ g, 0 ≤ g ∧ g < σ 356 0 ∧ σ 316 3 = 4 + 43 * g) ∧ ∀ g, 0 ≤ g → g < σ 356 0 → σ 316 3 = 4 + 43 * g → ∃ l, PtL (σ 357 g) (σ 358 g) (cam σ g) l (ctb σ g) 60 ∧ PtS σ l
theorem PtS_fr {σ s : Mem} {l : List (Int × Int)} (f : ∀ b j, 316 ≤ b → b ≤ 318 → s b j = σ b j) (h : PtS σ l) : PtS s l :=
  ⟨by rw [f _ _ (by omega) (by omega)]; exact h.1, h.2.1, fun i i0 i1 => by rw [f _ _ (by omega) (by omega), f _ _ (by omega) (by omega)]; exact h.2.2 i i0 i1⟩
theorem cam_ctb_fr {σ s : Mem} {g : Int} (f : ∀ b j, (fA g b j ∨ fC g b j) → 357 ≤ b → s b j = σ b j) : cam s g = cam σ g ∧ ctb s g = ctb σ g := by
  refine ⟨funext fun t => ?_, funext fun x => ?_⟩
  · unfold cam; split
    · exact f _ _ (Or.inl (by unfold fA; omega)) (by decide)
    · rfl
  · unfold ctb; split
    · exact f _ _ (Or.inr (by unfold fC; omega)) (by decide)
    · rfl
theorem I_part_fr {σ s : Mem} (f0 : s 356 0 ≥ σ 356 0) (f1 : ∀ b j, 316 ≤ b → b ≤ 318 → s b j = σ b j) (f2 : ∀ g b j, 0 ≤ g → g < σ 356 0 → (fA g b j ∨ fC g b j) → 357 ≤ b → s b j = σ b j) (h : I_part σ) : I_part s := by
  have e3 : s 316 3 = σ 316 3 := f1 _ _ (by decide) (by decide)
  obtain ⟨h1, h2⟩ := h
  refine ⟨?_, fun g g0 g1 e => ?_⟩
  · rcases h1 with z | ⟨g, g0, g1, z⟩
    · exact Or.inl (by rw [e3]; exact z)
    · exact Or.inr ⟨g, g0, by omega, by rw [e3]; exact z⟩
  · rw [e3] at e
    have gb : g < σ 356 0 := by
      rcases h1 with z | ⟨g', g0', g1', z⟩
      · omega
      · omega
    obtain ⟨l, hl, hS⟩ := h2 g g0 gb e
    have hc := cam_ctb_fr (σ := σ) (s := s) (g := g) (fun b j z w => f2 g b j g0 gb z w)
    rw [f2 g 357 g g0 gb (Or.inl (by unfold fA; omega)) (by decide), f2 g 358 g g0 gb (Or.inl (by unfold fA; omega)) (by decide), hc.1, hc.2]
    exact ⟨l, hl, PtS_fr f1 hS⟩
/-- what it may change -/
def PaE (σ σ2 : Mem) : Prop := ∀ b j, ¬ (316 ≤ b ∧ b ≤ 331) → ¬ b = 398 → ¬ (402 ≤ b ∧ b ≤ 404) → σ2 b j = σ b j
theorem call_parted {d : Nat} {σ : Mem} {g i w : Int} {P : Int → Int → Mem → Prop} (hI : I_giv σ) (hQ : I_part σ) (h : ∀ r σ2, PaE σ σ2 → I_part σ2 → P r r σ2) :
    AM2 i_X_parted (d + 9) [(2, 0), (0, g), (0, i), (0, w)] σ (fun w1 σ1 => AM2 i_M_parted (d + 9) [(2, 356), (0, g), (0, i), (0, w)] σ1 (fun w2 σ2 => P w1 w2 σ2)) := by
  have pI : ∀ s : Mem, (∀ b j, ¬ b = 398 → ¬ (402 ≤ b ∧ b ≤ 404) → s b j = σ b j) → PaE σ s ∧ I_part s := fun s f => ⟨fun b j _ z2 z3 => f b j z2 z3, I_part_fr (by rw [f _ _ (by omega) (by omega)]; exact Int.le_refl _) (fun b j _ _ => f b j (by omega) (by omega)) (fun g' b j g0 g1 z w => by
    have := hI.2.2.1
    exact f b j (by unfold fA fC at z; omega) (by unfold fA fC at z; omega)) hQ⟩
  have hh : P (-1) (-1) σ := h _ σ (pI σ (fun _ _ _ _ => rfl)).1 hQ
  by_cases C : 0 ≤ g ∧ g < σ 356 0 ∧ -1 ≤ i ∧ (w = 0 ∨ w = 1)
  · obtain ⟨g0, gb, i0, hw⟩ := C
    obtain ⟨hA, hB, hC⟩ := hI.2.2.2 g g0 gb
    have h5 := hI.2.2.1
    obtain ⟨n1, n2, n3, n4, n5, n6⟩ := hA.1
    obtain ⟨m1, m2, m3⟩ := hA.2.1
    -- the model, till it has looked
    have model : ∀ (s : Mem) (r : Int), (∀ b j, ¬ (316 ≤ b ∧ b ≤ 331) → s b j = σ b j) → (¬ CBP σ g → r = -5) → (CBP σ g → ∀ s2 : Mem, TP s2 398 (σ 357 g) (σ 358 g) (ctb σ g) → (∀ b j, ¬ b = 398 → s2 b j = s b j) → AW2 i_M_parted (d + 9) 49 [] [(0, (2, 356)), (1, (0, g)), (2, (0, i)), (3, (0, w)), (4, (0, 60)), (5, (0, 0))] s2 (fun w2 σ2 => P r w2 σ2)) → (∀ s2 : Mem, (∀ b j, ¬ b = 398 → s2 b j = s b j) → ¬ CBP σ g → P r (-5) s2) → AM2 i_M_parted (d + 9) [(2, 356), (0, g), (0, i), (0, w)] s (fun w2 σ2 => P r w2 σ2) := fun s r f r0 k1 k0 => by
      have fG' : ∀ b j, fG b j → s b j = σ b j := fun b j z => by unfold fG at z; exact f b j (by omega)
      have I2 := I_giv_fr fG' hI
      have e7 : s 357 g = σ 357 g := f _ _ (by omega)
      have e8 : s 358 g = σ 358 g := f _ _ (by omega)
      have e9 : s 359 g = σ 359 g := f _ _ (by omega)
      refine e_M_parted fun _ _ _ => Mg I2 (fun _ _ _ hA2 hB2 hC2 => br1 (brF_i (by omega) (M_in_ok (fun _ _ => br1 (inb_i g0 (by omega) ?_)) (fun z => absurd ⟨by omega, by omega⟩ z)))) (fun c => absurd ⟨g0, by rw [f _ _ (by omega)]; exact gb⟩ c)
      rw [e9]
      refine ⟨fun c => ?_, fun c => k0 s (fun _ _ _ => rfl) (fun z => c z.1)⟩
      refine M_barsOf_ok (d := d + 6) g0 (by omega) (by omega) (by omega) (by omega) (fun t t0 t1 => (hA2.2.2.1 t t0 t1).2) (fun p t p0 p1 t0 t1 => (hC2 p t p0 p1 t0 t1).2) (fun s2 x1 x2 => ?_)
      have eb : barD (s 357 g) (s 358 g) (s 359 g) (fun p t => s 365 (56 * g + 8 * p + t)) (fun p t => s 364 (56 * g + 8 * p + t)) (fun t => s 360 (8 * g + t)) = barD (σ 357 g) (σ 358 g) (σ 359 g) (fun p t => σ 365 (56 * g + 8 * p + t)) (fun p t => σ 364 (56 * g + 8 * p + t)) (fun t => σ 360 (8 * g + t)) := by
        rw [e7, e8, e9]
        exact barD_congr (fun p t _ _ _ _ => ⟨f _ _ (by omega), f _ _ (by omega)⟩) (fun t _ _ => f _ _ (by omega))
      rw [eb]
      have f2 : ∀ b j, ¬ b = 398 → s2 b j = s b j := fun b j z => x2 b j (by omega)
      refine ⟨fun c2 => ?_, fun c2 => k0 s2 f2 (fun z => c2 z.2.1)⟩
      have hT2 : TP s2 398 (σ 357 g) (σ 358 g) (ctb σ g) := fun p t p0 p1 t0 t1 => by
        rw [x1 _ (by omega) (by omega), f _ _ (by omega), ctb_e (by omega) (by omega)]
      have hFB := ctb_FB hA hC
      have l29 : ∀ (q : Nat) (p : Int), 0 ≤ p → p + q = σ 357 g → (∀ x, 0 ≤ x → x < p → rowS (σ 358 g) (ctb σ g) x = 60) → AW2 i_M_parted (d + 9) 29 [] [(0, (2, 356)), (1, (0, g)), (2, (0, i)), (3, (0, w)), (4, (0, p))] s2 (fun w2 σ2 => P r w2 σ2) := by
        intro q
        induction q with
        | zero =>
          intro p p0 e hx
          refine s_M_parted_29 (inb_i g0 (by omega) ?_)
          rw [f2 357 g (by omega), e7]
          exact brF_i (by omega) (k1 ⟨c, c2, fun x x0 x1 => hx x x0 (by omega)⟩ s2 hT2 f2)
        | succ q ih =>
          intro p p0 e hx
          refine s_M_parted_29 (inb_i g0 (by omega) ?_)
          rw [f2 357 g (by omega), e7]
          refine brT_i (by omega) (M_rowS_ok (d := d + 7) (n := σ 357 g) (m := σ 358 g) (F := ctb σ g) g0 (by omega) (by rw [f2 _ _ (by omega)]; exact e8) (by omega) p0 (by omega) (by omega) hT2 hFB ?_)
          rw [w32_id (x := p + 1) (by omega) (by omega)]
          refine ⟨fun c3 => ih (p + 1) (by omega) (by omega) (fun x x0 x1 => ?_), fun c3 => k0 s2 f2 (fun z => c3 (z.2.2 p p0 (by omega)))⟩
          by_cases y : x = p
          · rw [y]; exact c3
          · exact hx x x0 (by omega)
      exact l29 (σ 357 g).toNat 0 (Int.le_refl 0) (by omega) (fun x a b => by omega)
    refine e_X_parted fun _ _ _ => Xg hI (fun _ g5 _ _ _ _ => br1 (brF_i (by omega) (X_isNoSide_ok (fun _ => br0 (inb_i g0 (by omega) ?_)) (fun z => absurd hw z)))) (fun c => absurd ⟨g0, gb⟩ c)
    rw [pt3 g0 g5, ck_g g0 (by omega)]
    refine X_canBeParted_ok (d := d + 5) g0 (by omega) hA hB hC (fun hcb => br1 ?_) (fun hcb => br0 ?_)
    · have hPT := CBP_PT hA hC hcb
      have hcm := cam_r hA
      refine X_split_ok (d := d + 4) (n := σ 357 g) (m := σ 358 g) (am := cam σ g) (T := ctb σ g) g0 (by omega) m1 m2 (by omega) (by omega) (fun t t0 t1 => ⟨(hcm t t0 t1).1, (hcm t t0 t1).2.2⟩) (fun p t p0 p1 t0 t1 => by rw [(hC p t p0 p1 t0 t1).1, ctb_e (by omega) (by omega), show 56 * g + (8 * p + t) = 56 * g + 8 * p + t by omega]) hPT (fun z => hQ.2 g g0 gb z) ?_ (fun l s2 hl hS e3 f2 => ?_)
      · rcases hQ.1 with z | ⟨g', g0', _, z⟩ <;> omega
      · have hQ2 : I_part s2 := by
          have e0 : s2 356 0 = σ 356 0 := f2 _ _ (by omega)
          refine ⟨Or.inr ⟨g, g0, by omega, e3⟩, fun g' g0' g1' z => ?_⟩
          have eg : g' = g := by omega
          have hc := cam_ctb_fr (σ := σ) (s := s2) (g := g) (fun b j _ w => f2 b j (by omega))
          rw [eg, f2 _ _ (by omega), f2 _ _ (by omega), hc.1, hc.2]
          exact ⟨l, hl, hS⟩
        -- what the model then says
        have tail : ∀ r : Int, r = ansP l i w → AM2 i_M_parted (d + 9) [(2, 356), (0, g), (0, i), (0, w)] s2 (fun w2 σ2 => P r w2 σ2) := fun r er => by
          refine model s2 r f2 (fun z => absurd hcb z) (fun _ s3 hT3 f3 => ?_) (fun _ _ z => absurd hcb z)
          refine M_part_ok (d := d) (n := σ 357 g) (m := σ 358 g) (am := cam σ g) (T := ctb σ g) (l := l) g0 (by omega) (by rw [f3 _ _ (by omega)]; exact f2 _ _ (by omega)) (by rw [f3 _ _ (by omega)]; exact f2 _ _ (by omega)) (by omega) (by omega) (fun t t0 t1 => by rw [f3 _ _ (by omega), f2 _ _ (by omega)]; exact (hcm t t0 t1).2) i0 hw hPT hT3 hl (fun s4 f4 => ?_)
          rw [← er]
          have f5 : ∀ b j, ¬ b = 398 → ¬ (402 ≤ b ∧ b ≤ 404) → s4 b j = s2 b j := fun b j z1 z2 => by rw [f4 b j z1 z2]; exact f3 b j z1
          refine h r s4 (fun b j z1 z2 z3 => by rw [f5 b j z2 z3]; exact f2 b j z1) (I_part_fr (by rw [f5 _ _ (by omega) (by omega)]; exact Int.le_refl _) (fun b j _ _ => f5 b j (by omega) (by omega)) (fun g' b j g0' g1' z w => ?_) hQ2)
          have e0 : s2 356 0 = σ 356 0 := f2 _ _ (by omega)
          exact f5 b j (by unfold fA fC at z; omega) (by unfold fA fC at z; omega)
        have h60 := hS.2.1
        refine ⟨fun c => ?_, fun c => ⟨fun c2 => ⟨fun cw => inb_i (by omega) (by rw [hS.1] at c2; omega) ?_, fun cw => inb_i (by omega) (by rw [hS.1] at c2; omega) ?_⟩, fun c2 => ?_⟩⟩
        · rw [hS.1]
          exact tail _ (by unfold ansP; rw [if_pos c])
        · rw [hS.1] at c2
          refine tail _ ?_
          unfold ansP
          rw [if_neg c, if_pos c2, if_pos cw, (hS.2.2 i (by omega) c2).1]
        · rw [hS.1] at c2
          refine tail _ ?_
          unfold ansP
          rw [if_neg c, if_pos c2, if_neg cw, (hS.2.2 i (by omega) c2).2]
        · rw [hS.1] at c2
          exact tail _ (by unfold ansP; rw [if_neg c, if_neg c2])
    · refine model σ (-5) (fun _ _ _ => rfl) (fun _ => rfl) (fun z => absurd z hcb) (fun s2 f2 _ => ?_)
      have := pI s2 (fun b j z1 _ => f2 b j z1)
      exact h _ s2 this.1 this.2
  · have bad : AM2 i_M_parted (d + 9) [(2, 356), (0, g), (0, i), (0, w)] σ (fun w2 σ2 => P (-1) w2 σ2) :=
      e_M_parted fun _ _ _ => Mg hI (fun g0 _ gb _ _ _ => br1 ⟨fun _ => hh, fun c => M_in_ok (fun y1 y2 => absurd ⟨g0, gb, by omega, by omega⟩ C) (fun _ => br0 hh)⟩) (fun _ => br0 hh)
    refine e_X_parted fun _ _ _ => Xg hI (fun g0 g5 gb _ _ _ => br1 ⟨fun _ => bad, fun c => X_isNoSide_ok (fun hw => absurd ⟨g0, gb, by omega, hw⟩ C) (fun _ => br1 bad)⟩) (fun _ => br0 bad)
