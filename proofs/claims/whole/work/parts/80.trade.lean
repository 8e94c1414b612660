-- ===== trades: all point
theorem bit_256 {b : Int} (b0 : 0 ≤ b) (b1 : b < 65536) (h : ∀ u, 8 ≤ u → u < 16 → bt b u = false) : b < 256 := by
  obtain ⟨n, rfl⟩ := Int.eq_ofNat_of_zero_le b0
  have hn : n < 2 ^ 8 := Nat.lt_pow_two_of_testBit n (fun i hi => by
    by_cases c : i < 16
    · have := h i (by omega) (by omega)
      unfold bt at this
      rw [Int.toNat_natCast, Int.toNat_natCast] at this
      exact this
    · exact Nat.testBit_lt_two_pow (Nat.lt_of_lt_of_le (show n < 2 ^ 16 by omega) (Nat.pow_le_pow_right (by decide) (by omega))))
  omega
theorem hoF_iff {h dn : Int → Int} {t : Int} (q : Nat) : decide (0 ≤ hoF h dn t (q + 1) 0) = (decide (0 ≤ hoF h dn t q 0) || decide (dn q = 0 ∧ h q = t)) := by
  have key : 0 ≤ hoF h dn t (q + 1) 0 ↔ (0 ≤ hoF h dn t q 0 ∨ (dn q = 0 ∧ h q = t)) := by
    constructor
    · intro c
      rcases hoF_r (h := h) (dn := dn) (t := t) (q + 1) 0 with z | z
      · omega
      · generalize hoF h dn t (q + 1) 0 = v at *
        by_cases y : v = q
        · rw [y] at z; exact Or.inr z.2.2
        · exact Or.inl (hoF_ex (p := v) q 0 (by omega) (by omega) z.2.2.1 z.2.2.2 (Int.le_refl 0))
    · intro c
      rcases c with c | c
      · rcases hoF_r (h := h) (dn := dn) (t := t) q 0 with z | z
        · omega
        · exact hoF_ex (p := hoF h dn t q 0) (q + 1) 0 (by omega) (by omega) z.2.2.1 z.2.2.2 (Int.le_refl 0)
      · exact hoF_ex (p := (q : Int)) (q + 1) 0 (by omega) (by omega) c.1 c.2 (Int.le_refl 0)
  by_cases c : 0 ≤ hoF h dn t (q + 1) 0
  · rw [decide_eq_true c]
    rcases key.mp c with z | z
    · rw [decide_eq_true z]; rfl
    · rw [decide_eq_true z, Bool.or_true]
  · rw [decide_eq_false c, decide_eq_false (fun z => c (key.mpr (Or.inl z))), decide_eq_false (fun z => c (key.mpr (Or.inr z)))]; rfl
/-- all that aren't done point to one -/
def allP (n : Int) (ls : Int → Int → Int) (sz h dn : Int → Int) : Prop := ∀ p, 0 ≤ p → p < n → dn p = 0 → 0 ≤ ptF n ls sz h dn p
/-- those are done who point to nobody -/
def dnP (n : Int) (ls : Int → Int → Int) (sz h dn : Int → Int) : Int → Int := fun p => if dn p = 0 then (if ptF n ls sz h dn p < 0 then 1 else 0) else 1
theorem ptF_r {n : Int} {ls : Int → Int → Int} {sz h dn : Int → Int} {p : Int} (p0 : 0 ≤ p) (p1 : p < n) : -1 ≤ ptF n ls sz h dn p ∧ ptF n ls sz h dn p < n := by
  unfold ptF
  split
  · omega
  · split
    · omega
    · rcases hoF_r (h := h) (dn := dn) (t := fsT (fun t => decide (0 ≤ hoF h dn t n.toNat 0)) (ls p) (sz p).toNat 0) n.toNat 0 with z | z <;> omega
theorem X_pointAll_ok {d : Nat} {K : Int → Mem → Prop} {s : Mem} {g n m : Int} {ls : Int → Int → Int} {sz h dn : Int → Int} (g0 : 0 ≤ g) (g5 : g ≤ 5) (hL : LGo n m ls sz) (hX : LX s g n m ls sz) (m8 : m ≤ 8) (en : s (4 + 43 * g) 1 = n) (n7 : 0 ≤ n ∧ n ≤ 7) (hh : ∀ o, 0 ≤ o → o < n → s 312 o = h o) (hd : ∀ o, 0 ≤ o → o < n → s 315 o = dn o) (hb : ∀ o, 0 ≤ o → o < n → dn o = 0 → 0 ≤ h o ∧ h o < 8) (hd2 : ∀ o, 0 ≤ o → o < n → dn o = 0 ∨ dn o = 1)
    (k1 : ∀ s2 : Mem, allP n ls sz h dn → (∀ p, 0 ≤ p → p < n → dn p = 0 → s2 314 p = ptF n ls sz h dn p) → (∀ b j, ¬ b = 314 → s2 b j = s b j) → K 1 s2) (k0 : ∀ s2 : Mem, ¬ allP n ls sz h dn → (∀ p, 0 ≤ p → p < n → s2 315 p = dnP n ls sz h dn p) → (∀ b j, ¬ b = 314 → ¬ b = 315 → s2 b j = s b j) → K 0 s2) : AM2 i_Trade_pointAll (d + 2) [(2, 311), (2, 4 + 43 * g)] s K := by
  have ckg := fun {P : Prop} => ck_g (P := P) g0 g5
  -- those who point to nobody are done
  have l70 : ∀ (q : Nat) (p : Int) (s1 : Mem), 0 ≤ p → p + q = n → ¬ allP n ls sz h dn → (∀ o, 0 ≤ o → o < n → dn o = 0 → s1 314 o = ptF n ls sz h dn o) → (∀ o, 0 ≤ o → o < n → s1 315 o = if o < p then dnP n ls sz h dn o else dn o) → (∀ b j, ¬ b = 314 → ¬ b = 315 → s1 b j = s b j) → AW2 i_Trade_pointAll (d + 2) 70 [] [(0, (2, 311)), (1, (2, 4 + 43 * g)), (3, (0, 0)), (4, (0, p))] s1 K := by
    intro q
    induction q with
    | zero =>
      intro p s1 p0 e ha hp hq f
      refine s_Trade_pointAll_70 ?_
      rw [ckg, f (4 + 43 * g) 1 (by omega) (by omega), en]
      exact brF_i (by omega) (boolP_i (Or.inl rfl) (k0 s1 ha (fun o o0 o1 => by rw [hq o o0 o1, if_pos (by omega)]) f))
    | succ q ih =>
      intro p s1 p0 e ha hp hq f
      have hv := hq p p0 (by omega)
      rw [if_neg (by omega)] at hv
      refine s_Trade_pointAll_70 ?_
      rw [ckg, f (4 + 43 * g) 1 (by omega) (by omega), en, hv, w32_id (x := p + 1) (by omega) (by omega)]
      have step : ∀ v : Int, v = dnP n ls sz h dn p → AW2 i_Trade_pointAll (d + 2) 70 [] [(0, (2, 311)), (1, (2, 4 + 43 * g)), (3, (0, 0)), (4, (0, p + 1))] (st s1 315 p v) K := fun v ev => by
        refine ih (p + 1) _ (by omega) (by omega) ha (fun o o0 o1 c => by rw [st_ne (by omega)]; exact hp o o0 o1 c) (fun o o0 o1 => ?_) (fun b j z1 z2 => by rw [st_ne (by omega)]; exact f b j z1 z2)
        by_cases z : o = p
        · rw [z, st_self, if_pos (by omega)]; exact ev
        · rw [st_ne (by omega), hq o o0 o1]
          by_cases y : o < p
          · rw [if_pos y, if_pos (by omega)]
          · rw [if_neg y, if_neg (by omega)]
      refine brT_i (by omega) (brT_i rfl (inb_i p0 (by omega) ⟨fun c => inb_i p0 (by omega) ?_, fun c => inb_i p0 (by omega) (step 1 ?_)⟩))
      · rw [hp p p0 (by omega) c]
        refine ⟨fun c2 => inb_i p0 (by omega) (step 1 ?_), fun c2 => inb_i p0 (by omega) (step 0 ?_)⟩
        · unfold dnP; rw [if_pos c, if_pos c2]
        · unfold dnP; rw [if_pos c, if_neg c2]
      · unfold dnP; rw [if_neg c]
  have l28 : ∀ (q : Nat) (p b a : Int) (s1 : Mem), 0 ≤ p → p + q = n → (0 ≤ b ∧ b < 256) → (∀ t, 0 ≤ t → t < 8 → bt b t = decide (0 ≤ hoF h dn t n.toNat 0)) → (∀ o, 0 ≤ o → o < p → dn o = 0 → s1 314 o = ptF n ls sz h dn o) → (∀ b j, ¬ b = 314 → s1 b j = s b j) → ((a = 1 ∧ ∀ o, 0 ≤ o → o < p → dn o = 0 → 0 ≤ ptF n ls sz h dn o) ∨ (a = 0 ∧ ¬ allP n ls sz h dn)) → AW2 i_Trade_pointAll (d + 2) 28 [] [(0, (2, 311)), (1, (2, 4 + 43 * g)), (2, (0, b)), (3, (0, a)), (4, (0, p))] s1 K := by
    intro q
    induction q with
    | zero =>
      intro p b a s1 p0 e hb1 hbt hp f ha
      refine s_Trade_pointAll_28 ?_
      rw [ckg, f (4 + 43 * g) 1 (by omega), en]
      refine brF_i (by omega) ?_
      rcases ha with ⟨ha, hq⟩ | ⟨ha, hq⟩
      · rw [ha]
        have fin := k1 s1 (fun o o0 o1 => hq o o0 (by omega)) (fun o o0 o1 c => hp o o0 (by omega) c) f
        refine s_Trade_pointAll_70 ?_
        rw [ckg, f (4 + 43 * g) 1 (by omega), en]
        exact ⟨fun _ => brF_i (by decide) (boolP_i (Or.inr rfl) fin), fun _ => boolP_i (Or.inr rfl) fin⟩
      · rw [ha]
        exact l70 n.toNat 0 s1 (Int.le_refl 0) (by omega) hq (fun o o0 o1 c => hp o o0 (by omega) c) (fun o o0 o1 => by rw [if_neg (by omega), f _ _ (by omega)]; exact hd o o0 o1) (fun b j z1 _ => f b j z1)
    | succ q ih =>
      intro p b a s1 p0 e hb1 hbt hp f ha
      have hs := hL.1 p p0 (by omega)
      have es := hX.1 p p0 (by omega)
      refine s_Trade_pointAll_28 ?_
      rw [ckg, f (4 + 43 * g) 1 (by omega), en, f 315 p (by omega), hd p p0 (by omega), w32_id (x := p + 1) (by omega) (by omega)]
      refine brT_i (by omega) (inb_i p0 (by omega) ⟨fun c => ?_, fun c => ?_⟩)
      · rw [ckg]
        refine X_firstOf_ok g0 g5 p0 (by omega) (by rw [f _ _ (by omega), es]; exact hs) hb1.1 hb1.2 (fun i i0 i1 => ?_) ?_
        · rw [f _ _ (by omega), es] at i1
          have := hL.2 p i p0 (by omega) i0 i1
          rw [f _ _ (by omega), hX.2 p i p0 (by omega) i0 i1]
          omega
        · rw [f (7 + 43 * g) p (by omega), es, fsT_congr (c' := fun t => decide (0 ≤ hoF h dn t n.toNat 0)) (ls' := ls p) (sz p).toNat 0 (fun j j0 j1 => by
            have := hL.2 p j p0 (by omega) j0 (by omega)
            have e1 : s1 (9 + 43 * g + p) j = ls p j := by rw [f _ _ (by omega)]; exact hX.2 p j p0 (by omega) j0 (by omega)
            exact ⟨e1, by rw [e1]; exact hbt _ this.1 (by omega)⟩)]
          -- with where it points
          have go : ∀ v : Int, v = ptF n ls sz h dn p → (a = 0 → AW2 i_Trade_pointAll (d + 2) 28 [] [(0, (2, 311)), (1, (2, 4 + 43 * g)), (2, (0, b)), (3, (0, 0)), (4, (0, p + 1))] (st s1 314 p v) K) ∧ (¬ a = 0 → inb p 7 ((st s1 314 p v 314 p < 0 → AW2 i_Trade_pointAll (d + 2) 28 [] [(0, (2, 311)), (1, (2, 4 + 43 * g)), (2, (0, b)), (3, (0, 0)), (4, (0, p + 1))] (st s1 314 p v) K) ∧ (¬ st s1 314 p v 314 p < 0 → AW2 i_Trade_pointAll (d + 2) 28 [] [(0, (2, 311)), (1, (2, 4 + 43 * g)), (2, (0, b)), (3, (0, 1)), (4, (0, p + 1))] (st s1 314 p v) K))) := by
            intro v ev
            have nx : ∀ a2 : Int, ((a2 = 1 ∧ ∀ o, 0 ≤ o → o < p + 1 → dn o = 0 → 0 ≤ ptF n ls sz h dn o) ∨ (a2 = 0 ∧ ¬ allP n ls sz h dn)) → AW2 i_Trade_pointAll (d + 2) 28 [] [(0, (2, 311)), (1, (2, 4 + 43 * g)), (2, (0, b)), (3, (0, a2)), (4, (0, p + 1))] (st s1 314 p v) K := fun a2 h2 => by
              refine ih (p + 1) b a2 _ (by omega) (by omega) hb1 hbt (fun o o0 o1 c2 => ?_) (fun b j z => by rw [st_ne (by omega)]; exact f b j z) h2
              by_cases z : o = p
              · rw [z, st_self]; exact ev
              · rw [st_ne (by omega)]; exact hp o o0 (by omega) c2
            rw [st_self]
            rcases ha with ⟨ha, hq⟩ | ⟨ha, hq⟩
            · refine ⟨fun z => by omega, fun _ => inb_i p0 (by omega) ⟨fun z => nx 0 (Or.inr ⟨rfl, fun w => ?_⟩), fun z => nx 1 (Or.inl ⟨rfl, fun o o0 o1 c2 => ?_⟩)⟩⟩
              · have := w p p0 (by omega) c; omega
              · by_cases y : o = p
                · rw [y]; omega
                · exact hq o o0 (by omega) c2
            · exact ⟨fun _ => nx 0 (Or.inr ⟨rfl, hq⟩), fun z => absurd ha z⟩
          have ef : ptF n ls sz h dn p = if fsT (fun t => decide (0 ≤ hoF h dn t n.toNat 0)) (ls p) (sz p).toNat 0 = -1 then -1 else if h p = fsT (fun t => decide (0 ≤ hoF h dn t n.toNat 0)) (ls p) (sz p).toNat 0 then p else hoF h dn (fsT (fun t => decide (0 ≤ hoF h dn t n.toNat 0)) (ls p) (sz p).toNat 0) n.toNat 0 := rfl
          have hc := fsT_cases (c := fun t => decide (0 ≤ hoF h dn t n.toNat 0)) (ls := ls p) (sz p).toNat 0
          generalize fsT (fun t => decide (0 ≤ hoF h dn t n.toNat 0)) (ls p) (sz p).toNat 0 = t at *
          refine ⟨fun z => ?_, fun z => ?_⟩
          · have et : t = -1 := by
              rcases hc with y | ⟨j, j0, j1, ej, _⟩
              · exact y.1
              · have := hL.2 p j p0 (by omega) j0 (by omega)
                omega
            rw [if_pos et] at ef
            exact inb_i p0 (by omega) (go (-1) ef.symm)
          · rw [if_neg (by omega)] at ef
            refine X_holderOf_ok (d := d) (n := n) (h := h) (dn := dn) g0 g5 (by rw [f _ _ (by omega)]; exact en) n7 p0 (by omega) (fun o o0 o1 => by rw [f _ _ (by omega)]; exact hh o o0 o1) (fun o o0 o1 => by rw [f _ _ (by omega)]; exact hd o o0 o1) ?_
            rw [← ef]
            exact inb_i p0 (by omega) (go _ rfl)
      · refine ih (p + 1) b a s1 (by omega) (by omega) hb1 hbt (fun o o0 o1 c2 => ?_) f ?_
        · by_cases z : o = p
          · rw [z] at c2; exact absurd c2 c
          · exact hp o o0 (by omega) c2
        · rcases ha with ⟨ha, hq⟩ | ha
          · refine Or.inl ⟨ha, fun o o0 o1 c2 => ?_⟩
            by_cases z : o = p
            · rw [z] at c2; exact absurd c2 c
            · exact hq o o0 (by omega) c2
          · exact Or.inr ha
  have l4 : ∀ (q i : Nat) (b : Int), (i : Int) + q = n → (0 ≤ b ∧ b < 65536) → (∀ t, 0 ≤ t → t < 16 → bt b t = decide (0 ≤ hoF h dn t i 0)) → AW2 i_Trade_pointAll (d + 2) 4 [] [(0, (2, 311)), (1, (2, 4 + 43 * g)), (2, (0, b)), (3, (0, (i : Int)))] s K := by
    intro q
    induction q with
    | zero =>
      intro i b e hb1 hbt
      have ei : n.toNat = i := by omega
      refine s_Trade_pointAll_4 ?_
      rw [ckg, en]
      refine brF_i (by omega) (l28 n.toNat 0 b 1 s (Int.le_refl 0) (by omega) ⟨hb1.1, bit_256 hb1.1 hb1.2 (fun u u0 u1 => ?_)⟩ (fun t t0 t1 => by rw [ei]; exact hbt t t0 (by omega)) (fun o o0 o1 => by omega) (fun _ _ _ => rfl) (Or.inl ⟨rfl, fun o o0 o1 => by omega⟩))
      rw [hbt u (by omega) u1]
      rcases hoF_r (h := h) (dn := dn) (t := u) i 0 with z | z
      · exact decide_eq_false (by omega)
      · have := hb _ z.1 (by omega) z.2.2.1
        omega
    | succ q ih =>
      intro i b e hb1 hbt
      refine s_Trade_pointAll_4 ?_
      rw [ckg, en, hd i (by omega) (by omega), hh i (by omega) (by omega), w32_id (x := (i : Int) + 1) (by omega) (by omega)]
      refine brT_i (by omega) (inb_i (by omega) (by omega) ⟨fun c => inb_i (by omega) (by omega) ?_, fun c => ?_⟩)
      · have hv := hb i (by omega) (by omega) c
        have ho := bit_or (b := b) (t := h i) hb1.1 hb1.2 hv.1 (by omega)
        refine ih (i + 1) _ (by omega) ho.1 (fun t t0 t1 => ?_)
        rw [ho.2 t t0, hbt t t0 t1, hoF_iff]
        congr 1
        by_cases z : h i = t
        · rw [decide_eq_true z.symm, decide_eq_true ⟨c, z⟩]
        · rw [decide_eq_false (fun w => z w.symm), decide_eq_false (fun w => z w.2)]
      · refine ih (i + 1) b (by omega) hb1 (fun t t0 t1 => ?_)
        rw [hbt t t0 t1, hoF_iff, show decide (dn (i : Int) = 0 ∧ h (i : Int) = t) = false from decide_eq_false (fun w => c w.1), Bool.or_false]
  exact e_Trade_pointAll (l4 n.toNat 0 0 (by omega) (by decide) (fun t t0 t1 => by rw [bit_0]; rfl))
