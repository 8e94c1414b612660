-- ===== rows compared
def CSl (m : Int) (lv A : Int → Int) (l : Int) : Int := sm (fun t => if 0 ≤ lv t ∧ lv t ≤ l then A t else 0) m.toNat 0 0
def gtL (m : Int) (lv A : Int → Int) (B1 : Int) (C : Int → Int) (B2 : Int) : Prop := ∃ l, 0 ≤ l ∧ l < 8 ∧ CSl m lv C l * B1 < CSl m lv A l * B2
def CmpR (m : Int) (lv A : Int → Int) (B1 : Int) (C : Int → Int) (B2 r : Int) : Prop :=
  (r = 2 ∧ gtL m lv A B1 C B2 ∧ gtL m lv C B2 A B1) ∨ (r = 1 ∧ gtL m lv A B1 C B2 ∧ ¬ gtL m lv C B2 A B1) ∨ (r = -1 ∧ ¬ gtL m lv A B1 C B2 ∧ gtL m lv C B2 A B1) ∨ (r = 0 ∧ ¬ gtL m lv A B1 C B2 ∧ ¬ gtL m lv C B2 A B1)
theorem CmpR_u {m B1 B2 r r' : Int} {lv A C : Int → Int} (h : CmpR m lv A B1 C B2 r) (h' : CmpR m lv A B1 C B2 r') : r = r' := by
  rcases h with ⟨e, a, b⟩ | ⟨e, a, b⟩ | ⟨e, a, b⟩ | ⟨e, a, b⟩ <;> rcases h' with ⟨e', a', b'⟩ | ⟨e', a', b'⟩ | ⟨e', a', b'⟩ | ⟨e', a', b'⟩ <;> first | omega | exact absurd a a' | exact absurd a' a | exact absurd b b' | exact absurd b' b
/-- of the first ones of a list -/
def inL (ls : Int → Int) : Nat → Int → Bool
  | 0, _ => false
  | c + 1, t => inL ls c t || decide (ls c = t)
theorem inL_iff {ls : Int → Int} {t : Int} : ∀ c : Nat, inL ls c t = true ↔ ∃ i : Int, 0 ≤ i ∧ i < c ∧ ls i = t
  | 0 => ⟨fun h => absurd h (by show ¬ false = true; decide), fun ⟨i, a, b, _⟩ => by omega⟩
  | c + 1 => by
    have e : inL ls (c + 1) t = (inL ls c t || decide (ls c = t)) := rfl
    rw [e, Bool.or_eq_true, inL_iff c, decide_eq_true_eq]
    constructor
    · rintro (⟨i, a, b, h⟩ | h)
      · exact ⟨i, a, by omega, h⟩
      · exact ⟨c, by omega, by omega, h⟩
    · rintro ⟨i, a, b, h⟩
      by_cases y : i = c
      · rw [y] at h; exact Or.inr h
      · exact Or.inl ⟨i, a, by omega, h⟩
theorem ps_in {m z : Int} {ls lv A : Int → Int} (h : GWl m z ls lv) : ∀ c : Nat, (c : Int) ≤ z → sm (fun t => if inL ls c t = true then A t else 0) m.toNat 0 0 = sm (fun i => A (ls i)) c 0 0
  | 0, _ => by
    have := sm_le (f := fun t => if inL ls 0 t = true then A t else 0) (lo := 0) (hi := 0) m.toNat 0 0 (fun j _ _ => by
      show 0 ≤ (if inL ls 0 j = true then A j else 0) ∧ (if inL ls 0 j = true then A j else 0) ≤ 0
      rw [if_neg (by show ¬ false = true; decide)]; omega)
    show _ = 0
    omega
  | c + 1, hc => by
    have hb := h.2.1 c (by omega) (by omega)
    have hno : ¬ inL ls c (ls c) = true := fun w => by
      obtain ⟨i, a, b, e⟩ := (inL_iff c).mp w
      have := h.2.2.2.1 i c a (by omega) (by omega) (by omega) e
      omega
    rw [sm_set (f := fun t => if inL ls (c + 1) t = true then A t else 0) (f' := fun t => if inL ls c t = true then A t else 0) (d := ls c) m.toNat 0 0 hb.1.1 (by omega) (fun j _ _ y => by
      show (if (inL ls c j || decide (ls c = j)) = true then A j else 0) = if inL ls c j = true then A j else 0
      rw [decide_eq_false (fun w => y w.symm), Bool.or_false]), ps_in h c (by omega), sm_snoc]
    show _ + (if (inL ls c (ls c) || decide (ls c = ls c)) = true then A (ls c) else 0) - (if inL ls c (ls c) = true then A (ls c) else 0) = _
    rw [decide_eq_true rfl, Bool.or_true, if_pos rfl, if_neg hno, Int.zero_add]
    omega
theorem mono_lv {m z : Int} {ls lv : Int → Int} (h : GWl m z ls lv) : ∀ (d : Nat) (i : Int), 0 ≤ i → i + d < z → lv (ls i) ≤ lv (ls (i + d))
  | 0, i, _, _ => by rw [show i + ((0 : Nat) : Int) = i by omega]; exact Int.le_refl _
  | d + 1, i, i0, hi => by
    have h1 := mono_lv h d i i0 (by omega)
    have h2 := h.2.2.1 (i + d) (by omega) (by omega)
    rw [show i + ((d + 1 : Nat) : Int) = i + d + 1 by omega]
    omega
/-- where a level ends, the sum of the list's first ones is the level's -/
theorem ps_cs {m z k : Int} {ls lv A : Int → Int} (h : GWl m z ls lv) (k0 : 0 ≤ k) (k1 : k < z) (l : Int) (hl : lv (ls k) ≤ l) (he : k + 1 = z ∨ l < lv (ls (k + 1))) : CSl m lv A l = sm (fun i => A (ls i)) (k + 1).toNat 0 0 := by
  rw [← ps_in h (k + 1).toNat (by omega)]
  unfold CSl
  refine sm_congr _ _ _ (fun t t0 t1 => ?_)
  have key : (0 ≤ lv t ∧ lv t ≤ l) ↔ inL ls (k + 1).toNat t = true := by
    rw [inL_iff]
    constructor
    · rintro ⟨a, b⟩
      obtain ⟨i, i0, i1, e⟩ := h.2.2.2.2.2 t t0 (by omega) a
      refine ⟨i, i0, ?_, e⟩
      apply Classical.byContradiction
      intro hno
      rcases he with he | he
      · omega
      · have := mono_lv h (i - (k + 1)).toNat (k + 1) (by omega) (by omega)
        rw [show k + 1 + (((i - (k + 1)).toNat : Nat) : Int) = i by omega, e] at this
        omega
    · rintro ⟨i, i0, i1, e⟩
      have h1 := h.2.1 i i0 (by omega)
      have := mono_lv h (k - i).toNat i i0 (by omega)
      rw [show i + (((k - i).toNat : Nat) : Int) = k by omega] at this
      rw [← e]
      omega
  by_cases c : 0 ≤ lv t ∧ lv t ≤ l
  · rw [if_pos c, if_pos (key.mp c)]
  · rw [if_neg c, if_neg (fun w => c (key.mpr w))]
/-- each level has an end -/
theorem lv_end {m z l : Int} {ls lv : Int → Int} (h : GWl m z ls lv) (l0 : 0 ≤ l) (z0 : 0 < z) : ∃ k, 0 ≤ k ∧ k < z ∧ lv (ls k) ≤ l ∧ (k + 1 = z ∨ l < lv (ls (k + 1))) := by
  have main : ∀ (d : Nat) (k : Int), 0 ≤ k → k + d + 1 = z → lv (ls k) ≤ l → ∃ k, 0 ≤ k ∧ k < z ∧ lv (ls k) ≤ l ∧ (k + 1 = z ∨ l < lv (ls (k + 1))) := by
    intro d
    induction d with
    | zero => intro k k0 e hk; exact ⟨k, k0, by omega, hk, Or.inl (by omega)⟩
    | succ d ih =>
      intro k k0 e hk
      by_cases c : l < lv (ls (k + 1))
      · exact ⟨k, k0, by omega, hk, Or.inr c⟩
      · exact ih (k + 1) (by omega) (by omega) (by omega)
  have h0 := h.2.1 0 (Int.le_refl 0) z0
  exact main (z - 1).toNat 0 (Int.le_refl 0) (by omega) (by omega)
theorem CS_0 {m z l : Int} {ls lv A : Int → Int} (h : GWl m z ls lv) (z0 : z = 0) : CSl m lv A l = 0 := by
  have := sm_le (f := fun t => if 0 ≤ lv t ∧ lv t ≤ l then A t else 0) (lo := 0) (hi := 0) m.toNat 0 0 (fun t t0 t1 => by
    show 0 ≤ (if 0 ≤ lv t ∧ lv t ≤ l then A t else 0) ∧ (if 0 ≤ lv t ∧ lv t ≤ l then A t else 0) ≤ 0
    rw [if_neg (fun w => by
      obtain ⟨i, i0, i1, _⟩ := h.2.2.2.2.2 t t0 (by omega) w.1
      omega)]
    omega)
  unfold CSl
  omega
theorem sm_r8 {f : Int → Int} {q : Nat} (hq : q ≤ 8) (h : ∀ j : Int, 0 ≤ j → j < q → 0 ≤ f j ∧ f j ≤ 125000000) : 0 ≤ sm f q 0 0 ∧ sm f q 0 0 ≤ 1000000000 := by
  have := sm_le (f := f) (lo := 0) (hi := 125000000) q 0 0 (fun j a b => h j a (by omega))
  omega
theorem X_compareRows_ok {d : Nat} {K : Int → Mem → Prop} {s : Mem} {g p a b g1 k1 g2 k2 m z B1 B2 : Int} {ls lv A C : Int → Int} (g0 : 0 ≤ g) (g5 : g ≤ 5) (p0 : 0 ≤ p) (p7 : p < 7) (a0 : 0 ≤ a ∧ a < 7) (b0 : 0 ≤ b ∧ b < 7) (u0 : 0 ≤ g1 ∧ g1 ≤ 5) (u1 : 0 ≤ k1 ∧ k1 < 7) (v0 : 0 ≤ g2 ∧ g2 ≤ 5) (v1 : 0 ≤ k2 ∧ k2 < 7) (m8 : m ≤ 8) (hW : GWl m z ls lv) (ez : s (7 + 43 * g) p = z) (el : ∀ i, 0 ≤ i → i < z → s (9 + 43 * g + p) i = ls i) (ev : ∀ t, 0 ≤ t → t < m → s (17 + 43 * g + p) t = lv t)
    (hA : ∀ t, 0 ≤ t → t < m → s (33 + 43 * g1 + 2 * k1 + 1) (8 * a + t) = A t ∧ 0 ≤ A t ∧ A t ≤ 125000000) (hB1 : s (33 + 43 * g1 + 2 * k1) 1 = B1 ∧ 1 ≤ B1 ∧ B1 ≤ 40353607) (hC : ∀ t, 0 ≤ t → t < m → s (33 + 43 * g2 + 2 * k2 + 1) (8 * b + t) = C t ∧ 0 ≤ C t ∧ C t ≤ 125000000) (hB2 : s (33 + 43 * g2 + 2 * k2) 1 = B2 ∧ 1 ≤ B2 ∧ B2 ≤ 40353607)
    (k : ∀ r, CmpR m lv A B1 C B2 r → K r s) : AM2 i_X_compareRows (d + 1) [(2, 4 + 43 * g), (0, p), (2, 33 + 43 * g1 + 2 * k1), (0, a), (2, 33 + 43 * g2 + 2 * k2), (0, b)] s K := by
  have ckg := fun {P : Prop} => ck_g (P := P) g0 g5
  have ck1 := fun {P : Prop} => ck_sh (P := P) u0.1 u0.2 u1.1 u1.2
  have ck2 := fun {P : Prop} => ck_sh (P := P) v0.1 v0.2 v1.1 v1.2
  have hz := hW.1
  have pa : ∀ c : Int, 0 ≤ c → c ≤ z → 0 ≤ sm (fun i => A (ls i)) c.toNat 0 0 ∧ sm (fun i => A (ls i)) c.toNat 0 0 ≤ 1000000000 := fun c c0 c1 => sm_r8 (by omega) (fun j j0 j1 => (hA _ (hW.2.1 j j0 (by omega)).1.1 (hW.2.1 j j0 (by omega)).1.2).2)
  have pc : ∀ c : Int, 0 ≤ c → c ≤ z → 0 ≤ sm (fun i => C (ls i)) c.toNat 0 0 ∧ sm (fun i => C (ls i)) c.toNat 0 0 ≤ 1000000000 := fun c c0 c1 => sm_r8 (by omega) (fun j j0 j1 => (hC _ (hW.2.1 j j0 (by omega)).1.1 (hW.2.1 j j0 (by omega)).1.2).2)
  have l20 : ∀ (q : Nat) (i x y : Int), 0 ≤ i → i + q = z → ((x = 1 ∧ gtL m lv A B1 C B2) ∨ (x = 0 ∧ ∀ l, 0 ≤ l → l < 8 → (∃ j, 0 ≤ j ∧ j < i ∧ lv (ls j) ≤ l ∧ (j + 1 = z ∨ l < lv (ls (j + 1)))) → ¬ CSl m lv C l * B1 < CSl m lv A l * B2)) → ((y = 1 ∧ gtL m lv C B2 A B1) ∨ (y = 0 ∧ ∀ l, 0 ≤ l → l < 8 → (∃ j, 0 ≤ j ∧ j < i ∧ lv (ls j) ≤ l ∧ (j + 1 = z ∨ l < lv (ls (j + 1)))) → ¬ CSl m lv A l * B2 < CSl m lv C l * B1)) →
      AW2 i_X_compareRows (d + 1) 20 [] [(0, (2, 4 + 43 * g)), (1, (0, p)), (2, (2, 33 + 43 * g1 + 2 * k1)), (3, (0, a)), (4, (2, 33 + 43 * g2 + 2 * k2)), (5, (0, b)), (6, (0, x)), (7, (0, y)), (8, (1, sm (fun i => A (ls i)) i.toNat 0 0)), (10, (1, sm (fun i => C (ls i)) i.toNat 0 0)), (12, (2, 9 + 43 * g + p)), (13, (2, 17 + 43 * g + p)), (14, (0, i))] s K := by
    intro q
    induction q with
    | zero =>
      intro i x y i0 e hx hy
      have ei : i = z := by omega
      refine s_X_compareRows_20 ?_
      rw [ckg, pt_sz g0 g5, ck_sz g0 g5, sn_sz g0 g5, ez]
      refine inb_i p0 (by omega) (brF_i (by omega) ?_)
      have fall : ∀ {P : Int → Prop}, (∀ l, 0 ≤ l → l < 8 → (∃ j, 0 ≤ j ∧ j < i ∧ lv (ls j) ≤ l ∧ (j + 1 = z ∨ l < lv (ls (j + 1)))) → ¬ P l) → (z = 0 → ∀ l, ¬ P l) → ¬ ∃ l, 0 ≤ l ∧ l < 8 ∧ P l := fun h1 h2 ⟨l, l0, l1, hP⟩ => by
        by_cases c : z = 0
        · exact h2 c l hP
        · obtain ⟨k, k0, kz, h3, h4⟩ := lv_end hW l0 (by omega)
          exact h1 l l0 l1 ⟨k, k0, by omega, h3, h4⟩ hP
      have z1 : z = 0 → ∀ l, ¬ CSl m lv C l * B1 < CSl m lv A l * B2 := fun c l => by rw [CS_0 hW c, CS_0 hW c]; omega
      have z2 : z = 0 → ∀ l, ¬ CSl m lv A l * B2 < CSl m lv C l * B1 := fun c l => by rw [CS_0 hW c, CS_0 hW c]; omega
      rcases hx with ⟨hx, gx⟩ | ⟨hx, gx⟩ <;> rcases hy with ⟨hy, gy⟩ | ⟨hy, gy⟩ <;> rw [hx, hy]
      · exact br1 (br1 (k 2 (Or.inl ⟨rfl, gx, gy⟩)))
      · exact br1 (br0 (s_X_compareRows_119 (br1 (s_X_compareRows_128 (k 1 (Or.inr (Or.inl ⟨rfl, gx, fall gy z2⟩)))))))
      · exact br0 (s_X_compareRows_119 (br0 (br1 (s_X_compareRows_128 (k (-1) (Or.inr (Or.inr (Or.inl ⟨rfl, fall gx z1, gy⟩))))))))
      · exact br0 (s_X_compareRows_119 (br0 (br0 (s_X_compareRows_128 (k 0 (Or.inr (Or.inr (Or.inr ⟨rfl, fall gx z1, fall gy z2⟩))))))))
    | succ q ih =>
      intro i x y i0 e hx hy
      have hb := hW.2.1 i i0 (by omega)
      have hAi := hA _ hb.1.1 hb.1.2
      have hCi := hC _ hb.1.1 hb.1.2
      have ea : sm (fun i => A (ls i)) (i + 1).toNat 0 0 = sm (fun i => A (ls i)) i.toNat 0 0 + A (ls i) := by
        rw [show (i + 1).toNat = i.toNat + 1 by omega, sm_snoc, show (0 : Int) + (i.toNat : Int) = i by omega]
      have ec : sm (fun i => C (ls i)) (i + 1).toNat 0 0 = sm (fun i => C (ls i)) i.toNat 0 0 + C (ls i) := by
        rw [show (i + 1).toNat = i.toNat + 1 by omega, sm_snoc, show (0 : Int) + (i.toNat : Int) = i by omega]
      have ra := pa (i + 1) (by omega) (by omega)
      have rc := pc (i + 1) (by omega) (by omega)
      refine s_X_compareRows_20 ?_
      rw [ckg, pt_sz g0 g5, ck_sz g0 g5, sn_sz g0 g5, ez, ck1, ck_lr g0 g5 p0 p7, sn_lr g0 g5 p0 p7, pt_to u0.1 u0.2 u1.1 u1.2, ck_to u0.1 u0.2 u1.1 u1.2, sn_to u0.1 u0.2 u1.1 u1.2, ck2, ck_lr g0 g5 p0 p7, pt_to v0.1 v0.2 v1.1 v1.2, ck_to v0.1 v0.2 v1.1 v1.2, sn_to v0.1 v0.2 v1.1 v1.2, ckg, ck_sz g0 g5, el i i0 (by omega), w32_id (x := a * 8) (by omega) (by omega), w32_id (x := a * 8 + ls i) (by omega) (by omega), w32_id (x := b * 8) (by omega) (by omega), w32_id (x := b * 8 + ls i) (by omega) (by omega), w32_id (x := i + 1) (by omega) (by omega), show 34 + 43 * g1 + 2 * k1 = 33 + 43 * g1 + 2 * k1 + 1 by omega, show 34 + 43 * g2 + 2 * k2 = 33 + 43 * g2 + 2 * k2 + 1 by omega, show a * 8 + ls i = 8 * a + ls i by omega, show b * 8 + ls i = 8 * b + ls i by omega, hAi.1, hCi.1, w64_id (x := sm (fun i => A (ls i)) i.toNat 0 0 + A (ls i)) (by omega) (by omega), w64_id (x := sm (fun i => C (ls i)) i.toNat 0 0 + C (ls i)) (by omega) (by omega), ← ea, ← ec]
      -- no level ends here
      have keep : ∀ {P : Int → Prop}, (∀ l, 0 ≤ l → l < 8 → (∃ j, 0 ≤ j ∧ j < i ∧ lv (ls j) ≤ l ∧ (j + 1 = z ∨ l < lv (ls (j + 1)))) → ¬ P l) → (∀ l, 0 ≤ l → l < 8 → lv (ls i) ≤ l → (i + 1 = z ∨ l < lv (ls (i + 1))) → ¬ P l) → ∀ l, 0 ≤ l → l < 8 → (∃ j, 0 ≤ j ∧ j < i + 1 ∧ lv (ls j) ≤ l ∧ (j + 1 = z ∨ l < lv (ls (j + 1)))) → ¬ P l := fun h1 h2 l l0 l1 ⟨j, j0, j1, h3, h4⟩ => by
        by_cases c : j = i
        · rw [c] at h3 h4; exact h2 l l0 l1 h3 h4
        · exact h1 l l0 l1 ⟨j, j0, by omega, h3, h4⟩
      -- the level ends
      have ends : (i + 1 = z ∨ ¬ lv (ls (i + 1)) = lv (ls i)) → AW2 i_X_compareRows (d + 1) 73 [] [(0, (2, 4 + 43 * g)), (1, (0, p)), (2, (2, 33 + 43 * g1 + 2 * k1)), (3, (0, a)), (4, (2, 33 + 43 * g2 + 2 * k2)), (5, (0, b)), (6, (0, x)), (7, (0, y)), (8, (1, sm (fun i => A (ls i)) (i + 1).toNat 0 0)), (10, (1, sm (fun i => C (ls i)) (i + 1).toNat 0 0)), (12, (2, 9 + 43 * g + p)), (13, (2, 17 + 43 * g + p)), (14, (0, i))] s K := fun hend => by
        have hend2 : i + 1 = z ∨ lv (ls i) < lv (ls (i + 1)) := by
          rcases hend with w | w
          · exact Or.inl w
          · by_cases c : i + 1 = z
            · exact Or.inl c
            · have := hW.2.2.1 i i0 (by omega)
              exact Or.inr (by omega)
        have sA : ∀ l, lv (ls i) ≤ l → (i + 1 = z ∨ l < lv (ls (i + 1))) → CSl m lv A l = sm (fun i => A (ls i)) (i + 1).toNat 0 0 := fun l h1 h2 => ps_cs hW i0 (by omega) l h1 h2
        have sC : ∀ l, lv (ls i) ≤ l → (i + 1 = z ∨ l < lv (ls (i + 1))) → CSl m lv C l = sm (fun i => C (ls i)) (i + 1).toNat 0 0 := fun l h1 h2 => ps_cs hW i0 (by omega) l h1 h2
        have sA0 := sA _ (Int.le_refl _) hend2
        have sC0 := sC _ (Int.le_refl _) hend2
        generalize hu : sm (fun i => A (ls i)) (i + 1).toNat 0 0 = u at *
        generalize hv : sm (fun i => C (ls i)) (i + 1).toNat 0 0 = v at *
        have mu := mul_b (a := u) (b := B2) (A := 1000000000) (C := 40353607) ra.1 ra.2 (by omega) hB2.2.2
        have mv := mul_b (a := v) (b := B1) (A := 1000000000) (C := 40353607) rc.1 rc.2 (by omega) hB1.2.2
        refine s_X_compareRows_73 (s_X_compareRows_76 (br1 ?_))
        rw [ck2, ck1, hB1.1, hB2.1, w64_id (x := v * B1) (by omega) (by omega), w64_id (x := u * B2) (by omega) (by omega)]
        -- the end of the step
        have last : ∀ x2 y2 : Int, ((x2 = 1 ∧ gtL m lv A B1 C B2) ∨ (x2 = 0 ∧ ∀ l, 0 ≤ l → l < 8 → (∃ j, 0 ≤ j ∧ j < i + 1 ∧ lv (ls j) ≤ l ∧ (j + 1 = z ∨ l < lv (ls (j + 1)))) → ¬ CSl m lv C l * B1 < CSl m lv A l * B2)) → ((y2 = 1 ∧ gtL m lv C B2 A B1) ∨ (y2 = 0 ∧ ∀ l, 0 ≤ l → l < 8 → (∃ j, 0 ≤ j ∧ j < i + 1 ∧ lv (ls j) ≤ l ∧ (j + 1 = z ∨ l < lv (ls (j + 1)))) → ¬ CSl m lv A l * B2 < CSl m lv C l * B1)) → AW2 i_X_compareRows (d + 1) 110 [(0, y2)] [(0, (2, 4 + 43 * g)), (1, (0, p)), (2, (2, 33 + 43 * g1 + 2 * k1)), (3, (0, a)), (4, (2, 33 + 43 * g2 + 2 * k2)), (5, (0, b)), (6, (0, x2)), (8, (1, u)), (10, (1, v)), (12, (2, 9 + 43 * g + p)), (13, (2, 17 + 43 * g + p)), (14, (0, i))] s K := fun x2 y2 h1 h2 => by
          have := ih (i + 1) x2 y2 (by omega) (by omega) h1 h2
          refine s_X_compareRows_110 (s_X_compareRows_111 ?_)
          rw [w32_id (x := i + 1) (by omega) (by omega)]
          rw [hu, hv] at this
          exact this
        have snd : ∀ x2 : Int, ((x2 = 1 ∧ gtL m lv A B1 C B2) ∨ (x2 = 0 ∧ ∀ l, 0 ≤ l → l < 8 → (∃ j, 0 ≤ j ∧ j < i + 1 ∧ lv (ls j) ≤ l ∧ (j + 1 = z ∨ l < lv (ls (j + 1)))) → ¬ CSl m lv C l * B1 < CSl m lv A l * B2)) → AW2 i_X_compareRows (d + 1) 94 [(0, x2)] [(0, (2, 4 + 43 * g)), (1, (0, p)), (2, (2, 33 + 43 * g1 + 2 * k1)), (3, (0, a)), (4, (2, 33 + 43 * g2 + 2 * k2)), (5, (0, b)), (7, (0, y)), (8, (1, u)), (10, (1, v)), (12, (2, 9 + 43 * g + p)), (13, (2, 17 + 43 * g + p)), (14, (0, i))] s K := fun x2 h1 => by
          refine s_X_compareRows_94 ?_
          rw [ck2, ck1, hB1.1, hB2.1, w64_id (x := v * B1) (by omega) (by omega), w64_id (x := u * B2) (by omega) (by omega)]
          rcases hy with ⟨hy, gy⟩ | ⟨hy, gy⟩ <;> rw [hy]
          · exact br1 (s_X_compareRows_107 (last x2 1 h1 (Or.inl ⟨rfl, gy⟩)))
          · refine br0 ⟨fun c => s_X_compareRows_107 (last x2 1 h1 (Or.inl ⟨rfl, lv (ls i), hb.2.1, by omega, by rw [sA0, sC0]; exact c⟩)), fun c => last x2 0 h1 (Or.inr ⟨rfl, keep gy (fun l l0 l1 h3 h4 => by rw [sA l h3 h4, sC l h3 h4]; exact c)⟩)⟩
        rcases hx with ⟨hx, gx⟩ | ⟨hx, gx⟩ <;> rw [hx]
        · exact br1 (s_X_compareRows_91 (snd 1 (Or.inl ⟨rfl, gx⟩)))
        · refine br0 ⟨fun c => s_X_compareRows_91 (snd 1 (Or.inl ⟨rfl, lv (ls i), hb.2.1, by omega, by rw [sA0, sC0]; exact c⟩)), fun c => snd 0 (Or.inr ⟨rfl, keep gx (fun l l0 l1 h3 h4 => by rw [sA l h3 h4, sC l h3 h4]; exact c)⟩)⟩
      refine inb_i p0 (by omega) (brT_i (by omega) (inb_i i0 (by omega) (inb_i (by omega) (by omega) (inb_i i0 (by omega) (inb_i (by omega) (by omega) (inb_i p0 (by omega) ⟨fun c => ends (Or.inl c), fun c => ?_⟩))))))
      have hb1 := hW.2.1 (i + 1) (by omega) (by omega)
      rw [ck_lr g0 g5 p0 p7, ck_vr g0 g5 p0 p7, ck_lr g0 g5 p0 p7, ck_vr g0 g5 p0 p7, sn_vr g0 g5 p0 p7, el (i + 1) (by omega) (by omega), ev _ hb1.1.1 hb1.1.2, ev _ hb.1.1 hb.1.2]
      refine inb_i (by omega) (by omega) (inb_i hb1.1.1 (by omega) (inb_i i0 (by omega) (inb_i hb.1.1 (by omega) ⟨fun c2 => ?_, fun c2 => ends (Or.inr c2)⟩)))
      refine s_X_compareRows_76 (br0 (s_X_compareRows_111 ?_))
      rw [w32_id (x := i + 1) (by omega) (by omega)]
      refine ih (i + 1) x y (by omega) (by omega) ?_ ?_
      · rcases hx with hx | ⟨hx, gx⟩
        · exact Or.inl hx
        · exact Or.inr ⟨hx, keep gx (fun l _ _ h3 h4 => by omega)⟩
      · rcases hy with hy | ⟨hy, gy⟩
        · exact Or.inl hy
        · exact Or.inr ⟨hy, keep gy (fun l _ _ h3 h4 => by omega)⟩
  refine e_X_compareRows fun _ _ _ => ?_
  rw [ckg, pt_ls g0 g5, ck_ls g0 g5, sn_ls g0 g5, ckg, pt_lv g0 g5, ck_lv g0 g5, sn_lv g0 g5, pt_lr g0 g5 p0 p7, pt_vr g0 g5 p0 p7]
  exact inb_i p0 p7 (inb_i p0 p7 (l20 z.toNat 0 0 0 (Int.le_refl 0) (by omega) (Or.inr ⟨rfl, fun l _ _ ⟨j, a, b, _⟩ => by omega⟩) (Or.inr ⟨rfl, fun l _ _ ⟨j, a, b, _⟩ => by omega⟩)))
