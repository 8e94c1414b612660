-- ===== rows compared: the model
theorem cmpF {a b c d N1 B1 N2 B2 : Int} (h1 : a * B1 = N1 * b) (h2 : c * B2 = N2 * d) (b0 : 0 < b) (d0 : 0 < d) (B10 : 0 < B1) (B20 : 0 < B2) : c * b < a * d ↔ N2 * B1 < N1 * B2 := by
  have hU : 0 < B1 * B2 := Int.mul_pos B10 B20
  have hD : 0 < b * d := Int.mul_pos b0 d0
  have e1 : c * b * (B1 * B2) = N2 * B1 * (b * d) := by
    rw [show c * b * (B1 * B2) = c * B2 * (b * B1) by ac_rfl, h2]; ac_rfl
  have e2 : a * d * (B1 * B2) = N1 * B2 * (b * d) := by
    rw [show a * d * (B1 * B2) = a * B1 * (d * B2) by ac_rfl, h1]; ac_rfl
  constructor
  · intro h
    have := Int.mul_lt_mul_of_pos_right h hU
    rw [e1, e2] at this
    exact Int.lt_of_mul_lt_mul_right this (Int.le_of_lt hD)
  · intro h
    have := Int.mul_lt_mul_of_pos_right h hD
    rw [← e1, ← e2] at this
    exact Int.lt_of_mul_lt_mul_right this (Int.le_of_lt hU)
theorem M_keepsRow_ok {d : Nat} {K : Int → Mem → Prop} {s : Mem} {p : Int} (p0 : 0 ≤ p) (p7 : p < 7) (k : ∀ s2 : Mem, (∀ t, 0 ≤ t → t < 8 → s2 399 t = s 387 (8 * p + t) ∧ s2 400 t = s 388 (8 * p + t)) → (∀ b j, ¬ b = 399 → ¬ b = 400 → s2 b j = s b j) → K 0 s2) : AM2 i_M_keepsRow (d + 1) [(2, 356), (0, p)] s K := by
  have lp : ∀ (q : Nat) (t : Int) (s1 : Mem), 0 ≤ t → t + q = 8 → (∀ v, 0 ≤ v → v < t → s1 399 v = s 387 (8 * p + v) ∧ s1 400 v = s 388 (8 * p + v)) → (∀ b j, ¬ b = 399 → ¬ b = 400 → s1 b j = s b j) → AW2 i_M_keepsRow (d + 1) 2 [] [(0, (2, 356)), (1, (0, p)), (2, (0, t))] s1 K := by
    intro q
    induction q with
    | zero => intro t s1 t0 e h f; exact s_M_keepsRow_2 (brF_i (by omega) (k s1 (fun v v0 v1 => h v v0 (by omega)) f))
    | succ q ih =>
      intro t s1 t0 e h f
      refine s_M_keepsRow_2 (brT_i (by omega) ?_)
      rw [w32_id (x := 8 * p) (by omega) (by omega), w32_id (x := 8 * p + t) (by omega) (by omega), w32_id (x := t + 1) (by omega) (by omega), st_ne (b := 388) (by omega), f 387 _ (by decide) (by decide), f 388 _ (by decide) (by decide)]
      refine inb_i (by omega) (by omega) (inb_i t0 (by omega) (inb_i (by omega) (by omega) (inb_i t0 (by omega) (ih (t + 1) _ (by omega) (by omega) (fun v v0 v1 => ?_) (fun b j z1 z2 => by rw [st_ne (by omega), st_ne (by omega)]; exact f b j z1 z2)))))
      by_cases y : v = t
      · rw [y]; exact ⟨by rw [st_ne (by omega), st_self], st_self _ _ _ _⟩
      · rw [st_ne (by omega), st_ne (by omega), st_ne (by omega), st_ne (by omega)]; exact h v v0 (by omega)
  exact e_M_keepsRow fun _ => lp 8 0 s (Int.le_refl 0) rfl (fun v v0 v1 => by omega) (fun _ _ _ _ => rfl)
theorem M_against_ok {d : Nat} {K : Int → Mem → Prop} {s : Mem} {g p a m B1 B2 : Int} {lv A C : Int → Int} (g0 : 0 ≤ g) (g5 : g ≤ 5) (p0 : 0 ≤ p) (p7 : p < 7) (a0 : 0 ≤ a ∧ a < 7) (m8 : 0 ≤ m ∧ m ≤ 8) (eM : s 358 g = m) (ev : ∀ t, 0 ≤ t → t < m → s 364 (56 * g + 8 * p + t) = lv t)
    (hA : ∀ t, 0 ≤ t → t < m → FQ s 387 388 (8 * a + t) (A t) B1 ∧ 0 ≤ A t ∧ A t ≤ 125000000) (hB1 : 1 ≤ B1 ∧ B1 ≤ 40353607) (hC : ∀ t, 0 ≤ t → t < m → FQ s 399 400 t (C t) B2 ∧ 0 ≤ C t ∧ C t ≤ 125000000) (hB2 : 1 ≤ B2 ∧ B2 ≤ 40353607) (hb : s 356 43 = 0)
    (k : ∀ r s2, CmpR m lv A B1 C B2 r → s2 356 43 = 0 → (∀ b j, ¬ (b = 356 ∧ (j = 43 ∨ j = 48 ∨ j = 49)) → s2 b j = s b j) → K r s2) : AM2 i_M_against (d + 3) [(2, 356), (0, g), (0, p), (0, a)] s K := by
  have l6 : ∀ (q : Nat) (l x y : Int) (s1 : Mem), 0 ≤ l → l + q = 8 → ((x = 1 ∧ gtL m lv A B1 C B2) ∨ (x = 0 ∧ ∀ l', 0 ≤ l' → l' < l → ¬ CSl m lv C l' * B1 < CSl m lv A l' * B2)) → ((y = 1 ∧ gtL m lv C B2 A B1) ∨ (y = 0 ∧ ∀ l', 0 ≤ l' → l' < l → ¬ CSl m lv A l' * B2 < CSl m lv C l' * B1)) → s1 356 43 = 0 → (∀ b j, ¬ (b = 356 ∧ (j = 43 ∨ j = 48 ∨ j = 49)) → s1 b j = s b j) → AW2 i_M_against (d + 3) 6 [] [(0, (2, 356)), (1, (0, g)), (2, (0, p)), (3, (0, a)), (4, (0, x)), (5, (0, y)), (6, (0, l))] s1 K := by
    intro q
    induction q with
    | zero =>
      intro l x y s1 l0 e hx hy hb1 f
      refine s_M_against_6 (brF_i (by omega) ?_)
      have no : ∀ {P : Int → Prop}, (∀ l', 0 ≤ l' → l' < l → ¬ P l') → ¬ ∃ l', 0 ≤ l' ∧ l' < 8 ∧ P l' := fun h1 ⟨l', a, b, hP⟩ => h1 l' a (by omega) hP
      rcases hx with ⟨hx, gx⟩ | ⟨hx, gx⟩ <;> rcases hy with ⟨hy, gy⟩ | ⟨hy, gy⟩ <;> rw [hx, hy]
      · exact br1 (br1 (s_M_against_132 (k 2 s1 (Or.inl ⟨rfl, gx, gy⟩) hb1 f)))
      · exact br1 (br0 (s_M_against_123 (br1 (s_M_against_132 (k 1 s1 (Or.inr (Or.inl ⟨rfl, gx, no gy⟩)) hb1 f)))))
      · exact br0 (s_M_against_123 (br0 (br1 (s_M_against_132 (k (-1) s1 (Or.inr (Or.inr (Or.inl ⟨rfl, no gx, gy⟩))) hb1 f)))))
      · exact br0 (s_M_against_123 (br0 (br0 (s_M_against_132 (k 0 s1 (Or.inr (Or.inr (Or.inr ⟨rfl, no gx, no gy⟩))) hb1 f)))))
    | succ q ih =>
      intro l x y s1 l0 e hx hy hb1 f
      refine s_M_against_6 (brT_i (by omega) ?_)
      have keep : ∀ {P : Int → Prop}, (∀ l', 0 ≤ l' → l' < l → ¬ P l') → ¬ P l → ∀ l', 0 ≤ l' → l' < l + 1 → ¬ P l' := fun h1 h2 l' a b => by
        by_cases c : l' = l
        · rw [c]; exact h2
        · exact h1 l' a (by omega)
      have rA : ∀ (u : Nat), (u : Int) ≤ m → 0 ≤ sm (fun t => if 0 ≤ lv t ∧ lv t ≤ l then A t else 0) u 0 0 ∧ sm (fun t => if 0 ≤ lv t ∧ lv t ≤ l then A t else 0) u 0 0 ≤ 1000000000 := fun u hu => sm_r8 (by omega) (fun t t0 t1 => by
        have := (hA t t0 (by omega)).2
        show 0 ≤ (if 0 ≤ lv t ∧ lv t ≤ l then A t else 0) ∧ (if 0 ≤ lv t ∧ lv t ≤ l then A t else 0) ≤ _
        split <;> omega)
      have rC : ∀ (u : Nat), (u : Int) ≤ m → 0 ≤ sm (fun t => if 0 ≤ lv t ∧ lv t ≤ l then C t else 0) u 0 0 ∧ sm (fun t => if 0 ≤ lv t ∧ lv t ≤ l then C t else 0) u 0 0 ≤ 1000000000 := fun u hu => sm_r8 (by omega) (fun t t0 t1 => by
        have := (hC t t0 (by omega)).2
        show 0 ≤ (if 0 ≤ lv t ∧ lv t ≤ l then C t else 0) ∧ (if 0 ≤ lv t ∧ lv t ≤ l then C t else 0) ≤ _
        split <;> omega)
      -- the sums of a level
      have l19 : ∀ (w : Nat) (t P Q : Int) (s2 : Mem), 0 ≤ t → t + w = m → P = sm (fun t => if 0 ≤ lv t ∧ lv t ≤ l then A t else 0) t.toNat 0 0 → Q = sm (fun t => if 0 ≤ lv t ∧ lv t ≤ l then C t else 0) t.toNat 0 0 → s2 356 43 = 0 → (∀ b j, ¬ (b = 356 ∧ (j = 43 ∨ j = 48 ∨ j = 49)) → s2 b j = s b j) → AW2 i_M_against (d + 3) 19 [] [(0, (2, 356)), (1, (0, g)), (2, (0, p)), (3, (0, a)), (4, (0, x)), (5, (0, y)), (6, (0, l)), (7, (1, P / cm P B1)), (9, (1, B1 / cm P B1)), (11, (1, Q / cm Q B2)), (13, (1, B2 / cm Q B2)), (15, (0, t))] s2 K := by
        intro w
        induction w with
        | zero =>
          intro t P Q s2 t0 e2 eP eQ hb2 f2
          have et : t = m := by omega
          have hP := rA t.toNat (by omega)
          have hQ := rC t.toNat (by omega)
          have cP : P = CSl m lv A l := by rw [eP, et]; rfl
          have cQ : Q = CSl m lv C l := by rw [eQ, et]; rfl
          rw [← eP] at hP
          rw [← eQ] at hQ
          have rP := lo_r (N := P) (B := B1) hP.1 (by omega)
          have rQ := lo_r (N := Q) (B := B2) hQ.1 (by omega)
          have c1 := cmpF rP.2.2.1 rQ.2.2.1 (by omega) (by omega) (show 0 < B1 by omega) (show 0 < B2 by omega)
          have c2 := cmpF rQ.2.2.1 rP.2.2.1 (by omega) (by omega) (show 0 < B2 by omega) (show 0 < B1 by omega)
          have m1 := mul_b (a := Q / cm Q B2) (b := B1 / cm P B1) (A := 1000000000) (C := 40353607) rQ.1.1 (by omega) (by omega) (by omega)
          have m2 := mul_b (a := P / cm P B1) (b := B2 / cm Q B2) (A := 1000000000) (C := 40353607) rP.1.1 (by omega) (by omega) (by omega)
          rw [cP, cQ] at c1 c2
          refine s_M_against_19 (inb_i g0 (by omega) ?_)
          rw [f2 358 g (by omega), eM, w64_id (x := Q / cm Q B2 * (B1 / cm P B1)) (by omega) (by omega), w64_id (x := P / cm P B1 * (B2 / cm Q B2)) (by omega) (by omega)]
          rw [cP, cQ] at *
          refine brF_i (by omega) ?_
          have last : ∀ x2 y2 : Int, ((x2 = 1 ∧ gtL m lv A B1 C B2) ∨ (x2 = 0 ∧ ∀ l', 0 ≤ l' → l' < l + 1 → ¬ CSl m lv C l' * B1 < CSl m lv A l' * B2)) → ((y2 = 1 ∧ gtL m lv C B2 A B1) ∨ (y2 = 0 ∧ ∀ l', 0 ≤ l' → l' < l + 1 → ¬ CSl m lv A l' * B2 < CSl m lv C l' * B1)) → AW2 i_M_against (d + 3) 114 [(0, y2)] [(0, (2, 356)), (1, (0, g)), (2, (0, p)), (3, (0, a)), (4, (0, x2)), (6, (0, l))] s2 K := fun x2 y2 h1 h2 => by
            refine s_M_against_114 ?_
            rw [w32_id (x := l + 1) (by omega) (by omega)]
            exact ih (l + 1) x2 y2 s2 (by omega) (by omega) h1 h2 hb2 f2
          have snd : ∀ x2 : Int, ((x2 = 1 ∧ gtL m lv A B1 C B2) ∨ (x2 = 0 ∧ ∀ l', 0 ≤ l' → l' < l + 1 → ¬ CSl m lv C l' * B1 < CSl m lv A l' * B2)) → AW2 i_M_against (d + 3) 100 [(0, x2)] [(0, (2, 356)), (1, (0, g)), (2, (0, p)), (3, (0, a)), (5, (0, y)), (6, (0, l)), (7, (1, CSl m lv A l / cm (CSl m lv A l) B1)), (9, (1, B1 / cm (CSl m lv A l) B1)), (11, (1, CSl m lv C l / cm (CSl m lv C l) B2)), (13, (1, B2 / cm (CSl m lv C l) B2))] s2 K := fun x2 h1 => by
            refine s_M_against_100 ?_
            rw [w64_id (by omega) (by omega), w64_id (by omega) (by omega)]
            rcases hy with ⟨hy, gy⟩ | ⟨hy, gy⟩ <;> rw [hy]
            · exact br1 (s_M_against_111 (last x2 1 h1 (Or.inl ⟨rfl, gy⟩)))
            · exact br0 ⟨fun c => s_M_against_111 (last x2 1 h1 (Or.inl ⟨rfl, l, l0, by omega, c2.mp c⟩)), fun c => last x2 0 h1 (Or.inr ⟨rfl, keep gy (fun z => c (c2.mpr z))⟩)⟩
          rcases hx with ⟨hx, gx⟩ | ⟨hx, gx⟩ <;> rw [hx]
          · exact br1 (s_M_against_97 (snd 1 (Or.inl ⟨rfl, gx⟩)))
          · exact br0 ⟨fun c => s_M_against_97 (snd 1 (Or.inl ⟨rfl, l, l0, by omega, c1.mp c⟩)), fun c => snd 0 (Or.inr ⟨rfl, keep gx (fun z => c (c1.mpr z))⟩)⟩
        | succ w ihw =>
          intro t P Q s2 t0 e2 eP eQ hb2 f2
          have hAt := hA t t0 (by omega)
          have hCt := hC t t0 (by omega)
          have hP := rA t.toNat (by omega)
          have hQ := rC t.toNat (by omega)
          have hP1 := rA (t.toNat + 1) (by omega)
          have hQ1 := rC (t.toNat + 1) (by omega)
          rw [sm_snoc, ← eP, show (0 : Int) + (t.toNat : Int) = t by omega] at hP1
          rw [sm_snoc, ← eQ, show (0 : Int) + (t.toNat : Int) = t by omega] at hQ1
          have nP : ∀ v, v = P + (if 0 ≤ lv t ∧ lv t ≤ l then A t else 0) → v = sm (fun t => if 0 ≤ lv t ∧ lv t ≤ l then A t else 0) (t + 1).toNat 0 0 := fun v ev => by
            rw [ev, show (t + 1).toNat = t.toNat + 1 by omega, sm_snoc, ← eP, show (0 : Int) + (t.toNat : Int) = t by omega]
          have nQ : ∀ v, v = Q + (if 0 ≤ lv t ∧ lv t ≤ l then C t else 0) → v = sm (fun t => if 0 ≤ lv t ∧ lv t ≤ l then C t else 0) (t + 1).toNat 0 0 := fun v ev => by
            rw [ev, show (t + 1).toNat = t.toNat + 1 by omega, sm_snoc, ← eQ, show (0 : Int) + (t.toNat : Int) = t by omega]
          rw [← eP] at hP
          rw [← eQ] at hQ
          have rP := lo_r (N := P) (B := B1) hP.1 (by omega)
          have rQ := lo_r (N := Q) (B := B2) hQ.1 (by omega)
          have rAt := lo_r (N := A t) (B := B1) hAt.2.1 (by omega)
          have rCt := lo_r (N := C t) (B := B2) hCt.2.1 (by omega)
          refine s_M_against_19 (inb_i g0 (by omega) ?_)
          rw [f2 358 g (by omega), eM, w32_id (x := 56 * g) (by omega) (by omega), w32_id (x := 8 * p) (by omega) (by omega), w32_id (x := 56 * g + 8 * p) (by omega) (by omega), w32_id (x := 56 * g + 8 * p + t) (by omega) (by omega), f2 364 _ (by omega), ev t t0 (by omega), w32_id (x := 8 * a) (by omega) (by omega), w32_id (x := 8 * a + t) (by omega) (by omega)]
          refine brT_i (by omega) (inb_i (by omega) (by omega) (M_in_ok (d := d + 1) (fun y1 y2 => br1 ?_) (fun y1 => br0 (s_M_against_85 ?_))))
          · rw [if_pos ⟨y1, y2⟩] at hP1 hQ1
            rw [f2 387 _ (by omega), f2 388 _ (by omega), hAt.1.1, hAt.1.2]
            have g1 := frS (u := 1) rP.2.2.1 (c := A t / cm (A t) B1) (M := A t) (e := B1 / cm (A t) B1) (by rw [Int.one_mul]; exact rAt.2.2.1)
            have g2 := frS (u := 1) rQ.2.2.1 (c := C t / cm (C t) B2) (M := C t) (e := B2 / cm (C t) B2) (by rw [Int.one_mul]; exact rCt.2.2.1)
            rw [Int.mul_one, Int.mul_one] at g1 g2
            have m1 := mul_b (a := P / cm P B1) (b := B1 / cm (A t) B1) (A := 1000000000) (C := 40353607) rP.1.1 (by omega) (by omega) (by omega)
            have m2 := mul_b (a := A t / cm (A t) B1) (b := B1 / cm P B1) (A := 1000000000) (C := 40353607) rAt.1.1 (by omega) (by omega) (by omega)
            have m3 := mul_b (a := B1 / cm P B1) (b := B1 / cm (A t) B1) (A := 40353607) (C := 40353607) (by omega) (by omega) (by omega) (by omega)
            have m4 := mul_b (a := Q / cm Q B2) (b := B2 / cm (C t) B2) (A := 1000000000) (C := 40353607) rQ.1.1 (by omega) (by omega) (by omega)
            have m5 := mul_b (a := C t / cm (C t) B2) (b := B2 / cm Q B2) (A := 1000000000) (C := 40353607) rCt.1.1 (by omega) (by omega) (by omega)
            have m6 := mul_b (a := B2 / cm Q B2) (b := B2 / cm (C t) B2) (A := 40353607) (C := 40353607) (by omega) (by omega) (by omega) (by omega)
            refine inb_i (by omega) (by omega) (inb_i (by omega) (by omega) (M_adds_ok (d := d) (N := P + A t) (B := B1) (by omega) (by omega) (by omega) (by omega) (by omega) (by omega) g1 (by omega) (by omega) (by omega) hb2 (fun s3 a1 a2 a3 f3 => inb_i t0 (by omega) (inb_i t0 (by omega) ?_))))
            rw [f3 399 t (by omega), f3 400 t (by omega), f2 399 t (by omega), f2 400 t (by omega), hCt.1.1, hCt.1.2]
            refine M_adds_ok (d := d) (N := Q + C t) (B := B2) (by omega) (by omega) (by omega) (by omega) (by omega) (by omega) g2 (by omega) (by omega) (by omega) a3 (fun s4 c1 c2 c3 f4 => s_M_against_85 ?_)
            rw [a1, a2, c1, c2, w32_id (x := t + 1) (by omega) (by omega)]
            exact ihw (t + 1) (P + A t) (Q + C t) s4 (by omega) (by omega) (nP _ (by rw [if_pos ⟨y1, y2⟩])) (nQ _ (by rw [if_pos ⟨y1, y2⟩])) c3 (fun b j z => by rw [f4 b j z, f3 b j z]; exact f2 b j z)
          · rw [w32_id (x := t + 1) (by omega) (by omega)]
            exact ihw (t + 1) P Q s2 (by omega) (by omega) (nP _ (by rw [if_neg y1]; omega)) (nQ _ (by rw [if_neg y1]; omega)) hb2 f2
      have c0 : ∀ B : Int, 1 ≤ B → 0 / cm 0 B = 0 ∧ B / cm 0 B = 1 := fun B hB => by
        have := lo_eq (x := 0) (y := 1) (N := 0) (B := B) (by decide) (by omega) (by rw [Int.zero_mul, Int.zero_mul])
        have e1 : (1 : Int) / cm 0 1 = 1 := by decide
        have e0 : (0 : Int) / cm 0 1 = 0 := by decide
        exact ⟨by rw [← this.1]; exact e0, by rw [← this.2]; exact e1⟩
      have := l19 m.toNat 0 0 0 s1 (Int.le_refl 0) (by omega) rfl rfl hb1 f
      rw [(c0 B1 hB1.1).1, (c0 B1 hB1.1).2, (c0 B2 hB2.1).1, (c0 B2 hB2.1).2] at this
      exact this
  exact e_M_against fun _ _ _ => l6 8 0 0 0 s (Int.le_refl 0) rfl (Or.inr ⟨rfl, fun l' a b => by omega⟩) (Or.inr ⟨rfl, fun l' a b => by omega⟩) hb (fun _ _ _ => rfl)
