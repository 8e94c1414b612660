-- ===== fractions in lowest terms
theorem cm_mul {k a b : Int} (k0 : 0 < k) (b0 : 0 < b) : cm (k * a) (k * b) = k * cm a b := by
  have hg : 0 < Int.gcd a b := Int.gcd_pos_of_ne_zero_right a (by omega)
  have e : ((Int.gcd (k * a) (k * b) : Nat) : Int) = k * (Int.gcd a b : Int) := by
    rw [Int.gcd_mul_left, Int.natCast_mul, Int.natAbs_of_nonneg (by omega)]
  unfold cm
  rw [e, if_neg (show ¬ ((Int.gcd a b : Nat) : Int) = 0 by omega), if_neg]
  intro z
  rcases Int.mul_eq_zero.mp z with w | w <;> omega
theorem lo_mul {k N B : Int} (k0 : 0 < k) (B0 : 0 < B) : (k * N) / cm (k * N) (k * B) = N / cm N B ∧ (k * B) / cm (k * N) (k * B) = B / cm N B := by
  rw [cm_mul k0 B0]
  exact ⟨Int.mul_ediv_mul_of_pos _ _ k0, Int.mul_ediv_mul_of_pos _ _ k0⟩
theorem lo_eq {x y N B : Int} (y0 : 0 < y) (B0 : 0 < B) (h : x * B = N * y) : x / cm x y = N / cm N B ∧ y / cm x y = B / cm N B := by
  have h1 := lo_mul (k := B) (N := x) B0 y0
  have h2 := lo_mul (k := y) (N := N) y0 B0
  have e1 : B * x = y * N := by rw [Int.mul_comm B x, h, Int.mul_comm]
  have e2 : B * y = y * B := Int.mul_comm _ _
  rw [e1, e2] at h1
  exact ⟨h1.1.symm.trans h2.1, h1.2.symm.trans h2.2⟩
theorem lo_r {N B : Int} (N0 : 0 ≤ N) (B0 : 0 < B) : (0 ≤ N / cm N B ∧ N / cm N B ≤ N) ∧ (1 ≤ B / cm N B ∧ B / cm N B ≤ B) ∧ (N / cm N B) * B = N * (B / cm N B) ∧ (0 < N / cm N B ↔ 0 < N) := by
  have hc := cm_pos N B
  have hd := cm_dvd (a := N) (b := B) B0
  have eN : N / cm N B * cm N B = N := Int.ediv_mul_cancel hd.1
  have eB : B / cm N B * cm N B = B := Int.ediv_mul_cancel hd.2
  have h1 := ediv_le N0 (show 0 < cm N B by omega)
  have h2 := ediv_le (show 0 ≤ B by omega) (show 0 < cm N B by omega)
  generalize N / cm N B = a at *
  generalize B / cm N B = b at *
  generalize cm N B = c at *
  refine ⟨h1, ⟨?_, h2.2⟩, ?_, ?_⟩
  · by_cases z : b = 0
    · rw [z] at eB; omega
    · omega
  · rw [← eN, ← eB]
    rw [Int.mul_assoc, Int.mul_comm c]
  · constructor
    · intro z
      omega
    · intro z
      by_cases w : a = 0
      · rw [w] at eN; omega
      · omega
theorem mul_b {a b A C : Int} (a0 : 0 ≤ a) (a1 : a ≤ A) (b0 : 0 ≤ b) (b1 : b ≤ C) : 0 ≤ a * b ∧ a * b ≤ A * C := ⟨Int.mul_nonneg a0 b0, Int.mul_le_mul a1 b1 b0 (by omega)⟩
theorem crs {x u x0 u0 l e : Int} (h1 : x * u0 ≤ x0 * u) (h2 : x0 * e ≤ l * u0) (u00 : 0 < u0) (u1 : 0 ≤ u) (e0 : 0 ≤ e) : x * e ≤ l * u := by
  refine Int.le_of_mul_le_mul_right (a := u0) ?_ u00
  have a1 := Int.mul_le_mul_of_nonneg_right h1 e0
  have a2 := Int.mul_le_mul_of_nonneg_right h2 u1
  have b1 : x * e * u0 = x * u0 * e := by rw [Int.mul_assoc, Int.mul_comm e u0, Int.mul_assoc]
  have b2 : x0 * u * e = x0 * e * u := by rw [Int.mul_assoc, Int.mul_comm u e, Int.mul_assoc]
  have b3 : l * u0 * u = l * u * u0 := by rw [Int.mul_assoc, Int.mul_comm u0 u, Int.mul_assoc]
  omega
-- ===== eating: a step
abbrev ES : Type := (Int → Int) × (Int → Int) × Int × Int
/-- what each eats -/
def fdE (ls : Int → Int → Int) (sz : Int → Int) (L : Int → Int) (p : Int) : Int := fsT (fun t => decide (0 < L t)) (ls p) (sz p).toNat 0
def nx3 (L e : Int → Int) : Nat → Int → Int × Int × Int → Int × Int × Int
  | 0, _, A => A
  | q + 1, t, A => nx3 L e q (t + 1) (if 0 < e t ∧ L t * A.2.2 < A.2.1 * e t then (t, L t, e t) else A)
def stE (n m R : Int) (ls : Int → Int → Int) (sz : Int → Int) (S : ES) : Int × Int × Int := nx3 S.2.1 (cntE n (fdE ls sz S.2.1)) m.toNat 0 (-1, R * S.2.2.2 - S.2.2.1, 1)
def eS (n m R : Int) (ls : Int → Int → Int) (sz : Int → Int) (S : ES) : ES :=
  (fun k => S.1 k * (stE n m R ls sz S).2.2 + (if fdE ls sz S.2.1 (k / 8) = k % 8 then (stE n m R ls sz S).2.1 else 0),
   fun t => S.2.1 t * (stE n m R ls sz S).2.2 - (stE n m R ls sz S).2.1 * cntE n (fdE ls sz S.2.1) t,
   S.2.2.1 * (stE n m R ls sz S).2.2 + (stE n m R ls sz S).2.1, S.2.2.2 * (stE n m R ls sz S).2.2)
/-- how many eat -/
def anN (n : Int) (fd : Int → Int) : Int := sm (fun p => if fd p < 0 then 0 else 1) n.toNat 0 0
def eL (n m R : Int) (ls : Int → Int → Int) (sz : Int → Int) : Nat → ES → Int → ES × Int
  | 0, S, H => (S, H)
  | q + 1, S, H => if S.2.2.1 < R * S.2.2.2 ∧ 0 < anN n (fdE ls sz S.2.1) then eL n m R ls sz q (eS n m R ls sz S) (H + 1) else (S, H)
theorem nx3_r {L e : Int → Int} : ∀ (q : Nat) (t0 : Int) (A : Int × Int × Int), 0 < A.2.2 → (∀ t, t0 ≤ t → t < t0 + q → 0 ≤ e t) →
    0 < (nx3 L e q t0 A).2.2 ∧ (nx3 L e q t0 A).2.1 * A.2.2 ≤ A.2.1 * (nx3 L e q t0 A).2.2 ∧ (∀ t, t0 ≤ t → t < t0 + q → 0 < e t → (nx3 L e q t0 A).2.1 * e t ≤ L t * (nx3 L e q t0 A).2.2) ∧
    (nx3 L e q t0 A = A ∨ (t0 ≤ (nx3 L e q t0 A).1 ∧ (nx3 L e q t0 A).1 < t0 + q ∧ 0 < e (nx3 L e q t0 A).1 ∧ (nx3 L e q t0 A).2.1 = L (nx3 L e q t0 A).1 ∧ (nx3 L e q t0 A).2.2 = e (nx3 L e q t0 A).1))
  | 0, t0, A, u0, _ => ⟨u0, Int.le_refl _, fun t a b => by omega, Or.inl rfl⟩
  | q + 1, t0, A, u0, he => by
    have e1 : nx3 L e (q + 1) t0 A = nx3 L e q (t0 + 1) (if 0 < e t0 ∧ L t0 * A.2.2 < A.2.1 * e t0 then (t0, L t0, e t0) else A) := rfl
    rw [e1]
    have h0 := he t0 (Int.le_refl _) (by omega)
    by_cases c : 0 < e t0 ∧ L t0 * A.2.2 < A.2.1 * e t0
    · rw [if_pos c]
      have h := nx3_r (L := L) (e := e) q (t0 + 1) (t0, L t0, e t0) c.1 (fun t a b => he t (by omega) (by omega))
      generalize nx3 L e q (t0 + 1) (t0, L t0, e t0) = Z at *
      obtain ⟨h1, h2, h3, h4⟩ := h
      have h2 : Z.2.1 * e t0 ≤ L t0 * Z.2.2 := h2
      refine ⟨h1, crs h2 (Int.le_of_lt c.2) c.1 (by omega) (by omega), fun t a b w => ?_, Or.inr ?_⟩
      · by_cases y : t = t0
        · rw [y]; exact h2
        · exact h3 t (by omega) (by omega) w
      · rcases h4 with z | z
        · rw [z]; exact ⟨Int.le_refl _, by show t0 < t0 + ((q + 1 : Nat) : Int); omega, c.1, rfl, rfl⟩
        · exact ⟨by omega, by omega, z.2.2⟩
    · rw [if_neg c]
      have h := nx3_r (L := L) (e := e) q (t0 + 1) A u0 (fun t a b => he t (by omega) (by omega))
      generalize nx3 L e q (t0 + 1) A = Z at *
      obtain ⟨h1, h2, h3, h4⟩ := h
      refine ⟨h1, h2, fun t a b w => ?_, ?_⟩
      · by_cases y : t = t0
        · rw [y] at w ⊢
          have c2 : ¬ L t0 * A.2.2 < A.2.1 * e t0 := fun z => c ⟨w, z⟩
          exact crs h2 (by omega) u0 (by omega) (by omega)
        · exact h3 t (by omega) (by omega) w
      · rcases h4 with z | z
        · exact Or.inl z
        · exact Or.inr ⟨by omega, by omega, z.2.2⟩
theorem cnt_r (E : Int → Int) (t : Int) {n : Int} (n0 : 0 ≤ n) : 0 ≤ cntE n E t ∧ cntE n E t ≤ n := by
  have := sm_le (f := fun v => if E v = t then 1 else 0) (lo := 0) (hi := 1) n.toNat 0 0 (fun j _ _ => by
    show 0 ≤ (if E j = t then (1 : Int) else 0) ∧ (if E j = t then (1 : Int) else 0) ≤ 1
    split <;> omega)
  unfold cntE
  omega
theorem cnt_ex {E : Int → Int} {t n : Int} (h : 0 < cntE n E t) : ∃ p, 0 ≤ p ∧ p < n ∧ E p = t := by
  apply Classical.byContradiction
  intro hno
  have := sm_le (f := fun v => if E v = t then 1 else 0) (lo := 0) (hi := 0) n.toNat 0 0 (fun j j0 j1 => by
    show 0 ≤ (if E j = t then (1 : Int) else 0) ∧ (if E j = t then (1 : Int) else 0) ≤ 0
    rw [if_neg (fun w => hno ⟨j, j0, by omega, w⟩)]; omega)
  unfold cntE at h
  omega
theorem fdE_r {n m : Int} {ls : Int → Int → Int} {sz L : Int → Int} {p : Int} (hL : LGo n m ls sz) (p0 : 0 ≤ p) (p1 : p < n) : fdE ls sz L p = -1 ∨ (0 ≤ fdE ls sz L p ∧ fdE ls sz L p < m ∧ 0 < L (fdE ls sz L p)) := by
  have hs := hL.1 p p0 p1
  unfold fdE
  rcases fsT_cases (c := fun t => decide (0 < L t)) (ls := ls p) (sz p).toNat 0 with ⟨e, -⟩ | ⟨j, j0, j1, e, c, -⟩
  · exact Or.inl e
  · have := hL.2 p j p0 p1 j0 (by omega)
    rw [e]
    exact Or.inr ⟨this.1, this.2, of_decide_eq_true c⟩
/-- how many things are left -/
def cpL (m : Int) (L : Int → Int) : Int := sm (fun t => if 0 < L t then 1 else 0) m.toNat 0 0
/-- before step i -/
def EI (n m R : Int) (i : Nat) (S : ES) : Prop := (1 ≤ S.2.2.2 ∧ S.2.2.2 ≤ 7 ^ i) ∧ (0 ≤ S.2.2.1 ∧ S.2.2.1 ≤ R * S.2.2.2) ∧ (∀ t, 0 ≤ t → t < m → 0 ≤ S.2.1 t ∧ S.2.1 t ≤ 9 * S.2.2.2) ∧ (∀ p t, 0 ≤ p → p < n → 0 ≤ t → t < m → 0 ≤ S.1 (8 * p + t) ∧ S.1 (8 * p + t) ≤ S.2.2.1) ∧ (S.2.2.1 = R * S.2.2.2 ∨ cpL m S.2.1 + i ≤ m)
theorem stE_r {n m R : Int} {ls : Int → Int → Int} {sz : Int → Int} {S : ES} {i : Nat} (n7 : 0 ≤ n ∧ n ≤ 7) (m0 : 0 ≤ m) (hL : LGo n m ls sz) (hE : EI n m R i S) : (1 ≤ (stE n m R ls sz S).2.2 ∧ (stE n m R ls sz S).2.2 ≤ 7) ∧ 0 ≤ (stE n m R ls sz S).2.1 ∧ (stE n m R ls sz S).2.1 ≤ (R * S.2.2.2 - S.2.2.1) * (stE n m R ls sz S).2.2 ∧ (∀ t, 0 ≤ t → t < m → (stE n m R ls sz S).2.1 * cntE n (fdE ls sz S.2.1) t ≤ S.2.1 t * (stE n m R ls sz S).2.2) ∧
    (stE n m R ls sz S = (-1, R * S.2.2.2 - S.2.2.1, 1) ∨ (0 ≤ (stE n m R ls sz S).1 ∧ (stE n m R ls sz S).1 < m ∧ 0 < S.2.1 (stE n m R ls sz S).1 ∧ (stE n m R ls sz S).2.1 = S.2.1 (stE n m R ls sz S).1 ∧ (stE n m R ls sz S).2.2 = cntE n (fdE ls sz S.2.1) (stE n m R ls sz S).1)) := by
  have he := fun t => cnt_r (fdE ls sz S.2.1) t n7.1
  have h := nx3_r (L := S.2.1) (e := cntE n (fdE ls sz S.2.1)) m.toNat 0 (-1, R * S.2.2.2 - S.2.2.1, 1) (show (0 : Int) < 1 by decide) (fun t _ _ => (he t).1)
  obtain ⟨h1, h2, h3, h4⟩ := h
  obtain ⟨E1, E2, E3, E4, E5⟩ := hE
  unfold stE
  generalize nx3 S.2.1 (cntE n (fdE ls sz S.2.1)) m.toNat 0 (-1, R * S.2.2.2 - S.2.2.1, 1) = Z at *
  have h2 : Z.2.1 * 1 ≤ (R * S.2.2.2 - S.2.2.1) * Z.2.2 := h2
  have key : (Z = (-1, R * S.2.2.2 - S.2.2.1, 1) ∨ (0 ≤ Z.1 ∧ Z.1 < m ∧ 0 < S.2.1 Z.1 ∧ Z.2.1 = S.2.1 Z.1 ∧ Z.2.2 = cntE n (fdE ls sz S.2.1) Z.1)) := by
    rcases h4 with z | z
    · exact Or.inl z
    · obtain ⟨p, p0, p1, e⟩ := cnt_ex z.2.2.1
      refine Or.inr ⟨z.1, by omega, ?_, z.2.2.2⟩
      rcases fdE_r (L := S.2.1) hL p0 p1 with w | w
      · omega
      · rw [e] at w; exact w.2.2
  refine ⟨⟨by omega, ?_⟩, ?_, by omega, fun t t0 t1 => ?_, key⟩
  · rcases key with z | z
    · rw [z]; show (1 : Int) ≤ 7; decide
    · have := he Z.1; omega
  · rcases key with z | z
    · rw [z]; show 0 ≤ R * S.2.2.2 - S.2.2.1; omega
    · omega
  · by_cases c : 0 < cntE n (fdE ls sz S.2.1) t
    · exact h3 t t0 (by omega) c
    · have := he t
      rw [show cntE n (fdE ls sz S.2.1) t = 0 by omega, Int.mul_zero]
      exact Int.mul_nonneg (E3 t t0 t1).1 (by omega)
theorem eS_EI {n m R : Int} {ls : Int → Int → Int} {sz : Int → Int} {S : ES} {i : Nat} (n7 : 0 ≤ n ∧ n ≤ 7) (m8 : 0 ≤ m ∧ m ≤ 8) (hL : LGo n m ls sz) (hE : EI n m R i S) (hT : S.2.2.1 < R * S.2.2.2) : EI n m R (i + 1) (eS n m R ls sz S) := by
  have hs := stE_r n7 m8.1 hL hE
  have he := fun t => cnt_r (fdE ls sz S.2.1) t n7.1
  obtain ⟨E1, E2, E3, E4, E5⟩ := hE
  unfold EI eS
  generalize stE n m R ls sz S = Z at *
  dsimp only
  obtain ⟨⟨u1, u7⟩, x0, h2, h3, h4⟩ := hs
  have eR : R * (S.2.2.2 * Z.2.2) = R * S.2.2.2 * Z.2.2 := (Int.mul_assoc _ _ _).symm
  have eRT : (R * S.2.2.2 - S.2.2.1) * Z.2.2 = R * S.2.2.2 * Z.2.2 - S.2.2.1 * Z.2.2 := Int.sub_mul _ _ _
  have hTu : 0 ≤ S.2.2.1 * Z.2.2 := Int.mul_nonneg E2.1 (by omega)
  have hB1 : 1 * 1 ≤ S.2.2.2 * Z.2.2 := Int.mul_le_mul E1.1 u1 (by decide) (by omega)
  have hB2 : S.2.2.2 * Z.2.2 ≤ 7 ^ i * 7 := Int.mul_le_mul E1.2 u7 (by omega) (by omega)
  refine ⟨⟨by omega, by rw [Int.pow_succ]; exact hB2⟩, ⟨by omega, by rw [eR]; omega⟩, fun t t0 t1 => ?_, fun p t p0 p1 t0 t1 => ?_, ?_⟩
  · have := h3 t t0 t1
    have := Int.mul_nonneg x0 (he t).1
    have h9 := Int.mul_le_mul_of_nonneg_right (E3 t t0 t1).2 (show 0 ≤ Z.2.2 by omega)
    have e9 : 9 * S.2.2.2 * Z.2.2 = 9 * (S.2.2.2 * Z.2.2) := Int.mul_assoc _ _ _
    omega
  · have hN := E4 p t p0 p1 t0 t1
    have ha := Int.mul_nonneg hN.1 (show 0 ≤ Z.2.2 by omega)
    have hb := Int.mul_le_mul_of_nonneg_right hN.2 (show 0 ≤ Z.2.2 by omega)
    split <;> omega
  · rcases h4 with z | z
    · left
      rw [z]
      show S.2.2.1 * 1 + (R * S.2.2.2 - S.2.2.1) = R * (S.2.2.2 * 1)
      rw [Int.mul_one, Int.mul_one]; omega
    · right
      have hcp : cpL m S.2.1 + i ≤ m := by rcases E5 with w | w; omega; exact w
      have hlt : cpL m (fun t => S.2.1 t * Z.2.2 - Z.2.1 * cntE n (fdE ls sz S.2.1) t) < cpL m S.2.1 := by
        refine sm_lt m.toNat 0 0 (fun t t0 t1 => ?_) ⟨Z.1, z.1, by omega, ?_⟩
        · by_cases c : 0 < S.2.1 t
          · show (if 0 < S.2.1 t * Z.2.2 - Z.2.1 * cntE n (fdE ls sz S.2.1) t then (1 : Int) else 0) ≤ if 0 < S.2.1 t then 1 else 0
            rw [if_pos c]; split <;> omega
          · have e0 : S.2.1 t = 0 := by have := E3 t t0 (by omega); omega
            have := Int.mul_nonneg x0 (he t).1
            show (if 0 < S.2.1 t * Z.2.2 - Z.2.1 * cntE n (fdE ls sz S.2.1) t then (1 : Int) else 0) ≤ if 0 < S.2.1 t then 1 else 0
            rw [e0, Int.zero_mul, if_neg (by omega), if_neg (by omega)]; omega
        · show (if 0 < S.2.1 Z.1 * Z.2.2 - Z.2.1 * cntE n (fdE ls sz S.2.1) Z.1 then (1 : Int) else 0) < if 0 < S.2.1 Z.1 then 1 else 0
          rw [z.2.2.2.1, z.2.2.2.2, if_pos z.2.2.1, if_neg (by omega)]; omega
      omega
theorem pw_le : ∀ i : Fin 10, (7 : Int) ^ i.val ≤ 40353607 := by decide
theorem EI_b {n m R : Int} {i : Nat} {S : ES} (hi : i ≤ 9) (h : EI n m R i S) : S.2.2.2 ≤ 40353607 := Int.le_trans h.1.2 (pw_le ⟨i, by omega⟩)
theorem EI_9 {n m R : Int} {S : ES} (m8 : m ≤ 8) (m0 : 0 ≤ m) (h : EI n m R 9 S) : S.2.2.1 = R * S.2.2.2 := by
  rcases h.2.2.2.2 with z | z
  · exact z
  · have := sm_le (f := fun t => if 0 < S.2.1 t then 1 else 0) (lo := 0) (hi := 1) m.toNat 0 0 (fun j _ _ => by
      show 0 ≤ (if 0 < S.2.1 j then (1 : Int) else 0) ∧ (if 0 < S.2.1 j then (1 : Int) else 0) ≤ 1
      split <;> omega)
    unfold cpL at z
    omega
/-- in the end -/
theorem eL_EI {n m R : Int} {ls : Int → Int → Int} {sz : Int → Int} (n7 : 0 ≤ n ∧ n ≤ 7) (m8 : 0 ≤ m ∧ m ≤ 8) (hL : LGo n m ls sz) : ∀ (q i : Nat) (S : ES) (H : Int), EI n m R i S → ∃ j, i ≤ j ∧ j ≤ i + q ∧ EI n m R j (eL n m R ls sz q S H).1
  | 0, i, S, H, h => ⟨i, Nat.le_refl i, Nat.le_refl i, h⟩
  | q + 1, i, S, H, h => by
    have e : eL n m R ls sz (q + 1) S H = if S.2.2.1 < R * S.2.2.2 ∧ 0 < anN n (fdE ls sz S.2.1) then eL n m R ls sz q (eS n m R ls sz S) (H + 1) else (S, H) := rfl
    rw [e]
    by_cases c : S.2.2.1 < R * S.2.2.2 ∧ 0 < anN n (fdE ls sz S.2.1)
    · rw [if_pos c]
      obtain ⟨j, j0, j1, hj⟩ := eL_EI n7 m8 hL q (i + 1) _ (H + 1) (eS_EI n7 m8 hL h c.1)
      exact ⟨j, by omega, by omega, hj⟩
    · rw [if_neg c]; exact ⟨i, Nat.le_refl i, by omega, h⟩
