-- ===== parted: bits of sets
theorem not_8 : ∀ a : Fin 256, ∀ b : Fin 256, andI (a.val : Int) (xorI (b.val : Int) (-1)) = ((a.val &&& (255 - b.val) : Nat) : Int) := by decide +kernel
theorem and_0 {a b : Int} (a0 : 0 ≤ a) (a1 : a < 256) (b0 : 0 ≤ b) (b1 : b < 256) : andI a b = 0 ↔ ¬ ∃ t, 0 ≤ t ∧ t < 8 ∧ bt a t = true ∧ bt b t = true := by
  obtain ⟨n, rfl⟩ := Int.eq_ofNat_of_zero_le a0
  obtain ⟨m, rfl⟩ := Int.eq_ofNat_of_zero_le b0
  rw [andI_nat (by omega) (by omega)]
  constructor
  · rintro h ⟨t, t0, t1, h1, h2⟩
    have h0 : n &&& m = 0 := by omega
    have := Nat.testBit_and n m t.toNat
    rw [h0] at this
    unfold bt at h1 h2
    rw [Int.toNat_natCast] at h1 h2
    rw [h1, h2] at this
    simp at this
  · intro h
    have h0 : n &&& m = 0 := by
      apply Nat.eq_of_testBit_eq
      intro i
      rw [Nat.testBit_and, Nat.zero_testBit]
      by_cases c : i < 8
      · cases h1 : n.testBit i with
        | false => rfl
        | true =>
          cases h2 : m.testBit i with
          | false => rfl
          | true => exact absurd ⟨(i : Int), by omega, by omega, by unfold bt; rw [Int.toNat_natCast, Int.toNat_natCast]; exact h1, by unfold bt; rw [Int.toNat_natCast, Int.toNat_natCast]; exact h2⟩ h
      · rw [Nat.testBit_lt_two_pow (Nat.lt_of_lt_of_le (show n < 2 ^ 8 by omega) (Nat.pow_le_pow_right (by decide) (by omega)))]; rfl
    omega
theorem and_n0 {a b : Int} (a0 : 0 ≤ a) (a1 : a < 256) (b0 : 0 ≤ b) (b1 : b < 256) : andI a (xorI b (-1)) = 0 ↔ ∀ t, 0 ≤ t → t < 8 → bt a t = true → bt b t = true := by
  obtain ⟨n, rfl⟩ := Int.eq_ofNat_of_zero_le a0
  obtain ⟨m, rfl⟩ := Int.eq_ofNat_of_zero_le b0
  rw [not_8 ⟨n, by omega⟩ ⟨m, by omega⟩]
  dsimp only
  have hb : ∀ i, (255 - m).testBit i = (decide (i < 8) && !m.testBit i) := fun i => by
    have := Nat.testBit_two_pow_sub_succ (n := 8) (x := m) (by omega) i
    rw [show 255 - m = 2 ^ 8 - (m + 1) by omega]
    exact this
  constructor
  · intro h t t0 t1 h1
    have h0 : n &&& (255 - m) = 0 := by omega
    have := Nat.testBit_and n (255 - m) t.toNat
    rw [h0, hb] at this
    unfold bt at h1 ⊢
    rw [Int.toNat_natCast] at h1 ⊢
    rw [h1, decide_eq_true (show t.toNat < 8 by omega), Nat.zero_testBit] at this
    cases h2 : m.testBit t.toNat with
    | true => rfl
    | false => rw [h2] at this; simp at this
  · intro h
    have h0 : n &&& (255 - m) = 0 := by
      apply Nat.eq_of_testBit_eq
      intro i
      rw [Nat.testBit_and, Nat.zero_testBit, hb]
      by_cases c : i < 8
      · cases h1 : n.testBit i with
        | false => rfl
        | true =>
          have := h (i : Int) (by omega) (by omega) (by unfold bt; rw [Int.toNat_natCast, Int.toNat_natCast]; exact h1)
          unfold bt at this
          rw [Int.toNat_natCast, Int.toNat_natCast] at this
          rw [this]; simp
      · rw [decide_eq_false c]; simp
    omega
/-- each set has its mask -/
theorem mask_ex {m : Int} (m0 : 0 ≤ m) (m8 : m ≤ 8) (S : Int → Bool) : ∃ b, 0 ≤ b ∧ b < shlI 1 m ∧ ∀ t, 0 ≤ t → t < m → bt b t = S t := by
  have main : ∀ k : Nat, (k : Int) ≤ m → ∃ b, (0 ≤ b ∧ b < 65536) ∧ ∀ t, 0 ≤ t → t < 16 → bt b t = (decide (t < k) && S t) := by
    intro k
    induction k with
    | zero => intro _; exact ⟨0, by decide, fun t t0 t1 => by rw [bit_0, decide_eq_false (by omega)]; rfl⟩
    | succ k ih =>
      intro hk
      obtain ⟨b, hb, hs⟩ := ih (by omega)
      cases c : S k with
      | false =>
        refine ⟨b, hb, fun t t0 t1 => ?_⟩
        rw [hs t t0 t1]
        by_cases y : t = k
        · rw [y, c, Bool.and_false, Bool.and_false]
        · by_cases z : t < k
          · rw [decide_eq_true z, decide_eq_true (show t < ((k + 1 : Nat) : Int) by omega)]
          · rw [decide_eq_false z, decide_eq_false (show ¬ t < ((k + 1 : Nat) : Int) by omega)]
      | true =>
        have ho := bit_or (b := b) (t := (k : Int)) hb.1 hb.2 (by omega) (by omega)
        refine ⟨_, ho.1, fun t t0 t1 => ?_⟩
        rw [ho.2 t t0, hs t t0 t1]
        by_cases y : t = k
        · rw [y, c, decide_eq_true (rfl : (k : Int) = k), Bool.or_true, decide_eq_true (show (k : Int) < ((k + 1 : Nat) : Int) by omega)]; rfl
        · rw [decide_eq_false y, Bool.or_false]
          by_cases z : t < k
          · rw [decide_eq_true z, decide_eq_true (show t < ((k + 1 : Nat) : Int) by omega)]
          · rw [decide_eq_false z, decide_eq_false (show ¬ t < ((k + 1 : Nat) : Int) by omega)]
  obtain ⟨b, hb, hs⟩ := main m.toNat (by omega)
  refine ⟨b, hb.1, ?_, fun t t0 t1 => by rw [hs t t0 (by omega), decide_eq_true (by omega)]; rfl⟩
  obtain ⟨k, rfl⟩ := Int.eq_ofNat_of_zero_le m0
  obtain ⟨n, rfl⟩ := Int.eq_ofNat_of_zero_le hb.1
  rw [shlI_1 ⟨k, by omega⟩]
  dsimp only
  have : n < 2 ^ k := Nat.lt_pow_two_of_testBit n (fun i hi => by
    by_cases c : i < 16
    · have := hs i (by omega) (by omega)
      rw [decide_eq_false (by omega)] at this
      unfold bt at this
      rw [Int.toNat_natCast, Int.toNat_natCast] at this
      rw [this]; rfl
    · exact Nat.testBit_lt_two_pow (Nat.lt_of_lt_of_le (show n < 2 ^ 16 by omega) (Nat.pow_le_pow_right (by decide) (by omega))))
  omega
theorem shl_r {m : Int} (m0 : 0 ≤ m) (m8 : m ≤ 8) : 1 ≤ shlI 1 m ∧ shlI 1 m ≤ 256 := by
  obtain ⟨k, rfl⟩ := Int.eq_ofNat_of_zero_le m0
  have h : ∀ k : Fin 9, 1 ≤ shlI 1 (k.val : Int) ∧ shlI 1 (k.val : Int) ≤ 256 := by decide +kernel
  exact h ⟨k, by omega⟩
theorem row_7 : ∀ p : Fin 7, ptr 319 (p.val : Int) = 320 + p.val ∧ sK (320 + (p.val : Int)) = 100 ∧ sN (320 + (p.val : Int)) = 8 := by decide +kernel
theorem pt_rw {p : Int} (p0 : 0 ≤ p) (p7 : p < 7) : ptr 319 p = 320 + p := by
  obtain ⟨n, rfl⟩ := Int.eq_ofNat_of_zero_le p0
  exact (row_7 ⟨n, by omega⟩).1
theorem ck_rw {p : Int} {P : Prop} (p0 : 0 ≤ p) (p7 : p < 7) : chkK (320 + p) 100 P = P := by
  obtain ⟨n, rfl⟩ := Int.eq_ofNat_of_zero_le p0
  exact chkK_eq (row_7 ⟨n, by omega⟩).2.1
theorem sn_rw {p : Int} (p0 : 0 ≤ p) (p7 : p < 7) : sN (320 + p) = 8 := by
  obtain ⟨n, rfl⟩ := Int.eq_ofNat_of_zero_le p0
  exact (row_7 ⟨n, by omega⟩).2.2
