-- ===== numbers
theorem bm32 {x : Int} (h1 : -2147483648 ≤ x) (h2 : x ≤ 2147483647) : x.bmod (2 ^ 32) = x := Int.bmod_eq_of_le_mul_two (by omega) (by omega)
theorem bm64 {x : Int} (h1 : -9223372036854775808 ≤ x) (h2 : x ≤ 9223372036854775807) : x.bmod (2 ^ 64) = x := Int.bmod_eq_of_le_mul_two (by omega) (by omega)
theorem oi32 {x : Int} (h1 : -2147483648 ≤ x) (h2 : x ≤ 2147483647) : (Int32.ofInt x).toInt = x := Int32.toInt_ofInt_of_le (by omega) (by omega)
theorem oi64 {x : Int} (h1 : -9223372036854775808 ≤ x) (h2 : x ≤ 9223372036854775807) : (Int64.ofInt x).toInt = x := Int64.toInt_ofInt_of_le (by omega) (by omega)
theorem ediv_le {x y : Int} (h0 : 0 ≤ x) (y0 : 0 < y) : 0 ≤ x / y ∧ x / y ≤ x := ⟨Int.ediv_nonneg h0 (by omega), Int.ediv_le_self y h0⟩
theorem divI_nn {x y : Int} (h0 : 0 ≤ x) (h1 : x ≤ 2147483647) (y0 : 0 < y) (y1 : y ≤ 2147483647) : divI x y = x / y := by
  have := ediv_le h0 y0
  unfold divI
  rw [Int32.toInt_div, oi32 (by omega) h1, oi32 (by omega) y1, Int.tdiv_eq_ediv_of_nonneg h0, bm32 (by omega) (by omega)]
theorem remI_nn {x y : Int} (h0 : 0 ≤ x) (h1 : x ≤ 2147483647) (y0 : 0 < y) (y1 : y ≤ 2147483647) : remI x y = x % y := by
  have e := Int.emod_lt_of_pos x y0
  have e2 := Int.emod_nonneg x (show y ≠ 0 by omega)
  unfold remI
  rw [Int32.toInt_sub, Int32.toInt_mul, Int32.toInt_div, Int.bmod_mul_bmod, Int.sub_bmod_bmod, oi32 (by omega) h1, oi32 (by omega) y1, Int.tdiv_eq_ediv_of_nonneg h0]
  rw [show x - x / y * y = x % y by rw [Int.emod_def, Int.mul_comm y], bm32 (by omega) (by omega)]
theorem divL_nn {x y : Int} (h0 : 0 ≤ x) (h1 : x ≤ 9223372036854775807) (y0 : 0 < y) (y1 : y ≤ 9223372036854775807) : divL x y = x / y := by
  have := ediv_le h0 y0
  unfold divL
  rw [Int64.toInt_div, oi64 (by omega) h1, oi64 (by omega) y1, Int.tdiv_eq_ediv_of_nonneg h0, bm64 (by omega) (by omega)]
theorem remL_nn {x y : Int} (h0 : 0 ≤ x) (h1 : x ≤ 9223372036854775807) (y0 : 0 < y) (y1 : y ≤ 9223372036854775807) : remL x y = x % y := by
  have e := Int.emod_lt_of_pos x y0
  have e2 := Int.emod_nonneg x (show y ≠ 0 by omega)
  unfold remL
  rw [Int64.toInt_sub, Int64.toInt_mul, Int64.toInt_div, Int.bmod_mul_bmod, Int.sub_bmod_bmod, oi64 (by omega) h1, oi64 (by omega) y1, Int.tdiv_eq_ediv_of_nonneg h0]
  rw [show x - x / y * y = x % y by rw [Int.emod_def, Int.mul_comm y], bm64 (by omega) (by omega)]
theorem l2iI_id {x : Int} (h1 : -2147483648 ≤ x) (h2 : x ≤ 2147483647) : l2iI x = x := by
  unfold l2iI
  rw [Int64.toInt32_ofInt, oi32 h1 h2]
-- ===== bits
theorem natB {n : Nat} (h : n < 2147483648) : (Int32.ofInt (n : Int)).toBitVec.toNat = n := by
  rw [Int32.toBitVec_ofInt, BitVec.ofInt_natCast, BitVec.toNat_ofNat, Nat.mod_eq_of_lt (by omega)]
theorem bvI {v : BitVec 32} (h : v.toNat < 2147483648) : v.toInt = (v.toNat : Int) := BitVec.toInt_eq_toNat_of_lt (by omega)
theorem andI_nat {a b : Nat} (ha : a < 2147483648) (hb : b < 2147483648) : andI a b = ((a &&& b : Nat) : Int) := by
  have e : (Int32.ofInt (a : Int) &&& Int32.ofInt (b : Int)).toBitVec.toNat = a &&& b := by rw [Int32.toBitVec_and, BitVec.toNat_and, natB ha, natB hb]
  have l : a &&& b < 2147483648 := Nat.lt_of_le_of_lt Nat.and_le_left ha
  show (Int32.ofInt (a : Int) &&& Int32.ofInt (b : Int)).toBitVec.toInt = _
  rw [bvI (by rw [e]; exact l), e]
theorem orI_nat {a b : Nat} (ha : a < 2147483648) (hb : b < 2147483648) : orI a b = ((a ||| b : Nat) : Int) := by
  have e : (Int32.ofInt (a : Int) ||| Int32.ofInt (b : Int)).toBitVec.toNat = a ||| b := by rw [Int32.toBitVec_or, BitVec.toNat_or, natB ha, natB hb]
  have l : a ||| b < 2147483648 := Nat.or_lt_two_pow (n := 31) ha hb
  show (Int32.ofInt (a : Int) ||| Int32.ofInt (b : Int)).toBitVec.toInt = _
  rw [bvI (by rw [e]; exact l), e]
theorem shlI_1 : ∀ t : Fin 31, shlI 1 (t.val : Int) = ((2 ^ t.val : Nat) : Int) := by decide +kernel
theorem shr_am : ∀ t : Fin 16, ((Int32.ofInt (t.val : Int) &&& 31).toBitVec.smod 32).toNat = t.val := by decide +kernel
theorem shr_bv (t : Fin 16) (x : Int32) : (x >>> (Int32.ofInt (t.val : Int) &&& 31)).toBitVec = x.toBitVec.sshiftRight t.val := by
  rw [Int32.toBitVec_shiftRight, BitVec.sshiftRight', shr_am]
theorem shrI_nat {b t : Nat} (hb : b < 2147483648) (ht : t < 16) : shrI b t = ((b >>> t : Nat) : Int) := by
  show (Int32.ofInt (b : Int) >>> (Int32.ofInt (t : Int) &&& 31)).toBitVec.toInt = _
  rw [shr_bv ⟨t, ht⟩, BitVec.toInt_sshiftRight, bvI (by rw [natB hb]; exact hb), natB hb]
  rfl
/-- a bit of a mask -/
def bt (b t : Int) : Bool := b.toNat.testBit t.toNat
theorem bit_e {b t : Int} (b0 : 0 ≤ b) (b1 : b < 2147483648) (t0 : 0 ≤ t) (t1 : t < 16) : andI (shrI b t) 1 = if bt b t then 1 else 0 := by
  obtain ⟨n, rfl⟩ := Int.eq_ofNat_of_zero_le b0
  obtain ⟨m, rfl⟩ := Int.eq_ofNat_of_zero_le t0
  have l : n >>> m < 2147483648 := Nat.lt_of_le_of_lt (Nat.shiftRight_le n m) (by omega)
  rw [shrI_nat (by omega) (by omega)]
  have e := andI_nat (b := 1) l (by decide)
  rw [show ((1 : Nat) : Int) = 1 from rfl] at e
  rw [e, Nat.and_one_is_mod]
  unfold bt
  rw [Int.toNat_natCast, Int.toNat_natCast, Nat.testBit_eq_decide_div_mod_eq, Nat.shiftRight_eq_div_pow]
  by_cases q : n / 2 ^ m % 2 = 1
  · rw [q]; simp
  · have : n / 2 ^ m % 2 = 0 := by omega
    rw [this]; simp
theorem bit_or {b t : Int} (b0 : 0 ≤ b) (b1 : b < 65536) (t0 : 0 ≤ t) (t1 : t < 16) : (0 ≤ orI b (shlI 1 t) ∧ orI b (shlI 1 t) < 65536) ∧ ∀ u, 0 ≤ u → bt (orI b (shlI 1 t)) u = (bt b u || decide (u = t)) := by
  obtain ⟨n, rfl⟩ := Int.eq_ofNat_of_zero_le b0
  obtain ⟨m, rfl⟩ := Int.eq_ofNat_of_zero_le t0
  have hp : 2 ^ m < 65536 := Nat.pow_lt_pow_right (by decide) (show m < 16 by omega)
  have hor : n ||| 2 ^ m < 65536 := Nat.or_lt_two_pow (n := 16) (by omega) hp
  rw [shlI_1 ⟨m, by omega⟩, orI_nat (by omega) (by dsimp only; omega)]
  refine ⟨⟨by omega, by dsimp only; omega⟩, fun u u0 => ?_⟩
  obtain ⟨k, rfl⟩ := Int.eq_ofNat_of_zero_le u0
  unfold bt
  rw [Int.toNat_natCast, Int.toNat_natCast, Int.toNat_natCast, Nat.testBit_or, Nat.testBit_two_pow]
  congr 1
  by_cases q : m = k
  · simp [q]
  · simp [q]; omega
theorem bit_clr8 : ∀ b : Fin 256, ∀ t : Fin 8, (0 ≤ andI (b.val : Int) (xorI (shlI 1 (t.val : Int)) (-1)) ∧ andI (b.val : Int) (xorI (shlI 1 (t.val : Int)) (-1)) < 256) ∧ ∀ u : Fin 8, bt (andI (b.val : Int) (xorI (shlI 1 (t.val : Int)) (-1))) (u.val : Int) = (bt (b.val : Int) (u.val : Int) && !(decide (u.val = t.val))) := by decide +kernel
theorem bit_clr {b t : Int} (b0 : 0 ≤ b) (b1 : b < 256) (t0 : 0 ≤ t) (t1 : t < 8) : (0 ≤ andI b (xorI (shlI 1 t) (-1)) ∧ andI b (xorI (shlI 1 t) (-1)) < 256) ∧ ∀ u, 0 ≤ u → u < 8 → bt (andI b (xorI (shlI 1 t) (-1))) u = (bt b u && !(decide (u = t))) := by
  obtain ⟨n, rfl⟩ := Int.eq_ofNat_of_zero_le b0
  obtain ⟨m, rfl⟩ := Int.eq_ofNat_of_zero_le t0
  have h := bit_clr8 ⟨n, by omega⟩ ⟨m, by omega⟩
  refine ⟨h.1, fun u u0 u1 => ?_⟩
  obtain ⟨k, rfl⟩ := Int.eq_ofNat_of_zero_le u0
  have h2 := h.2 ⟨k, by omega⟩
  rw [h2]
  congr 2
  simp only [decide_eq_decide]
  omega
theorem bit_ones9 : ∀ n : Fin 10, (0 ≤ shlI 1 (n.val : Int) - 1 ∧ shlI 1 (n.val : Int) - 1 < 512) ∧ ∀ u : Fin 16, bt (shlI 1 (n.val : Int) - 1) (u.val : Int) = decide (u.val < n.val) := by decide +kernel
theorem bit_ones {n : Int} (n0 : 0 ≤ n) (n1 : n < 10) : (0 ≤ shlI 1 n - 1 ∧ shlI 1 n - 1 < 512) ∧ ∀ u, 0 ≤ u → u < 16 → bt (shlI 1 n - 1) u = decide (u < n) := by
  obtain ⟨m, rfl⟩ := Int.eq_ofNat_of_zero_le n0
  have h := bit_ones9 ⟨m, by omega⟩
  refine ⟨h.1, fun u u0 u1 => ?_⟩
  obtain ⟨k, rfl⟩ := Int.eq_ofNat_of_zero_le u0
  rw [h.2 ⟨k, by omega⟩]
  simp only [decide_eq_decide]
  omega
theorem bit_0 (u : Int) : bt 0 u = false := by
  unfold bt
  simp
theorem bit_ext {a b : Int} (a0 : 0 ≤ a) (a1 : a < 65536) (b0 : 0 ≤ b) (b1 : b < 65536) (h : ∀ u, 0 ≤ u → u < 16 → bt a u = bt b u) : a = b := by
  obtain ⟨n, rfl⟩ := Int.eq_ofNat_of_zero_le a0
  obtain ⟨m, rfl⟩ := Int.eq_ofNat_of_zero_le b0
  congr 1
  apply Nat.eq_of_testBit_eq
  intro i
  by_cases q : i < 16
  · have := h i (by omega) (by omega)
    unfold bt at this
    simpa using this
  · rw [Nat.testBit_lt_two_pow (Nat.lt_of_lt_of_le (show n < 2 ^ 16 by omega) (Nat.pow_le_pow_right (by decide) (by omega))), Nat.testBit_lt_two_pow (Nat.lt_of_lt_of_le (show m < 2 ^ 16 by omega) (Nat.pow_le_pow_right (by decide) (by omega)))]
