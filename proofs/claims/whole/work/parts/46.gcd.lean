-- ===== common divisors, counts of bits, points
def cm (a b : Int) : Int := if (Int.gcd a b : Int) = 0 then 1 else (Int.gcd a b : Int)
theorem gcd_step (x y : Nat) : Int.gcd (x : Int) (y : Int) = Int.gcd (y : Int) ((x % y : Nat) : Int) := by
  show Nat.gcd x y = Nat.gcd y (x % y)
  rw [Nat.gcd_comm x y, Nat.gcd_rec y x, Nat.gcd_comm]
theorem gcd_0 (x : Nat) : Int.gcd (x : Int) 0 = x := by
  show Nat.gcd x 0 = x
  rw [Nat.gcd_zero_right]
theorem cm_step {x y : Nat} : cm (x : Int) (y : Int) = cm (y : Int) ((x % y : Nat) : Int) := by unfold cm; rw [gcd_step]
theorem mod_half {x r : Nat} (h0 : 0 < r) (h : r < x) : 2 * (x % r) < x := by
  have h1 := Nat.mod_lt x h0
  have h2 : x % r ≤ x - r := by rw [Nat.mod_eq_sub_mod (Nat.le_of_lt h)]; exact Nat.mod_le _ _
  omega
theorem remL_n {x y : Nat} (hx : x < 9223372036854775808) (h0 : 0 < y) (hy : y < 9223372036854775808) : remL (x : Int) (y : Int) = ((x % y : Nat) : Int) := by
  rw [remL_nn (by omega) (by omega) (by omega) (by omega)]; rfl
theorem X_common_ok {d : Nat} {K : Int → Mem → Prop} {σ : Mem} {a b : Int} (a0 : 0 ≤ a) (a1 : a ≤ 9223372036854775807) (b0 : 0 ≤ b) (b1 : b ≤ 9223372036854775807) (k : K (cm a b) σ) : AM2 i_X_commonOf (d + 1) [(1, a), (1, b)] σ K := by
  have fin : ∀ (x : Nat) (i : Int), K (cm (x : Int) 0) σ → AW2 i_X_commonOf (d + 1) 8 [] [(4, (1, (x : Int))), (6, (1, 0)), (8, (0, i))] σ K := by
    intro x i k
    unfold cm at k
    rw [gcd_0] at k
    refine s_X_commonOf_8 ⟨fun _ => ⟨fun _ => ⟨fun z => ?_, fun z => ?_⟩, fun z => absurd rfl z⟩, fun _ => ⟨fun z => ?_, fun z => ?_⟩⟩
    · rw [if_pos z] at k; exact k
    · rw [if_neg z] at k; exact k
    · rw [if_pos z] at k; exact k
    · rw [if_neg z] at k; exact k
  have go : ∀ (e : Nat) (x y : Nat) (i : Int), y < 2 ^ e → 0 ≤ i → i + 2 * e ≤ 199 → x < 9223372036854775808 → y < 9223372036854775808 → K (cm (x : Int) (y : Int)) σ → AW2 i_X_commonOf (d + 1) 8 [] [(4, (1, (x : Int))), (6, (1, (y : Int))), (8, (0, i))] σ K := by
    intro e
    induction e with
    | zero =>
      intro x y i hy i0 i1 hx hy2 k
      have : y = 0 := by simpa using hy
      subst this
      exact fin x i k
    | succ e ih =>
      intro x y i hy i0 i1 hx hy2 k
      by_cases z : y = 0
      · subst z; exact fin x i k
      · rw [cm_step] at k
        refine s_X_commonOf_8 ⟨fun _ => ⟨fun c => by omega, fun _ => nzP_i (by omega) ?_⟩, fun c => by omega⟩
        rw [remL_n hx (by omega) hy2, w32_id (by omega) (by omega)]
        have hr := Nat.mod_lt x (show 0 < y by omega)
        by_cases z2 : x % y = 0
        · rw [z2] at k ⊢; exact fin y (i + 1) k
        · rw [cm_step] at k
          refine s_X_commonOf_8 ⟨fun _ => ⟨fun c => by omega, fun _ => nzP_i (by omega) ?_⟩, fun c => by omega⟩
          rw [remL_n hy2 (by omega) (by omega), w32_id (by omega) (by omega)]
          have hh := mod_half (x := y) (r := x % y) (by omega) hr
          rw [Nat.pow_succ] at hy
          exact ih (x % y) (y % (x % y)) (i + 1 + 1) (by omega) (by omega) (by omega) (by omega) (by omega) k
  refine e_X_commonOf fun _ _ => ?_
  have ab : ∀ v : Int, 0 ≤ v → absL v = v := fun v v0 => by
    unfold absL
    by_cases z : 0 < v
    · rw [if_pos z]
    · rw [if_neg z, show v = 0 by omega]; rfl
  rw [ab a a0, ab b b0]
  obtain ⟨x, rfl⟩ := Int.eq_ofNat_of_zero_le a0
  obtain ⟨y, rfl⟩ := Int.eq_ofNat_of_zero_le b0
  exact go 63 x y 0 (by omega) (by decide) (by decide) (by omega) (by omega) k
theorem M_common_ok {d : Nat} {K : Int → Mem → Prop} {σ : Mem} {a b : Int} (a0 : -9223372036854775807 ≤ a) (a1 : a ≤ 9223372036854775807) (b0 : 0 ≤ b) (b1 : b ≤ 9223372036854775807) (k : K (cm a b) σ) : AM2 i_M_common (d + 1) [(1, a), (1, b)] σ K := by
  have go : ∀ (e : Nat) (x y : Nat), y ≤ e → x < 9223372036854775808 → y < 9223372036854775808 → K (cm (x : Int) (y : Int)) σ → AW2 i_M_common (d + 1) 11 [] [(4, (1, (x : Int))), (6, (1, (y : Int)))] σ K := by
    intro e
    induction e with
    | zero =>
      intro x y hy hx hy2 k
      have : y = 0 := by omega
      subst this
      unfold cm at k
      rw [show ((0 : Nat) : Int) = 0 from rfl, gcd_0] at k
      refine s_M_common_11 ⟨fun _ => ⟨fun z => ?_, fun z => ?_⟩, fun z => absurd rfl z⟩
      · rw [if_pos z] at k; exact k
      · rw [if_neg z] at k; exact k
    | succ e ih =>
      intro x y hy hx hy2 k
      by_cases z : y = 0
      · exact ih x y (by omega) hx hy2 k
      · rw [cm_step] at k
        refine s_M_common_11 ⟨fun c => by omega, fun _ => nzP_i (by omega) ?_⟩
        rw [remL_n hx (by omega) hy2]
        have hr := Nat.mod_lt x (show 0 < y by omega)
        exact ih y (x % y) (by omega) hy2 (by omega) k
  obtain ⟨y, rfl⟩ := Int.eq_ofNat_of_zero_le b0
  have key : ∀ x : Nat, (x : Int) = (a.natAbs : Int) → AW2 i_M_common (d + 1) 11 [] [(4, (1, (x : Int))), (6, (1, (y : Int)))] σ K := fun x hx => by
    refine go y x y (Nat.le_refl y) (by omega) (by omega) ?_
    have e : cm a (y : Int) = cm (x : Int) (y : Int) := by
      unfold cm
      have : Int.gcd a (y : Int) = Int.gcd (x : Int) (y : Int) := by
        show Nat.gcd a.natAbs y = Nat.gcd x y
        rw [show x = a.natAbs by omega]
      rw [this]
    rw [← e]; exact k
  refine e_M_common fun _ _ => ⟨fun c => ?_, fun c => ?_⟩
  · rw [w64_id (by omega) (by omega)]
    have := key a.natAbs rfl
    rw [show ((a.natAbs : Nat) : Int) = -a by omega] at this
    exact this
  · have := key a.natAbs rfl
    rw [show ((a.natAbs : Nat) : Int) = a by omega] at this
    exact this
theorem cm_pos (a b : Int) : 1 ≤ cm a b := by
  unfold cm
  split
  · exact Int.le_refl 1
  · omega
theorem cm_le {a b : Int} (hb : 0 < b) : cm a b ≤ b := by
  have h : Int.gcd a b ∣ b.natAbs := Nat.gcd_dvd_right _ _
  have h2 := Nat.le_of_dvd (by omega) h
  unfold cm
  split <;> omega
theorem cm_dvd {a b : Int} (hb : 0 < b) : cm a b ∣ a ∧ cm a b ∣ b := by
  have e : cm a b = (Int.gcd a b : Int) := by
    unfold cm
    rw [if_neg]
    intro z
    have h : Int.gcd a b ∣ b.natAbs := Nat.gcd_dvd_right _ _
    have h3 : Int.gcd a b = 0 := by omega
    rw [h3] at h
    have := Nat.eq_zero_of_zero_dvd h
    omega
  rw [e]
  exact ⟨Int.gcd_dvd_left _ _, Int.gcd_dvd_right _ _⟩
-- bits counted
def bc1 (x : Int) : Int := w32 (x - (andI (ushI x 1) 1431655765))
def bc2 (y : Int) : Int := w32 ((andI y 858993459) + (andI (ushI y 2) 858993459))
def bc3 (z : Int) : Int := andI (w32 (z + (ushI z 4))) 252645135
def bc4 (z : Int) : Int := w32 (z + (ushI z 8))
def bc5 (z : Int) : Int := w32 (z + (ushI z 16))
def pc (c : Nat) (x : Int) : Int := sm (fun i => if bt x i then 1 else 0) c 0 0
theorem bc_ok : ∀ c : Fin 7, ∀ x : Fin 64, x.val < 2 ^ c.val → andI (bc5 (bc4 (bc3 (bc2 (bc1 (x.val : Int)))))) 63 = pc c.val (x.val : Int) := by decide +kernel
theorem bitCount_ok {d : Nat} {K : Int → Mem → Prop} {σ : Mem} {x : Int} {c : Nat} (hc : c ≤ 6) (x0 : 0 ≤ x) (x1 : x < shlI 1 c) (k : K (pc c x) σ) : AM2 i_Integer_bitCount (d + 1) [(0, x)] σ K := by
  refine e_Integer_bitCount fun _ => ?_
  obtain ⟨n, rfl⟩ := Int.eq_ofNat_of_zero_le x0
  rw [shlI_1 ⟨c, by omega⟩] at x1
  have x1 : n < 2 ^ c := Int.ofNat_lt.mp x1
  have l : 2 ^ c ≤ 2 ^ 6 := Nat.pow_le_pow_right (by decide) hc
  have e := bc_ok ⟨c, by omega⟩ ⟨n, by omega⟩ x1
  show K (andI (bc5 (bc4 (bc3 (bc2 (bc1 (n : Int)))))) 63) σ
  rw [e]
  exact k
-- points
def pts (S : RS) (lv : Int → Int) (p : Int) : Int := sm (fun i => 8 - lv (S.2.2.1 p i)) (S.2.1 p).toNat 0 0
theorem pts_m {S : RS} {lv : Int → Int} {p m : Int} (m0 : 0 ≤ m) (h : ∀ i, 0 ≤ i → i < S.2.1 p → 0 ≤ S.2.2.1 p i ∧ S.2.2.1 p i < m) (hg : 0 ≤ S.2.1 p) : sm (fun t => hs S p t * (8 - lv t)) m.toNat 0 0 = pts S lv p := by
  unfold pts hs
  have go : ∀ q : Nat, (q : Int) ≤ S.2.1 p → sm (fun t => sm (fun i => if S.2.2.1 p i = t then 1 else 0) q 0 0 * (8 - lv t)) m.toNat 0 0 = sm (fun i => 8 - lv (S.2.2.1 p i)) q 0 0 := by
    intro q
    induction q with
    | zero =>
      intro _
      rw [sm_congr (f' := fun _ => 0) m.toNat 0 0 (fun j _ _ => by
        show (0 : Int) * (8 - lv j) = 0
        rw [Int.zero_mul])]
      have := sm_le (f := fun _ => 0) (lo := 0) (hi := 0) m.toNat 0 0 (fun _ _ _ => ⟨Int.le_refl 0, Int.le_refl 0⟩)
      show _ = (0 : Int)
      omega
    | succ q ih =>
      intro hq
      have hd := h q (by omega) (by omega)
      rw [sm_snoc (f := fun i => 8 - lv (S.2.2.1 p i)), ← ih (by omega), show (0 : Int) + (q : Int) = q by omega]
      rw [sm_set (f := fun t => sm (fun i => if S.2.2.1 p i = t then 1 else 0) (q + 1) 0 0 * (8 - lv t)) (f' := fun t => sm (fun i => if S.2.2.1 p i = t then 1 else 0) q 0 0 * (8 - lv t)) (d := S.2.2.1 p q) m.toNat 0 0 hd.1 (by omega) (fun j _ _ e => by
        show sm (fun i => if S.2.2.1 p i = j then 1 else 0) (q + 1) 0 0 * (8 - lv j) = sm (fun i => if S.2.2.1 p i = j then 1 else 0) q 0 0 * (8 - lv j)
        rw [sm_snoc, show (0 : Int) + (q : Int) = q by omega, if_neg (fun z => e z.symm), Int.add_zero])]
      show _ + sm (fun i => if S.2.2.1 p i = S.2.2.1 p q then 1 else 0) (q + 1) 0 0 * (8 - lv (S.2.2.1 p q)) - sm (fun i => if S.2.2.1 p i = S.2.2.1 p q then 1 else 0) q 0 0 * (8 - lv (S.2.2.1 p q)) = _
      rw [sm_snoc, show (0 : Int) + (q : Int) = q by omega, if_pos rfl, Int.add_mul, Int.one_mul]
      omega
  have := go (S.2.1 p).toNat (by omega)
  exact this
theorem pts_r {S : RS} {lv : Int → Int} {p m : Int} (h : ∀ i, 0 ≤ i → i < S.2.1 p → 0 ≤ S.2.2.1 p i ∧ S.2.2.1 p i < m) (hg : 0 ≤ S.2.1 p ∧ S.2.1 p ≤ 3) (hl : ∀ t, 0 ≤ t → t < m → -1 ≤ lv t ∧ lv t ≤ 7) : 0 ≤ pts S lv p ∧ pts S lv p ≤ 27 := by
  unfold pts
  have := sm_le (f := fun i => 8 - lv (S.2.2.1 p i)) (lo := 0) (hi := 9) (S.2.1 p).toNat 0 0 (fun j a b => by
    have h1 := h j a (by omega)
    have h2 := hl _ h1.1 h1.2
    show 0 ≤ 8 - lv (S.2.2.1 p j) ∧ 8 - lv (S.2.2.1 p j) ≤ 9
    omega)
  omega
theorem X_pointsOf_ok {d : Nat} {K : Int → Mem → Prop} {s : Mem} {h g n m p : Int} {lv : Int → Int} {S : RS} (hh : h = 263 ∨ h = 285) (g0 : 0 ≤ g) (g5 : g ≤ 5) (hn : n ≤ 7) (hm : m ≤ 8) (hS : HR s h n m S) (hP : PI n m S) (p0 : 0 ≤ p) (p1 : p < n) (hg : 0 ≤ S.2.1 p ∧ S.2.1 p ≤ 3) (hl : ∀ t, 0 ≤ t → t < m → s (17 + 43 * g + p) t = lv t ∧ -1 ≤ lv t ∧ lv t ≤ 7) (k : K (pts S lv p) s) : AM2 i_Hand_pointsOf (d + 1) [(2, h), (2, 4 + 43 * g), (0, p)] s K := by
  have e2 := hS.2.1 p p0 p1
  have go : ∀ (q : Nat) (i a : Int), 0 ≤ i → i + q = S.2.1 p → 0 ≤ a → a ≤ 9 * i → K (sm (fun i => 8 - lv (S.2.2.1 p i)) q i a) s → AW2 i_Hand_pointsOf (d + 1) 4 [] [(0, (2, h)), (1, (2, 4 + 43 * g)), (2, (0, p)), (3, (0, a)), (4, (0, i))] s K := by
    intro q
    induction q with
    | zero => intro i a i0 e a0 a1 k; refine s_Hand_pointsOf_4 ?_; (try simp (disch := omega) only [w32_id, w64_id, inb_eq, st_self, st_ne, pt3, ck_g, ck_am, ck_he, ck_sz, ck_ls, ck_lv, ck_pa, ck_kn, sn_am, sn_he, sn_sz, sn_ls, sn_lv, sn_pa, sn_kn, pt_am, pt_he, pt_sz, pt_ls, pt_lv, pt_pa, pt_kn, ck_lr, ck_vr, ck_pr, sn_lr, sn_vr, sn_pr, pt_lr, pt_vr, pt_pr, pt_sh, ck_sh, pt_to, ck_to, sn_to, ck_h, ck_hl, ck_hg, ck_ht, ck_hm, ck_tr, ck_mr, sn_hl, sn_hg, sn_ht, sn_hm, sn_tr, sn_mr, pt_hl, pt_hg, pt_ht, pt_hm, pt_tr, pt_mr, e2]); exact ⟨fun z => by omega, fun _ => k⟩
    | succ q ih =>
      intro i a i0 e a0 a1 k
      have e3 := (hS.2.2.1 p i p0 p1 i0 (by omega)).1
      have h3 := hP.2 p i p0 p1 i0 (by omega)
      have h4 := hl _ h3.1 h3.2
      refine s_Hand_pointsOf_4 ?_
      (try simp (disch := omega) only [w32_id, w64_id, inb_eq, st_self, st_ne, pt3, ck_g, ck_am, ck_he, ck_sz, ck_ls, ck_lv, ck_pa, ck_kn, sn_am, sn_he, sn_sz, sn_ls, sn_lv, sn_pa, sn_kn, pt_am, pt_he, pt_sz, pt_ls, pt_lv, pt_pa, pt_kn, ck_lr, ck_vr, ck_pr, sn_lr, sn_vr, sn_pr, pt_lr, pt_vr, pt_pr, pt_sh, ck_sh, pt_to, ck_to, sn_to, ck_h, ck_hl, ck_hg, ck_ht, ck_hm, ck_tr, ck_mr, sn_hl, sn_hg, sn_ht, sn_hm, sn_tr, sn_mr, pt_hl, pt_hg, pt_ht, pt_hm, pt_tr, pt_mr, e2, e3, h4.1])
      refine ⟨fun _ => ?_, fun z => by omega⟩
      exact ih (i + 1) _ (by omega) (by omega) (by omega) (by omega) k
  exact e_Hand_pointsOf fun _ => go _ 0 0 (Int.le_refl 0) (by omega) (Int.le_refl 0) (by omega) k
theorem M_pointsOf_ok {d : Nat} {K : Int → Mem → Prop} {s : Mem} {g n m p : Int} {lv : Int → Int} {S : RS} (g0 : 0 ≤ g) (g5 : g ≤ 5) (hn : n ≤ 7) (hm : 1 ≤ m ∧ m ≤ 8) (e8 : s 358 g = m) (hS : MR s n m S) (hP : PI n m S) (p0 : 0 ≤ p) (p1 : p < n) (hg : 0 ≤ S.2.1 p ∧ S.2.1 p ≤ 3) (hl : ∀ t, 0 ≤ t → t < m → s 364 (56 * g + 8 * p + t) = lv t ∧ -1 ≤ lv t ∧ lv t ≤ 7) (k : K (pts S lv p) s) : AM2 i_M_pointsOf (d + 1) [(2, 356), (0, g), (0, p)] s K := by
  rw [← pts_m (m := m) (by omega) (fun i i0 i1 => hP.2 p i p0 p1 i0 i1) hg.1] at k
  have go : ∀ (q : Nat) (i a : Int), 0 ≤ i → i + q = m → 0 ≤ a → a ≤ 27 * i → K (sm (fun t => hs S p t * (8 - lv t)) q i a) s → AW2 i_M_pointsOf (d + 1) 4 [] [(0, (2, 356)), (1, (0, g)), (2, (0, p)), (3, (0, a)), (4, (0, i))] s K := by
    intro q
    induction q with
    | zero => intro i a i0 e a0 a1 k; refine s_M_pointsOf_4 ?_; (try simp (disch := omega) only [w32_id, w64_id, inb_eq, st_self, st_ne, pt3, ck_g, ck_am, ck_he, ck_sz, ck_ls, ck_lv, ck_pa, ck_kn, sn_am, sn_he, sn_sz, sn_ls, sn_lv, sn_pa, sn_kn, pt_am, pt_he, pt_sz, pt_ls, pt_lv, pt_pa, pt_kn, ck_lr, ck_vr, ck_pr, sn_lr, sn_vr, sn_pr, pt_lr, pt_vr, pt_pr, pt_sh, ck_sh, pt_to, ck_to, sn_to, e8]); exact ⟨fun z => by omega, fun _ => k⟩
    | succ q ih =>
      intro i a i0 e a0 a1 k
      have e3 := hS.2.2.2 p i p0 p1 i0 (by omega)
      have h4 := hl i i0 (by omega)
      have h5 := hs_r (S := S) (p := p) (t := i) hg.1
      have h6 := Int.mul_le_mul (show hs S p i ≤ 3 by omega) (show 8 - lv i ≤ 9 by omega) (by omega) (by decide)
      have h7 := Int.mul_nonneg h5.1 (show 0 ≤ 8 - lv i by omega)
      refine s_M_pointsOf_4 ?_
      (try simp (disch := omega) only [w32_id, w64_id, inb_eq, st_self, st_ne, pt3, ck_g, ck_am, ck_he, ck_sz, ck_ls, ck_lv, ck_pa, ck_kn, sn_am, sn_he, sn_sz, sn_ls, sn_lv, sn_pa, sn_kn, pt_am, pt_he, pt_sz, pt_ls, pt_lv, pt_pa, pt_kn, ck_lr, ck_vr, ck_pr, sn_lr, sn_vr, sn_pr, pt_lr, pt_vr, pt_pr, pt_sh, ck_sh, pt_to, ck_to, sn_to, e8, e3, h4.1])
      refine ⟨fun _ => ?_, fun z => by omega⟩
      exact ih (i + 1) _ (by omega) (by omega) (by omega) (by omega) k
  exact e_M_pointsOf fun _ _ => go m.toNat 0 0 (Int.le_refl 0) (by omega) (Int.le_refl 0) (by omega) k
