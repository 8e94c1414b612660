-- ===== parted: the class measures, and looks whether it can go on
/-- the table as the class has it in hand -/
def PX (s : Mem) (n m : Int) (T : Int → Int) : Prop := ∀ p t, 0 ≤ p → p < n → 0 ≤ t → t < m → s (320 + p) t = T (8 * p + t)
def AL (s : Mem) (n m : Int) (T : Int → Int) : Prop := ∀ p, 0 ≤ p → p < n → (0 ≤ s 327 p ∧ s 327 p < 256) ∧ ∀ t, 0 ≤ t → t < 8 → bt (s 327 p) t = decide (t < m ∧ 0 < T (8 * p + t))
theorem X_measure_ok {d : Nat} {K : Int → Mem → Prop} {s : Mem} {g n m rest : Int} {am T : Int → Int} (g0 : 0 ≤ g) (g5 : g ≤ 5) (eN : s (4 + 43 * g) 1 = n) (eM : s (4 + 43 * g) 0 = m) (n7 : 1 ≤ n ∧ n ≤ 7) (m8 : 1 ≤ m ∧ m ≤ 8) (ha : ∀ t, 0 ≤ t → t < m → s (5 + 43 * g) t = am t ∧ 1 ≤ am t ∧ am t ≤ 9) (hP : PX s n m T) (hT : PT n m am T rest)
    (k : ∀ s2 : Mem, AL s2 n m T → (∀ t, 0 ≤ t → t < m → s2 329 t = am t ∧ s2 330 t = maxI 0 (ndF n am T rest t) ∧ s2 331 t = am t * rest - colS n T t) → (∀ b j, ¬ b = 327 → ¬ (329 ≤ b ∧ b ≤ 331) → s2 b j = s b j) → K 0 s2) : AM2 i_Parting_measure (d + 1) [(2, 316), (2, 4 + 43 * g), (0, rest)] s K := by
  have ckg := fun {P : Prop} => ck_g (P := P) g0 g5
  have l64 : ∀ (q : Nat) (p : Int) (s1 : Mem), 0 ≤ p → p + q = n → (∀ x, 0 ≤ x → x < p → (0 ≤ s1 327 x ∧ s1 327 x < 256) ∧ ∀ t, 0 ≤ t → t < 8 → bt (s1 327 x) t = decide (t < m ∧ 0 < T (8 * x + t))) → (∀ t, 0 ≤ t → t < m → s1 329 t = am t ∧ s1 330 t = maxI 0 (ndF n am T rest t) ∧ s1 331 t = am t * rest - colS n T t) → (∀ b j, ¬ b = 327 → ¬ (329 ≤ b ∧ b ≤ 331) → s1 b j = s b j) → AW2 i_Parting_measure (d + 1) 64 [] [(0, (2, 316)), (1, (2, 4 + 43 * g)), (3, (0, p))] s1 K := by
    intro q
    induction q with
    | zero =>
      intro p s1 p0 e h1 h2 f
      refine s_Parting_measure_64 ?_
      rw [ckg, f (4 + 43 * g) 1 (by omega) (by omega), eN]
      exact brF_i (by omega) (k s1 (fun x x0 x1 => h1 x x0 (by omega)) h2 f)
    | succ q ih =>
      intro p s1 p0 e h1 h2 f
      refine s_Parting_measure_64 ?_
      rw [ckg, f (4 + 43 * g) 1 (by omega) (by omega), eN]
      refine brT_i (by omega) ?_
      have l72 : ∀ (u : Nat) (t b : Int), 0 ≤ t → t + u = m → (0 ≤ b ∧ b < 65536) → (∀ v, 0 ≤ v → v < 16 → bt b v = (decide (v < t) && decide (0 < T (8 * p + v)))) → AW2 i_Parting_measure (d + 1) 72 [] [(0, (2, 316)), (1, (2, 4 + 43 * g)), (3, (0, p)), (4, (0, b)), (5, (0, t))] s1 K := by
        intro u
        induction u with
        | zero =>
          intro t b t0 e2 hb hbt
          refine s_Parting_measure_72 ?_
          rw [ckg, f (4 + 43 * g) 0 (by omega) (by omega), eM, w32_id (x := p + 1) (by omega) (by omega)]
          refine brF_i (by omega) (inb_i p0 (by omega) (ih (p + 1) _ (by omega) (by omega) (fun x x0 x1 => ?_) (fun v v0 v1 => by rw [st_ne (by omega), st_ne (by omega), st_ne (by omega)]; exact h2 v v0 v1) (fun b j z1 z2 => by rw [st_ne (by omega)]; exact f b j z1 z2)))
          by_cases y : x = p
          · rw [y, st_self]
            refine ⟨⟨hb.1, bit_256 hb.1 hb.2 (fun v v0 v1 => ?_)⟩, fun v v0 v1 => ?_⟩
            · rw [hbt v (by omega) v1, decide_eq_false (by omega)]; rfl
            · rw [hbt v v0 (by omega), ← Bool.decide_and]
              simp only [decide_eq_decide]
              omega
          · rw [st_ne (by omega)]; exact h1 x x0 (by omega)
        | succ u ihu =>
          intro t b t0 e2 hb hbt
          have hPv : s1 (320 + p) t = T (8 * p + t) := by rw [f _ _ (by omega) (by omega)]; exact hP p t p0 (by omega) t0 (by omega)
          refine s_Parting_measure_72 ?_
          rw [ckg, f (4 + 43 * g) 0 (by omega) (by omega), eM, pt_rw p0 (by omega), ck_rw p0 (by omega), sn_rw p0 (by omega), hPv, w32_id (x := t + 1) (by omega) (by omega)]
          refine brT_i (by omega) (inb_i p0 (by omega) (inb_i t0 (by omega) ⟨fun c => ?_, fun c => ?_⟩))
          · have ho := bit_or (b := b) (t := t) hb.1 hb.2 t0 (by omega)
            refine ihu (t + 1) _ (by omega) (by omega) ho.1 (fun v v0 v1 => ?_)
            rw [ho.2 v v0, hbt v v0 v1]
            by_cases z : v = t
            · rw [z, decide_eq_true (show t < t + 1 by omega), decide_eq_true c, decide_eq_true (rfl : t = t), Bool.or_true]; rfl
            · rw [decide_eq_false z, Bool.or_false]
              by_cases y : v < t
              · rw [decide_eq_true y, decide_eq_true (show v < t + 1 by omega)]
              · rw [decide_eq_false y, decide_eq_false (show ¬ v < t + 1 by omega)]
          · have e0 : orI b 0 = b := by
              obtain ⟨w, rfl⟩ := Int.eq_ofNat_of_zero_le hb.1
              have := orI_nat (a := w) (b := 0) (by omega) (by decide)
              rw [show ((0 : Nat) : Int) = 0 from rfl, Nat.or_zero] at this
              exact this
            rw [e0]
            refine ihu (t + 1) b (by omega) (by omega) hb (fun v v0 v1 => ?_)
            rw [hbt v v0 v1]
            by_cases z : v = t
            · rw [z, decide_eq_false c, Bool.and_false, Bool.and_false]
            · by_cases y : v < t
              · rw [decide_eq_true y, decide_eq_true (show v < t + 1 by omega)]
              · rw [decide_eq_false y, decide_eq_false (show ¬ v < t + 1 by omega)]
      exact l72 m.toNat 0 0 (Int.le_refl 0) (by omega) (by decide) (fun v v0 v1 => by rw [bit_0, decide_eq_false (by omega)]; rfl)
  have l2 : ∀ (q : Nat) (t : Int) (s1 : Mem), 0 ≤ t → t + q = m → (∀ v, 0 ≤ v → v < t → s1 329 v = am v ∧ s1 330 v = maxI 0 (ndF n am T rest v) ∧ s1 331 v = am v * rest - colS n T v) → (∀ b j, ¬ b = 327 → ¬ (329 ≤ b ∧ b ≤ 331) → s1 b j = s b j) → AW2 i_Parting_measure (d + 1) 2 [] [(0, (2, 316)), (1, (2, 4 + 43 * g)), (2, (0, rest)), (3, (0, t))] s1 K := by
    intro q
    induction q with
    | zero =>
      intro t s1 t0 e h2 f
      refine s_Parting_measure_2 ?_
      rw [ckg, f (4 + 43 * g) 0 (by omega) (by omega), eM]
      exact brF_i (by omega) (l64 n.toNat 0 s1 (Int.le_refl 0) (by omega) (fun x a b => by omega) (fun v v0 v1 => h2 v v0 (by omega)) f)
    | succ q ih =>
      intro t s1 t0 e h2 f
      have hat := ha t t0 (by omega)
      have hcr := hT.2.2.2 t t0 (by omega)
      have hcr0 : 0 ≤ colS n T t := sm_nn _ _ (fun p p0 p1 => (hT.2.1 p t p0 (by omega) t0 (by omega)).1)
      have hmu := mul_b (a := am t) (b := rest) (A := 9) (C := 60) (by omega) hat.2.2 hT.1.1 hT.1.2
      refine s_Parting_measure_2 ?_
      rw [ckg, f (4 + 43 * g) 0 (by omega) (by omega), eM]
      refine brT_i (by omega) ?_
      have l10 : ∀ (u : Nat) (p c : Int), 0 ≤ p → p + u = n → (0 ≤ c ∧ c ≤ 60 * p) → sm (fun p => T (8 * p + t)) u p c = colS n T t → AW2 i_Parting_measure (d + 1) 10 [] [(0, (2, 316)), (1, (2, 4 + 43 * g)), (2, (0, rest)), (3, (0, t)), (4, (0, c)), (5, (0, p))] s1 K := by
        intro u
        induction u with
        | zero =>
          intro p c p0 e2 hc ec
          have ec : c = colS n T t := ec
          have e5 : ∀ (x y : Int), s1 (5 + 43 * g) t = am t := fun _ _ => by rw [f _ _ (by omega) (by omega)]; exact hat.1
          have en : am t - (am t * rest - colS n T t) = ndF n am T rest t := by unfold ndF; rw [Int.mul_sub, Int.mul_one]; omega
          refine s_Parting_measure_10 ?_
          rw [ckg, f (4 + 43 * g) 1 (by omega) (by omega), eN, pt_am g0 g5, ck_am g0 g5, sn_am g0 g5, e5 0 0, ec, w32_id (x := am t * rest) (by omega) (by omega), w32_id (x := am t * rest - colS n T t) (by omega) (by omega), w32_id (x := t + 1) (by omega) (by omega)]
          rw [show ∀ v : Int, st s1 331 t v (5 + 43 * g) t = am t from fun v => by rw [st_ne (by omega)]; exact e5 0 0]
          rw [show ∀ v : Int, st (st s1 331 t v) 329 t (am t) (5 + 43 * g) t = am t from fun v => by rw [st_ne (by omega), st_ne (by omega)]; exact e5 0 0]
          rw [show ∀ v : Int, st (st s1 331 t v) 329 t (am t) 331 t = v from fun v => by rw [st_ne (by omega), st_self]]
          rw [en, w32_id (x := ndF n am T rest t) (by unfold ndF at *; omega) (by unfold ndF at *; omega)]
          refine brF_i (by omega) ?_
          (try simp (disch := omega) only [w32_id, w64_id, inb_eq, st_self, st_ne, pt3, ck_g, ck_am, ck_he, ck_sz, ck_ls, ck_lv, ck_pa, ck_kn, sn_am, sn_he, sn_sz, sn_ls, sn_lv, sn_pa, sn_kn, pt_am, pt_he, pt_sz, pt_ls, pt_lv, pt_pa, pt_kn, ck_lr, ck_vr, ck_pr, sn_lr, sn_vr, sn_pr, pt_lr, pt_vr, pt_pr, pt_sh, ck_sh, pt_to, ck_to, sn_to])
          refine ih (t + 1) _ (by omega) (by omega) (fun v v0 v1 => ?_) (fun b j z1 z2 => by rw [st_ne (by omega), st_ne (by omega), st_ne (by omega)]; exact f b j z1 z2)
          by_cases y : v = t
          · rw [y]
            exact ⟨by rw [st_ne (by omega), st_self], st_self _ _ _ _, by rw [st_ne (by omega), st_ne (by omega), st_self]⟩
          · rw [st_ne (by omega), st_ne (by omega), st_ne (by omega), st_ne (by omega), st_ne (by omega), st_ne (by omega), st_ne (by omega), st_ne (by omega), st_ne (by omega)]
            exact h2 v v0 (by omega)
        | succ u ihu =>
          intro p c p0 e2 hc ec
          have hTp := hT.2.1 p t p0 (by omega) t0 (by omega)
          refine s_Parting_measure_10 ?_
          rw [ckg, f (4 + 43 * g) 1 (by omega) (by omega), eN, pt_rw p0 (by omega), ck_rw p0 (by omega), sn_rw p0 (by omega), f (320 + p) t (by omega) (by omega), hP p t p0 (by omega) t0 (by omega), w32_id (x := c + T (8 * p + t)) (by omega) (by omega), w32_id (x := p + 1) (by omega) (by omega)]
          exact brT_i (by omega) (inb_i p0 (by omega) (inb_i t0 (by omega) (ihu (p + 1) _ (by omega) (by omega) (by omega) ec)))
      exact l10 n.toNat 0 0 (Int.le_refl 0) (by omega) (by omega) rfl
  exact e_Parting_measure fun _ => l2 m.toNat 0 s (Int.le_refl 0) (by omega) (fun v a b => by omega) (fun _ _ _ _ => rfl)
theorem X_canGoOn_ok {d : Nat} {K : Int → Mem → Prop} {s : Mem} {g n m p : Int} {T fr mu : Int → Int} (g0 : 0 ≤ g) (g5 : g ≤ 5) (eN : s (4 + 43 * g) 1 = n) (eM : s (4 + 43 * g) 0 = m) (n7 : 1 ≤ n ∧ n ≤ 7) (m8 : 1 ≤ m ∧ m ≤ 8) (p0 : 0 ≤ p) (p1 : p ≤ n) (hA : AL s n m T) (hf : ∀ t, 0 ≤ t → t < m → s 329 t = fr t ∧ s 330 t = mu t ∧ (0 ≤ fr t ∧ fr t ≤ 9) ∧ -100 ≤ mu t ∧ mu t ≤ 9)
    (k1 : HC m T (n - p).toNat p fr mu → K 1 s) (k0 : ¬ HC m T (n - p).toNat p fr mu → K 0 s) : AM2 i_Parting_canGoOn (d + 1) [(2, 316), (2, 4 + 43 * g), (0, p)] s K := by
  have ckg := fun {P : Prop} => ck_g (P := P) g0 g5
  have hsh := shl_r (m := m) (by omega) m8.2
  have key : ∀ (b : Int), 0 ≤ b → b < shlI 1 m → ∀ x, 0 ≤ x → x < n → (andI (s 327 x) (xorI b (-1)) = 0 ↔ subS m T (bt b) x = true) ∧ (andI (s 327 x) b = 0 ↔ ¬ hitS m T (bt b) x = true) := fun b b0 b1 x x0 x1 => by
    have hx := hA x x0 x1
    rw [and_n0 hx.1.1 hx.1.2 b0 (by omega), and_0 hx.1.1 hx.1.2 b0 (by omega), sub_iff, hit_iff]
    constructor
    · constructor
      · intro h t t0 t1 tT
        exact h t t0 (by omega) (by rw [hx.2 t t0 (by omega)]; exact decide_eq_true ⟨t1, tT⟩)
      · intro h t t0 t1 ht
        rw [hx.2 t t0 t1, decide_eq_true_eq] at ht
        exact h t t0 ht.1 ht.2
    · constructor
      · rintro h ⟨t, t0, t1, tT, ts⟩
        exact h ⟨t, t0, by omega, by rw [hx.2 t t0 (by omega)]; exact decide_eq_true ⟨t1, tT⟩, ts⟩
      · rintro h ⟨t, t0, t1, ht, ts⟩
        rw [hx.2 t t0 t1, decide_eq_true_eq] at ht
        exact h ⟨t, t0, ht.1, ht.2, ts⟩
  have setF : ∀ {S S' : Int → Bool}, (∀ t, 0 ≤ t → t < m → S t = S' t) → (cNs m T (n - p).toNat p S = cNs m T (n - p).toNat p S' ∧ cMs m T (n - p).toNat p S = cMs m T (n - p).toNat p S') ∧ fSs m fr S = fSs m fr S' ∧ nSs m mu S = nSs m mu S' := fun {S S'} h => by
    refine ⟨⟨sm_congr _ _ _ (fun x _ _ => ?_), sm_congr _ _ _ (fun x _ _ => ?_)⟩, sm_congr _ _ _ (fun t t0 t1 => ?_), sm_congr _ _ _ (fun t t0 t1 => ?_)⟩
    · have : subS m T S x = subS m T S' x := by
        rw [Bool.eq_iff_iff, sub_iff, sub_iff]
        constructor
        · intro h2 t t0 t1 tT; rw [← h t t0 t1]; exact h2 t t0 t1 tT
        · intro h2 t t0 t1 tT; rw [h t t0 t1]; exact h2 t t0 t1 tT
      rw [this]
    · have : hitS m T S x = hitS m T S' x := by
        rw [Bool.eq_iff_iff, hit_iff, hit_iff]
        constructor
        · rintro ⟨t, t0, t1, tT, ts⟩; exact ⟨t, t0, t1, tT, by rw [← h t t0 t1]; exact ts⟩
        · rintro ⟨t, t0, t1, tT, ts⟩; exact ⟨t, t0, t1, tT, by rw [h t t0 t1]; exact ts⟩
      rw [this]
    · rw [h t t0 (by omega)]
    · rw [h t t0 (by omega)]
  have l2 : ∀ (q : Nat) (b : Int), 0 ≤ b → b + q = shlI 1 m → (∀ c, 0 ≤ c → c < b → cNs m T (n - p).toNat p (bt c) ≤ fSs m fr (bt c) ∧ nSs m mu (bt c) ≤ cMs m T (n - p).toNat p (bt c)) → AW2 i_Parting_canGoOn (d + 1) 2 [] [(0, (2, 316)), (1, (2, 4 + 43 * g)), (2, (0, p)), (3, (0, b))] s K := by
    intro q
    induction q with
    | zero =>
      intro b b0 e h
      refine s_Parting_canGoOn_2 ?_
      rw [ckg, eM]
      refine brF_i (by omega) (k1 (fun S => ?_))
      obtain ⟨c, c0, c1, c2⟩ := mask_ex (m := m) (by omega) m8.2 S
      have hc := h c c0 (by omega)
      have e := setF c2
      rw [e.1.1, e.1.2, e.2.1, e.2.2] at hc
      exact hc
    | succ q ih =>
      intro b b0 e h
      refine s_Parting_canGoOn_2 ?_
      rw [ckg, eM]
      refine brT_i (by omega) ?_
      have l44 : ∀ (u : Nat) (x ro ne : Int), p ≤ x → x + u = n → (-x ≤ ro ∧ ro ≤ 72) → (-x ≤ ne ∧ ne ≤ 72) → ro - cNs m T u x (bt b) = fSs m fr (bt b) - cNs m T (n - p).toNat p (bt b) → ne - cMs m T u x (bt b) = nSs m mu (bt b) - cMs m T (n - p).toNat p (bt b) → AW2 i_Parting_canGoOn (d + 1) 44 [] [(0, (2, 316)), (1, (2, 4 + 43 * g)), (2, (0, p)), (3, (0, b)), (4, (0, ro)), (5, (0, ne)), (6, (0, x))] s K := by
        intro u
        induction u with
        | zero =>
          intro x ro ne x0 e2 hro hne er en
          have er : ro - 0 = fSs m fr (bt b) - cNs m T (n - p).toNat p (bt b) := er
          have en : ne - 0 = nSs m mu (bt b) - cMs m T (n - p).toNat p (bt b) := en
          refine s_Parting_canGoOn_44 ?_
          rw [ckg, eN, w32_id (x := b + 1) (by omega) (by omega)]
          refine brF_i (by omega) ⟨fun c => k0 (fun hc => by have := (hc (bt b)).1; omega), fun c => ⟨fun c2 => k0 (fun hc => by have := (hc (bt b)).2; omega), fun c2 => ih (b + 1) (by omega) (by omega) (fun c c0 c1 => ?_)⟩⟩
          by_cases y : c = b
          · rw [y]; omega
          · exact h c c0 (by omega)
        | succ u ihu =>
          intro x ro ne x0 e2 hro hne er en
          have hk := key b b0 (by omega) x (by omega) (by omega)
          rw [cNs_s] at er
          rw [cMs_s] at en
          refine s_Parting_canGoOn_44 ?_
          rw [ckg, eN, w32_id (x := ro - 1) (by omega) (by omega), w32_id (x := ro - 0) (by omega) (by omega), w32_id (x := ne - 1) (by omega) (by omega), w32_id (x := ne - 0) (by omega) (by omega), w32_id (x := x + 1) (by omega) (by omega)]
          refine brT_i (by omega) (inb_i (by omega) (by omega) ⟨fun c => inb_i (by omega) (by omega) ⟨fun c2 => ?_, fun c2 => ?_⟩, fun c => inb_i (by omega) (by omega) ⟨fun c2 => ?_, fun c2 => ?_⟩⟩)
          · rw [if_pos (hk.1.mp c)] at er
            rw [if_neg (hk.2.mp c2)] at en
            exact ihu (x + 1) _ _ (by omega) (by omega) (by omega) (by omega) (by omega) (by omega)
          · rw [if_pos (hk.1.mp c)] at er
            have c3 : hitS m T (bt b) x = true := Classical.byContradiction (fun w => c2 (hk.2.mpr w))
            rw [if_pos c3] at en
            exact ihu (x + 1) _ _ (by omega) (by omega) (by omega) (by omega) (by omega) (by omega)
          · rw [if_neg (fun w => c (hk.1.mpr w))] at er
            rw [if_neg (hk.2.mp c2)] at en
            exact ihu (x + 1) _ _ (by omega) (by omega) (by omega) (by omega) (by omega) (by omega)
          · rw [if_neg (fun w => c (hk.1.mpr w))] at er
            have c3 : hitS m T (bt b) x = true := Classical.byContradiction (fun w => c2 (hk.2.mpr w))
            rw [if_pos c3] at en
            exact ihu (x + 1) _ _ (by omega) (by omega) (by omega) (by omega) (by omega) (by omega)
      have l14 : ∀ (u : Nat) (t ro ne : Int), 0 ≤ t → t + u = m → (0 ≤ ro ∧ ro ≤ 9 * t) → (0 ≤ ne ∧ ne ≤ 9 * t) → sm (fun v => if bt b v = true then fr v else 0) u t ro = fSs m fr (bt b) → sm (fun v => if bt b v = true then maxI 0 (mu v) else 0) u t ne = nSs m mu (bt b) → AW2 i_Parting_canGoOn (d + 1) 14 [] [(0, (2, 316)), (1, (2, 4 + 43 * g)), (2, (0, p)), (3, (0, b)), (4, (0, ro)), (5, (0, ne)), (6, (0, t))] s K := by
        intro u
        induction u with
        | zero =>
          intro t ro ne t0 e2 hro hne er en
          have er : ro = fSs m fr (bt b) := er
          have en : ne = nSs m mu (bt b) := en
          refine s_Parting_canGoOn_14 ?_
          rw [ckg, eM]
          exact brF_i (by omega) (l44 (n - p).toNat p ro ne (Int.le_refl p) (by omega) (by omega) (by omega) (by omega) (by omega))
        | succ u ihu =>
          intro t ro ne t0 e2 hro hne er en
          have hft := hf t t0 (by omega)
          have hmx := max0 (mu t)
          have er : sm (fun v => if bt b v = true then fr v else 0) u (t + 1) (ro + if bt b t = true then fr t else 0) = fSs m fr (bt b) := er
          have en : sm (fun v => if bt b v = true then maxI 0 (mu v) else 0) u (t + 1) (ne + if bt b t = true then maxI 0 (mu t) else 0) = nSs m mu (bt b) := en
          refine s_Parting_canGoOn_14 ?_
          rw [ckg, eM, bit_e b0 (by omega) t0 (by omega), hft.1, hft.2.1, w32_id (x := t + 1) (by omega) (by omega), w32_id (x := ro + fr t) (by omega) (by omega), w32_id (x := ne + maxI 0 (mu t)) (by omega) (by omega)]
          refine brT_i (by omega) ?_
          by_cases c : bt b t = true
          · rw [if_pos c] at er en ⊢
            exact brF_i (by decide) (inb_i t0 (by omega) (inb_i t0 (by omega) (ihu (t + 1) _ _ (by omega) (by omega) (by omega) (by omega) er en)))
          · rw [if_neg c] at er en ⊢
            rw [Int.add_zero] at er en
            exact brT_i rfl (ihu (t + 1) _ _ (by omega) (by omega) (by omega) (by omega) er en)
      exact l14 m.toNat 0 0 0 (Int.le_refl 0) (by omega) (by decide) (by decide) rfl rfl
  refine e_Parting_canGoOn fun _ => ?_
  have := l2 (shlI 1 m).toNat 0 (Int.le_refl 0) (by omega) (fun c a b => by omega)
  exact this
