-- ===== parted: one whole giving, purely
/-- the first picks, one by one -/
def PkR (m : Int) (T : Int → Int) : Nat → Int → (Int → Int) → (Int → Int) → (Int → Int) → Prop
  | 0, _, _, mu, _ => ∀ t, 0 ≤ t → t < m → mu t ≤ 0
  | q + 1, p, fr, mu, a => ((0 ≤ a p ∧ a p < m ∧ 0 < T (8 * p + a p) ∧ 0 < fr (a p)) ∧ Cm m T q (p + 1) (up fr (a p) (fr (a p) - 1)) (up mu (a p) (mu (a p) - 1))) ∧ (∀ t, 0 ≤ t → t < a p → ¬ ((0 < T (8 * p + t) ∧ 0 < fr t) ∧ Cm m T q (p + 1) (up fr t (fr t - 1)) (up mu t (mu t - 1)))) ∧ PkR m T q (p + 1) (up fr (a p) (fr (a p) - 1)) (up mu (a p) (mu (a p) - 1)) a
theorem PkR_u {m : Int} {T : Int → Int} : ∀ (q : Nat) (p : Int) (fr mu a a' : Int → Int), PkR m T q p fr mu a → PkR m T q p fr mu a' → ∀ x, p ≤ x → x < p + q → a x = a' x
  | 0, p, _, _, _, _, _, _, x, h1, h2 => by omega
  | q + 1, p, fr, mu, a, a', h, h', x, h1, h2 => by
    obtain ⟨u1, u2, u3⟩ := h
    obtain ⟨v1, v2, v3⟩ := h'
    have e : a p = a' p := by
      apply Classical.byContradiction
      intro hne
      by_cases c : a p < a' p
      · exact v2 (a p) u1.1.1 c ⟨⟨u1.1.2.2.1, u1.1.2.2.2⟩, u1.2⟩
      · exact u2 (a' p) v1.1.1 (by omega) ⟨⟨v1.1.2.2.1, v1.1.2.2.2⟩, v1.2⟩
    by_cases y : x = p
    · rw [y]; exact e
    · rw [← e] at v3
      exact PkR_u q (p + 1) _ _ a a' u3 v3 x (by omega) (by omega)
/-- both kinds of what must be -/
def MuE (m : Int) (mu mu' : Int → Int) : Prop := ∀ t, 0 ≤ t → t < m → mu t = mu' t ∨ (mu t ≤ 0 ∧ mu' t ≤ 0)
theorem MuE_up {m t : Int} {mu mu' : Int → Int} (h : MuE m mu mu') : MuE m (up mu t (mu t - 1)) (up mu' t (mu' t - 1)) := by
  intro x x0 x1
  have := h x x0 x1
  by_cases y : x = t
  · rw [y, up_s, up_s]; rw [y] at this; omega
  · rw [up_n y, up_n y]; exact this
theorem MuE_s {m : Int} {mu mu' : Int → Int} (h : MuE m mu mu') : MuE m mu' mu := fun t t0 t1 => by have := h t t0 t1; omega
theorem Cm_mu {m : Int} {T : Int → Int} : ∀ (q : Nat) (p : Int) (fr mu mu' : Int → Int), MuE m mu mu' → Cm m T q p fr mu → Cm m T q p fr mu'
  | 0, _, _, mu, mu', h, hc => fun t t0 t1 => by
    have h1 := h t t0 t1
    have h2 := hc t t0 t1
    omega
  | q + 1, p, fr, mu, mu', h, ⟨t, ht, hc⟩ => ⟨t, ht, Cm_mu q (p + 1) _ _ _ (MuE_up h) hc⟩
theorem PkR_mu {m : Int} {T : Int → Int} : ∀ (q : Nat) (p : Int) (fr mu mu' a : Int → Int), MuE m mu mu' → PkR m T q p fr mu a → PkR m T q p fr mu' a
  | 0, _, _, mu, mu', _, h, hc => fun t t0 t1 => by
    have h1 := h t t0 t1
    have h2 := hc t t0 t1
    omega
  | q + 1, p, fr, mu, mu', a, h, hc => ⟨⟨hc.1.1, Cm_mu q (p + 1) _ _ _ (MuE_up h) hc.1.2⟩, fun t t0 t1 w => hc.2.1 t t0 t1 ⟨w.1, Cm_mu q (p + 1) _ _ _ (MuE_up (MuE_s h)) w.2⟩, PkR_mu q (p + 1) _ _ _ a (MuE_up h) hc.2.2⟩
/-- what is alike in range serves alike -/
theorem Cm_fr {m : Int} {T : Int → Int} : ∀ (q : Nat) (p : Int) (fr fr' mu : Int → Int), (∀ t, 0 ≤ t → t < m → fr t = fr' t) → Cm m T q p fr mu → Cm m T q p fr' mu
  | 0, _, _, _, _, _, hc => hc
  | q + 1, p, fr, fr', mu, h, ⟨t, ht, hc⟩ => by
    refine ⟨t, ⟨ht.1, ht.2.1, ht.2.2.1, by rw [← h t ht.1 ht.2.1]; exact ht.2.2.2⟩, Cm_fr q (p + 1) _ _ _ (fun x x0 x1 => ?_) hc⟩
    by_cases y : x = t
    · rw [y, up_s, up_s, h t ht.1 ht.2.1]
    · rw [up_n y, up_n y]; exact h x x0 x1
theorem PkR_fr {m : Int} {T : Int → Int} : ∀ (q : Nat) (p : Int) (fr fr' mu a : Int → Int), (∀ t, 0 ≤ t → t < m → fr t = fr' t) → PkR m T q p fr mu a → PkR m T q p fr' mu a
  | 0, _, _, _, _, _, _, hc => hc
  | q + 1, p, fr, fr', mu, a, h, hc => by
    have hu : ∀ t, 0 ≤ t → t < m → ∀ x, 0 ≤ x → x < m → up fr t (fr t - 1) x = up fr' t (fr' t - 1) x := fun t t0 t1 x x0 x1 => by
      by_cases y : x = t
      · rw [y, up_s, up_s, h t t0 t1]
      · rw [up_n y, up_n y]; exact h x x0 x1
    have ha := hc.1.1
    exact ⟨⟨⟨ha.1, ha.2.1, ha.2.2.1, by rw [← h _ ha.1 ha.2.1]; exact ha.2.2.2⟩, Cm_fr q (p + 1) _ _ _ (hu _ ha.1 ha.2.1) hc.1.2⟩, fun t t0 t1 w => hc.2.1 t t0 t1 ⟨⟨w.1.1, by rw [h t t0 (by omega)]; exact w.1.2⟩, Cm_fr q (p + 1) _ _ _ (fun x x0 x1 => (hu t t0 (by omega) x x0 x1).symm) w.2⟩, PkR_fr q (p + 1) _ _ _ a (hu _ ha.1 ha.2.1) hc.2.2⟩
/-- how it ends -/
theorem PkR_end {m : Int} {T : Int → Int} : ∀ (q : Nat) (p : Int) (fr mu a : Int → Int), (∀ t, 0 ≤ t → t < m → 0 ≤ fr t) → PkR m T q p fr mu a → (∀ x, p ≤ x → x < p + q → 0 ≤ a x ∧ a x < m ∧ 0 < T (8 * x + a x)) ∧ ∀ t, 0 ≤ t → t < m → 0 ≤ fr t - sm (fun v => if a v = t then 1 else 0) q p 0 ∧ mu t - sm (fun v => if a v = t then 1 else 0) q p 0 ≤ 0
  | 0, p, fr, mu, a, hf, h => ⟨fun x h1 h2 => by omega, fun t t0 t1 => by
    have h1 := hf t t0 t1
    have h2 := h t t0 t1
    show 0 ≤ fr t - 0 ∧ mu t - 0 ≤ 0
    omega⟩
  | q + 1, p, fr, mu, a, hf, h => by
    have h1 := h.1.1
    have ih := PkR_end q (p + 1) _ _ a (fun t t0 t1 => by
      by_cases y : t = a p
      · rw [y, up_s]; omega
      · rw [up_n y]; exact hf t t0 t1) h.2.2
    refine ⟨fun x x0 x1 => ?_, fun t t0 t1 => ?_⟩
    · by_cases y : x = p
      · rw [y]; exact ⟨h1.1, h1.2.1, h1.2.2.1⟩
      · exact ih.1 x (by omega) (by omega)
    · have h2 := ih.2 t t0 t1
      have e : sm (fun v => if a v = t then 1 else 0) (q + 1) p 0 = (if a p = t then 1 else 0) + sm (fun v => if a v = t then 1 else 0) q (p + 1) 0 := by
        show sm (fun v => if a v = t then 1 else 0) q (p + 1) (0 + if a p = t then 1 else 0) = _
        rw [sm_acc, Int.zero_add]
      rw [e]
      by_cases y : t = a p
      · rw [if_pos y.symm]
        rw [y, up_s, up_s] at h2
        rw [y]
        omega
      · rw [if_neg (fun w => y w.symm)]
        rw [up_n y, up_n y] at h2
        omega
-- a table of which rest sixtieths are left of each
def PT (n m : Int) (am T : Int → Int) (rest : Int) : Prop := (0 ≤ rest ∧ rest ≤ 60) ∧ (∀ p t, 0 ≤ p → p < n → 0 ≤ t → t < m → 0 ≤ T (8 * p + t) ∧ T (8 * p + t) ≤ 60) ∧ (∀ p, 0 ≤ p → p < n → rowS m T p = rest) ∧ ∀ t, 0 ≤ t → t < m → colS n T t ≤ am t * rest
def ndF (n : Int) (am T : Int → Int) (rest : Int) : Int → Int := fun t => colS n T t - am t * (rest - 1)
theorem sm_swap {F : Int → Int → Int} : ∀ (a b : Nat), sm (fun p => sm (fun t => F p t) b 0 0) a 0 0 = sm (fun t => sm (fun p => F p t) a 0 0) b 0 0
  | 0, b => (sm_z b 0 (fun _ _ _ => rfl)).symm
  | a + 1, b => by
    rw [sm_snoc, sm_swap a b, ← sm_add]
    exact sm_congr _ _ _ (fun t _ _ => by
      show sm (fun p => F p t) a 0 0 + F (0 + (a : Int)) t = sm (fun p => F p t) (a + 1) 0 0
      rw [sm_snoc])
theorem sm_mul {f : Int → Int} {c : Int} : ∀ q : Nat, sm (fun x => f x * c) q 0 0 = sm f q 0 0 * c
  | 0 => (Int.zero_mul c).symm
  | q + 1 => by rw [sm_snoc, sm_snoc, sm_mul q, Int.add_mul]
theorem PT_HC {n m rest : Int} {am T : Int → Int} (n0 : 0 ≤ n) (m0 : 0 ≤ m) (ha : ∀ t, 0 ≤ t → t < m → 1 ≤ am t ∧ am t ≤ 9) (h : PT n m am T rest) (r0 : 0 < rest) : HC m T n.toNat 0 am (ndF n am T rest) := by
  obtain ⟨hr, hT, hrow, hcol⟩ := h
  -- what a set of things has of all
  have tot : ∀ S : Int → Bool, sm (fun p => sm (fun t => if S t = true then T (8 * p + t) else 0) m.toNat 0 0) n.toNat 0 0 = sm (fun t => if S t = true then colS n T t else 0) m.toNat 0 0 := fun S => by
    rw [sm_swap]
    refine sm_congr _ _ _ (fun t _ _ => ?_)
    cases S t with
    | true => rfl
    | false => exact sm_z _ _ (fun _ _ _ => rfl)
  have colA : ∀ S : Int → Bool, sm (fun t => if S t = true then colS n T t else 0) m.toNat 0 0 ≤ fSs m am S * rest := fun S => by
    unfold fSs
    rw [← sm_mul]
    refine sm_mo _ _ (fun t t0 t1 => ?_)
    have := hcol t t0 (by omega)
    show (if S t = true then colS n T t else 0) ≤ (if S t = true then am t else 0) * rest
    split
    · exact this
    · rw [Int.zero_mul]; exact Int.le_refl 0
  have colM : ∀ S : Int → Bool, sm (fun t => if S t = true then colS n T t else 0) m.toNat 0 0 ≤ cMs m T n.toNat 0 S * rest := fun S => by
    rw [← tot]
    unfold cMs
    rw [← sm_mul]
    refine sm_mo _ _ (fun p p0 p1 => ?_)
    show sm (fun t => if S t = true then T (8 * p + t) else 0) m.toNat 0 0 ≤ (if hitS m T S p = true then 1 else 0) * rest
    by_cases c : hitS m T S p = true
    · rw [if_pos c, Int.one_mul, ← hrow p p0 (by omega)]
      refine sm_mo _ _ (fun t t0 t1 => ?_)
      have := hT p t p0 (by omega) t0 (by omega)
      show (if S t = true then T (8 * p + t) else 0) ≤ T (8 * p + t)
      split <;> omega
    · rw [if_neg c, Int.zero_mul, sm_z _ _ (fun t t0 t1 => by
        show (if S t = true then T (8 * p + t) else 0) = 0
        have := hT p t p0 (by omega) t0 (by omega)
        by_cases y : S t = true
        · rw [if_pos y]
          by_cases z : 0 < T (8 * p + t)
          · exact absurd (hit_iff.mpr ⟨t, t0, by omega, z, y⟩) c
          · omega
        · rw [if_neg y])]
      exact Int.le_refl 0
  have colN : ∀ S : Int → Bool, cNs m T n.toNat 0 S * rest ≤ sm (fun t => if S t = true then colS n T t else 0) m.toNat 0 0 := fun S => by
    rw [← tot]
    unfold cNs
    rw [← sm_mul]
    refine sm_mo _ _ (fun p p0 p1 => ?_)
    show (if subS m T S p = true then 1 else 0) * rest ≤ sm (fun t => if S t = true then T (8 * p + t) else 0) m.toNat 0 0
    by_cases c : subS m T S p = true
    · rw [if_pos c, Int.one_mul, ← hrow p p0 (by omega)]
      refine sm_mo _ _ (fun t t0 t1 => ?_)
      have := hT p t p0 (by omega) t0 (by omega)
      show T (8 * p + t) ≤ if S t = true then T (8 * p + t) else 0
      by_cases z : 0 < T (8 * p + t)
      · rw [if_pos (sub_iff.mp c t t0 (by omega) z)]; exact Int.le_refl _
      · split <;> omega
    · rw [if_neg c, Int.zero_mul]
      refine sm_nn _ _ (fun t t0 t1 => ?_)
      have := hT p t p0 (by omega) t0 (by omega)
      show 0 ≤ if S t = true then T (8 * p + t) else 0
      split <;> omega
  intro S
  constructor
  · exact Int.le_of_mul_le_mul_right (Int.le_trans (colN S) (colA S)) r0
  · -- those of the set that must be given
    have hS' : ∃ S' : Int → Bool, nSs m (ndF n am T rest) S = nSs m (ndF n am T rest) S' ∧ cMs m T n.toNat 0 S' ≤ cMs m T n.toNat 0 S ∧ nSs m (ndF n am T rest) S' = sm (fun t => if S' t = true then colS n T t else 0) m.toNat 0 0 - fSs m am S' * (rest - 1) := by
      refine ⟨fun t => S t && decide (0 < ndF n am T rest t), ?_, ?_, ?_⟩
      · refine sm_congr _ _ _ (fun t _ _ => ?_)
        show (if S t = true then maxI 0 (ndF n am T rest t) else 0) = if (S t && decide (0 < ndF n am T rest t)) = true then maxI 0 (ndF n am T rest t) else 0
        by_cases y : 0 < ndF n am T rest t
        · rw [decide_eq_true y, Bool.and_true]
        · have e : maxI 0 (ndF n am T rest t) = 0 := by unfold maxI; rw [if_neg y]
          rw [e]; split <;> split <;> rfl
      · refine sm_mo _ _ (fun x _ _ => ?_)
        show (if hitS m T (fun t => S t && decide (0 < ndF n am T rest t)) x = true then (1 : Int) else 0) ≤ if hitS m T S x = true then 1 else 0
        by_cases y : hitS m T (fun t => S t && decide (0 < ndF n am T rest t)) x = true
        · obtain ⟨t, t0, t1, tT, ts⟩ := hit_iff.mp y
          rw [Bool.and_eq_true] at ts
          rw [if_pos y, if_pos (hit_iff.mpr ⟨t, t0, t1, tT, ts.1⟩)]; exact Int.le_refl _
        · rw [if_neg y]; split <;> omega
      · have e : nSs m (ndF n am T rest) (fun t => S t && decide (0 < ndF n am T rest t)) + fSs m am (fun t => S t && decide (0 < ndF n am T rest t)) * (rest - 1) = sm (fun t => if (S t && decide (0 < ndF n am T rest t)) = true then colS n T t else 0) m.toNat 0 0 := by
          unfold nSs fSs
          rw [← sm_mul, ← sm_add]
          refine sm_congr _ _ _ (fun t _ _ => ?_)
          show (if (S t && decide (0 < ndF n am T rest t)) = true then maxI 0 (ndF n am T rest t) else 0) + (if (S t && decide (0 < ndF n am T rest t)) = true then am t else 0) * (rest - 1) = if (S t && decide (0 < ndF n am T rest t)) = true then colS n T t else 0
          by_cases y : (S t && decide (0 < ndF n am T rest t)) = true
          · rw [if_pos y, if_pos y, if_pos y]
            rw [Bool.and_eq_true, decide_eq_true_eq] at y
            have e : maxI 0 (ndF n am T rest t) = ndF n am T rest t := by unfold maxI; rw [if_pos y.2]
            rw [e]
            unfold ndF
            omega
          · rw [if_neg y, if_neg y, if_neg y, Int.zero_mul]; rfl
        show nSs m (ndF n am T rest) (fun t => S t && decide (0 < ndF n am T rest t)) = sm (fun t => if (S t && decide (0 < ndF n am T rest t)) = true then colS n T t else 0) m.toNat 0 0 - fSs m am (fun t => S t && decide (0 < ndF n am T rest t)) * (rest - 1)
        omega
    obtain ⟨S', h1, h2, h3⟩ := hS'
    have hA := colA S'
    have hM := colM S'
    rw [h1]
    refine Int.le_trans ?_ h2
    rw [h3]
    generalize sm (fun t => if S' t = true then colS n T t else 0) m.toNat 0 0 = c at *
    generalize fSs m am S' = A at *
    generalize cMs m T n.toNat 0 S' = M at *
    have eA : A * (rest - 1) = A * rest - A := by rw [Int.mul_sub, Int.mul_one]
    by_cases y : M ≤ A
    · have := Int.mul_le_mul_of_nonneg_right y (show 0 ≤ rest - 1 by omega)
      have eM : M * (rest - 1) = M * rest - M := by rw [Int.mul_sub, Int.mul_one]
      omega
    · omega
/-- what is taken off -/
def offF (n : Int) (a : Int → Int) (s : Int) (T : Int → Int) : Int → Int := fun k => if 0 ≤ k ∧ k < 8 * n ∧ a (k / 8) = k % 8 then T k - s else T k
theorem offF_at {n s p t : Int} {a T : Int → Int} (p0 : 0 ≤ p) (p1 : p < n) (t0 : 0 ≤ t) (t8 : t < 8) : offF n a s T (8 * p + t) = T (8 * p + t) - (if a p = t then s else 0) := by
  unfold offF
  rw [show (8 * p + t) / 8 = p by omega, show (8 * p + t) % 8 = t by omega]
  by_cases c : a p = t
  · rw [if_pos ⟨by omega, by omega, c⟩, if_pos c]
  · rw [if_neg (fun w => c w.2.2), if_neg c]; omega
theorem offF_congr {n s : Int} {a a' T : Int → Int} (h : ∀ x, 0 ≤ x → x < n → a x = a' x) : offF n a s T = offF n a' s T := by
  funext k
  unfold offF
  by_cases c : 0 ≤ k ∧ k < 8 * n
  · rw [h (k / 8) (by omega) (by omega)]
  · rw [if_neg (fun w => c ⟨w.1, w.2.1⟩), if_neg (fun w => c ⟨w.1, w.2.1⟩)]
def moG (n : Int) (am T a : Int → Int) (rest : Int) : Int → Int := fun t => if 0 < am t - cntE n a t then (am t * rest - colS n T t) / (am t - cntE n a t) else 60
def moF (n m : Int) (am T a : Int → Int) (rest : Int) : Int := mnf (moG n am T a rest) m.toNat 0 (mnf (fun p => T (8 * p + a p)) n.toNat 0 rest)
theorem mnf_le {f : Int → Int} : ∀ (q : Nat) (i lo : Int), mnf f q i lo ≤ lo ∧ (∀ j, i ≤ j → j < i + q → mnf f q i lo ≤ f j) ∧ (∀ c, c ≤ lo → (∀ j, i ≤ j → j < i + q → c ≤ f j) → c ≤ mnf f q i lo)
  | 0, i, lo => ⟨Int.le_refl _, fun j a b => by omega, fun c h _ => h⟩
  | q + 1, i, lo => by
    have ih := mnf_le (f := f) q (i + 1) (minI lo (f i))
    have hm : minI lo (f i) ≤ lo ∧ minI lo (f i) ≤ f i ∧ (minI lo (f i) = lo ∨ minI lo (f i) = f i) := by unfold minI; split <;> omega
    show mnf f q (i + 1) (minI lo (f i)) ≤ lo ∧ _ ∧ _
    refine ⟨by omega, fun j a b => ?_, fun c h1 h2 => ?_⟩
    · show mnf f q (i + 1) (minI lo (f i)) ≤ f j
      by_cases y : j = i
      · rw [y]; omega
      · exact ih.2.1 j (by omega) (by omega)
    · refine ih.2.2 c ?_ (fun j a b => h2 j (by omega) (by omega))
      have := h2 i (Int.le_refl i) (by omega)
      omega
theorem PT_off {n m rest : Int} {am T a : Int → Int} (n0 : 0 ≤ n) (m0 : 0 ≤ m) (m8 : m ≤ 8) (ha : ∀ t, 0 ≤ t → t < m → 1 ≤ am t ∧ am t ≤ 9) (h : PT n m am T rest) (r0 : 0 < rest) (hp : PkR m T n.toNat 0 am (ndF n am T rest) a) : (1 ≤ moF n m am T a rest ∧ moF n m am T a rest ≤ rest) ∧ PT n m am (offF n a (moF n m am T a rest) T) (rest - moF n m am T a rest) := by
  obtain ⟨hr, hT, hrow, hcol⟩ := h
  have he := PkR_end n.toNat 0 am _ a (fun t t0 t1 => by have := ha t t0 t1; omega) hp
  have hpk : ∀ x, 0 ≤ x → x < n → 0 ≤ a x ∧ a x < m ∧ 0 < T (8 * x + a x) := fun x x0 x1 => he.1 x x0 (by omega)
  have hc : ∀ t, 0 ≤ t → t < m → 0 ≤ am t - cntE n a t ∧ ndF n am T rest t - cntE n a t ≤ 0 := fun t t0 t1 => he.2 t t0 t1
  have m1 := mnf_le (f := fun p => T (8 * p + a p)) n.toNat 0 rest
  have m2 := mnf_le (f := moG n am T a rest) m.toNat 0 (mnf (fun p => T (8 * p + a p)) n.toNat 0 rest)
  have es : moF n m am T a rest = mnf (moG n am T a rest) m.toNat 0 (mnf (fun p => T (8 * p + a p)) n.toNat 0 rest) := rfl
  rw [← es] at m2
  have hG : ∀ t, 0 ≤ t → t < m → 1 ≤ moG n am T a rest t := fun t t0 t1 => by
    have h1 := hc t t0 t1
    unfold moG
    split
    · rename_i c
      have h2 : am t * (rest - 1) = am t * rest - am t := by rw [Int.mul_sub, Int.mul_one]
      have h3 : am t - cntE n a t ≤ am t * rest - colS n T t := by
        have := h1.2
        unfold ndF at this
        omega
      exact Int.le_ediv_of_mul_le c (by rw [Int.one_mul]; exact h3)
    · decide
  have s1 : 1 ≤ moF n m am T a rest := m2.2.2 1 (m1.2.2 1 (by omega) (fun x x0 x1 => by have := (hpk x x0 (by omega)).2.2; show 1 ≤ T (8 * x + a x); omega)) (fun t t0 t1 => hG t t0 (by omega))
  have s2 : moF n m am T a rest ≤ rest := by omega
  have s3 : ∀ x, 0 ≤ x → x < n → moF n m am T a rest ≤ T (8 * x + a x) := fun x x0 x1 => by
    have := m1.2.1 x x0 (by omega)
    have : mnf (fun p => T (8 * p + a p)) n.toNat 0 rest ≤ T (8 * x + a x) := this
    omega
  have s4 : ∀ t, 0 ≤ t → t < m → moF n m am T a rest * (am t - cntE n a t) ≤ am t * rest - colS n T t := fun t t0 t1 => by
    have h1 := hc t t0 t1
    have h2 := m2.2.1 t t0 (by omega)
    have h3 := hcol t t0 t1
    by_cases c : 0 < am t - cntE n a t
    · unfold moG at h2
      rw [if_pos c] at h2
      exact Int.mul_le_of_le_ediv c h2
    · rw [show am t - cntE n a t = 0 by omega, Int.mul_zero]; omega
  generalize moF n m am T a rest = s at *
  refine ⟨⟨s1, s2⟩, ⟨by omega, by omega⟩, fun p t p0 p1 t0 t1 => ?_, fun p p0 p1 => ?_, fun t t0 t1 => ?_⟩
  · rw [offF_at p0 p1 t0 (by omega)]
    have h1 := hT p t p0 p1 t0 t1
    by_cases y : a p = t
    · rw [if_pos y]
      have := s3 p p0 p1
      rw [y] at this
      omega
    · rw [if_neg y]; omega
  · have hx := hpk p p0 p1
    have e : rowS m (offF n a s T) p = rowS m T p - s := by
      unfold rowS
      rw [sm_set (f := fun t => offF n a s T (8 * p + t)) (f' := fun t => T (8 * p + t)) (d := a p) m.toNat 0 0 hx.1 (by omega) (fun j j0 j1 y => by
        show offF n a s T (8 * p + j) = T (8 * p + j)
        rw [offF_at p0 p1 j0 (by omega), if_neg (fun w => y w.symm)]; omega)]
      show _ + offF n a s T (8 * p + a p) - T (8 * p + a p) = _
      rw [offF_at p0 p1 hx.1 (by omega), if_pos rfl]; omega
    rw [e, hrow p p0 p1]
  · have e : colS n (offF n a s T) t + cntE n a t * s = colS n T t := by
      unfold colS cntE
      rw [← sm_mul, ← sm_add]
      refine sm_congr _ _ _ (fun p p0 p1 => ?_)
      show offF n a s T (8 * p + t) + (if a p = t then 1 else 0) * s = T (8 * p + t)
      rw [offF_at p0 (by omega) t0 (by omega)]
      split
      · rw [Int.one_mul]; omega
      · rw [Int.zero_mul]; omega
    have h4 := s4 t t0 t1
    rw [Int.mul_sub] at h4
    rw [Int.mul_sub, Int.mul_comm (am t) s]
    have : s * cntE n a t = cntE n a t * s := Int.mul_comm _ _
    omega
/-- the whole givings, one behind another -/
def PtL (n m : Int) (am : Int → Int) : List (Int × Int) → (Int → Int) → Int → Prop
  | [], _, rest => rest = 0
  | e :: l, T, rest => 0 < rest ∧ ∃ a : Int → Int, PkR m T n.toNat 0 am (ndF n am T rest) a ∧ e = (nbr a n.toNat 0 0, moF n m am T a rest) ∧ PtL n m am l (offF n a (moF n m am T a rest) T) (rest - moF n m am T a rest)
theorem moF_congr {n m rest : Int} {am T a a' : Int → Int} (h : ∀ x, 0 ≤ x → x < n → a x = a' x) : moF n m am T a rest = moF n m am T a' rest := by
  have e1 : ∀ t, cntE n a t = cntE n a' t := fun t => sm_congr _ _ _ (fun j j0 j1 => by rw [h j j0 (by omega)])
  have e2 : moG n am T a rest = moG n am T a' rest := funext fun t => by unfold moG; rw [e1]
  have e3 : ∀ (q : Nat) (i lo : Int), 0 ≤ i → i + q ≤ n → mnf (fun p => T (8 * p + a p)) q i lo = mnf (fun p => T (8 * p + a' p)) q i lo := by
    intro q
    induction q with
    | zero => intro i lo _ _; rfl
    | succ q ih =>
      intro i lo i0 hi
      show mnf (fun p => T (8 * p + a p)) q (i + 1) (minI lo (T (8 * i + a i))) = mnf (fun p => T (8 * p + a' p)) q (i + 1) (minI lo (T (8 * i + a' i)))
      rw [h i i0 (by omega), ih (i + 1) _ (by omega) (by omega)]
  unfold moF
  by_cases c : 0 ≤ n
  · rw [e2, e3 n.toNat 0 rest (Int.le_refl 0) (by omega)]
  · rw [e2, show n.toNat = 0 by omega]; rfl
theorem PtL_u {n m : Int} {am : Int → Int} : ∀ (l l' : List (Int × Int)) (T : Int → Int) (rest : Int), PtL n m am l T rest → PtL n m am l' T rest → l = l'
  | [], [], _, _, _, _ => rfl
  | [], e :: l', T, rest, h, h' => by
    have h : rest = 0 := h
    have := h'.1
    omega
  | e :: l, [], T, rest, h, h' => by
    have h' : rest = 0 := h'
    have := h.1
    omega
  | e :: l, e' :: l', T, rest, ⟨_, a, h1, h2, h3⟩, ⟨_, a', h1', h2', h3'⟩ => by
    have hx : ∀ x, 0 ≤ x → x < n → a x = a' x := fun x x0 x1 => PkR_u n.toNat 0 am _ a a' h1 h1' x x0 (by omega)
    have e1 := moF_congr (m := m) (am := am) (T := T) (rest := rest) hx
    rw [← e1, ← offF_congr hx] at h3'
    rw [h2, h2', e1, PtL_u l l' _ _ h3 h3', nbr_congr n.toNat 0 0 (fun j a b => hx j a (by omega))]
theorem PtL_len {n m : Int} {am : Int → Int} (n0 : 0 ≤ n) (m0 : 0 ≤ m) (m8 : m ≤ 8) (ha : ∀ t, 0 ≤ t → t < m → 1 ≤ am t ∧ am t ≤ 9) : ∀ (l : List (Int × Int)) (T : Int → Int) (rest : Int), PT n m am T rest → PtL n m am l T rest → (l.length : Int) ≤ rest
  | [], T, rest, h, h2 => by
    have h2 : rest = 0 := h2
    rw [List.length_nil]; omega
  | e :: l, T, rest, h, ⟨r0, a, h1, h2, h3⟩ => by
    have ho := PT_off n0 m0 m8 ha h r0 h1
    have := PtL_len n0 m0 m8 ha l _ _ ho.2 h3
    rw [List.length_cons]
    omega
