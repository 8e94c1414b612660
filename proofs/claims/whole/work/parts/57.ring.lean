theorem among_T {W : Int → Int} {dep p : Int} {j : Int} (h0 : 0 ≤ j) (h1 : j < dep) (e : W j = p) : among W dep p = true := by
  unfold among
  rcases fsT_cases (c := fun j => decide (W j = p)) (ls := fun j => j) dep.toNat 0 with ⟨_, h⟩ | ⟨i, i0, i1, e2, _, _⟩
  · have := h j h0 (by omega)
    rw [decide_eq_true e] at this; cases this
  · rw [e2]; exact decide_eq_true (by omega)
theorem among_F {W : Int → Int} {dep p : Int} (h : ∀ j, 0 ≤ j → j < dep → ¬ W j = p) : among W dep p = false := by
  unfold among
  rcases fsT_cases (c := fun j => decide (W j = p)) (ls := fun j => j) dep.toNat 0 with ⟨e, _⟩ | ⟨i, i0, i1, e2, c, _⟩
  · rw [e]; exact decide_eq_false (fun z => z rfl)
  · exact absurd (of_decide_eq_true c) (h i i0 (by omega))
theorem X_isAmong_ok {d : Nat} {K : Int → Mem → Prop} {s : Mem} {W : Int → Int} {dep p : Int} (h7 : dep ≤ 7) (hw : ∀ j, 0 ≤ j → j < dep → s 283 j = W j) (k1 : among W dep p = true → K 1 s) (k0 : among W dep p = false → K 0 s) : AM2 i_Rings_isAmong (d + 1) [(2, 283), (0, dep), (0, p)] s K := by
  by_cases c0 : 0 ≤ dep
  · have go : ∀ (m : Nat) (i : Int), 0 ≤ i → i + m = dep → (∀ j, 0 ≤ j → j < i → ¬ W j = p) → AW2 i_Rings_isAmong (d + 1) 2 [] [(0, (2, 283)), (1, (0, dep)), (2, (0, p)), (3, (0, i))] s K := by
      intro m
      induction m with
      | zero => intro i i0 e x; exact s_Rings_isAmong_2 (brF_i (by omega) (k0 (among_F (fun j a b => x j a (by omega)))))
      | succ m ih =>
        intro i i0 e x
        refine s_Rings_isAmong_2 (brT_i (by omega) (chkK_i rfl ?_))
        rw [show sN 283 = 7 from rfl, hw i i0 (by omega), w32_id (by omega) (by omega)]
        refine inb_i i0 (by omega) ⟨fun z => k1 (among_T i0 (by omega) z), fun z => ih (i + 1) (by omega) (by omega) (fun j a b => ?_)⟩
        by_cases y : j = i
        · rw [y]; exact z
        · exact x j a (by omega)
    exact e_Rings_isAmong fun _ _ => go dep.toNat 0 (Int.le_refl 0) (by omega) (fun j a b => by omega)
  · exact e_Rings_isAmong fun _ _ => s_Rings_isAmong_2 (brF_i (by omega) (k0 (among_F (fun j a b => by omega))))
theorem X_addPerson_ok {D : Nat} {g n N m : Int} {lv : Int → Int → Int} {S : RS} (g0 : 0 ≤ g) (g5 : g ≤ 5) (hN : N ≤ 7) (hn : 1 ≤ n ∧ n ≤ N) (hm : 1 ≤ m ∧ m ≤ 8) (hg : ∀ p, 0 ≤ p → p < N → 0 ≤ S.2.1 p ∧ S.2.1 p ≤ 3) : ∀ (k : Nat) (dep : Int) (W : Int → Int) (s : Mem) (K : Int → Mem → Prop), 0 ≤ dep → dep + k = n → s (4 + 43 * g) 1 = N → s (4 + 43 * g) 0 = m → LvX s g N m lv → HR s 263 N m S → (∀ j, 0 ≤ j → j < dep → s 283 j = W j ∧ 0 ≤ W j ∧ W j < N) →
    (∀ r s2, ppS (hpS S) (betL lv) N m n k dep W = some r → (∀ j, 0 ≤ j → j < n → s2 283 j = r.1 j ∧ s2 284 j = r.2 j) → (∀ b j, ¬ b = 283 → ¬ b = 284 → s2 b j = s b j) → K 1 s2) → (∀ s2 : Mem, ppS (hpS S) (betL lv) N m n k dep W = none → (∀ b j, ¬ (b = 283 ∧ dep ≤ j) → ¬ b = 284 → s2 b j = s b j) → K 0 s2) → AM2 i_Rings_addPerson (D + k + 10) [(2, 282), (2, 4 + 43 * g), (2, 263), (0, n), (0, dep)] s K := by
  intro k
  induction k with
  | zero =>
    intro dep W s K d0 e eN em hv hH hw k1 k0
    have hd : dep = n := by omega
    subst hd
    refine e_Rings_addPerson fun _ _ => brF_i (by omega) ?_
    rw [show D + 9 = (D + 7 - dep.toNat) + dep.toNat + 2 by omega]
    refine X_addThing_ok (lv := lv) (S := S) (W := W) g0 g5 hN hn hm (fun j a b => (hw j a b).2) hg dep.toNat 0 (fun _ => 0) s _ (Int.le_refl 0) (by omega) em hv hH (fun j a b => (hw j a b).1) (fun j a b => by omega) (fun r s2 er x2 f2 => boolP_i (Or.inr rfl) (k1 (W, r) s2 (by unfold ppS; rw [er]) (fun j a b => ⟨by rw [f2 _ _ (by omega)]; exact (hw j a b).1, x2 j a b⟩) (fun b j _ z => f2 b j z))) (fun s2 er f2 => boolP_i (Or.inl rfl) (k0 s2 (by unfold ppS; rw [er]) (fun b j _ z => f2 b j (by omega))))
  | succ k ih =>
    intro dep W s K d0 e eN em hv hH hw k1 k0
    have ck := fun {P : Prop} => ck_g (P := P) g0 g5
    have lp : ∀ (q : Nat) (p : Int) (s2 : Mem), 0 ≤ p → p + q = N → (0 < dep → W 0 < p) → (∀ b j, ¬ (b = 283 ∧ dep ≤ j) → ¬ b = 284 → s2 b j = s b j) → lpP (ppS (hpS S) (betL lv) N m n k (dep + 1)) W dep q p = ppS (hpS S) (betL lv) N m n (k + 1) dep W → AW2 i_Rings_addPerson (D + (k + 1) + 10) 26 [] [(0, (2, 282)), (1, (2, 4 + 43 * g)), (2, (2, 263)), (3, (0, n)), (4, (0, dep)), (6, (0, p))] s2 K := by
      intro q
      induction q with
      | zero =>
        intro p s2 p0 ep hp0 f el
        have el : none = ppS (hpS S) (betL lv) N m n (k + 1) dep W := el
        refine s_Rings_addPerson_26 ?_
        rw [ck, f (4 + 43 * g) 1 (by omega) (by omega), eN]
        exact brF_i (by omega) (k0 s2 el.symm f)
      | succ q ih2 =>
        intro p s2 p0 ep hp0 f el
        have nxt : ∀ s3 : Mem, (∀ b j, ¬ (b = 283 ∧ dep ≤ j) → ¬ b = 284 → s3 b j = s b j) → lpP (ppS (hpS S) (betL lv) N m n k (dep + 1)) W dep q (p + 1) = ppS (hpS S) (betL lv) N m n (k + 1) dep W → AW2 i_Rings_addPerson (D + (k + 1) + 10) 26 [] [(0, (2, 282)), (1, (2, 4 + 43 * g)), (2, (2, 263)), (3, (0, n)), (4, (0, dep)), (6, (0, w32 (p + 1)))] s3 K := by
          intro s3 f3 el3
          rw [w32_id (by omega) (by omega)]
          exact ih2 (p + 1) s3 (by omega) (by omega) (fun z => by have := hp0 z; omega) f3 el3
        refine s_Rings_addPerson_26 ?_
        rw [ck, f (4 + 43 * g) 1 (by omega) (by omega), eN, show ptr 282 0 = 283 from rfl, show sN 283 = 7 from rfl]
        refine brT_i (by omega) (chkK_i rfl (chkK_i rfl (inb_i d0 (by omega) (chkK_i rfl (X_isAmong_ok (W := W) (by omega) (fun j a b => by rw [st_ne (by omega), f _ _ (by omega) (by omega)]; exact (hw j a b).1) (fun ha => br1 ?_) (fun ha => br0 ?_))))))
        · rw [lpP_F (by unfold okP; rw [ha]; simp)] at el
          exact nxt _ (fun b j z1 z2 => by rw [st_ne (by omega), f b j z1 z2]) el
        · have hok : okP W dep p = true := by
            unfold okP
            rw [ha]
            by_cases z : dep = 0
            · rw [decide_eq_true z]; rfl
            · rw [decide_eq_true (hp0 (by omega))]; simp
          rw [lpP_T hok] at el
          rw [w32_id (x := dep + 1) (by omega) (by omega)]
          refine ih (dep + 1) (up W dep p) _ _ (by omega) (by omega) (by rw [st_ne (by omega), f _ _ (by omega) (by omega)]; exact eN) (by rw [st_ne (by omega), f _ _ (by omega) (by omega)]; exact em) (fun p t p0 p1 t0 t1 => by rw [st_ne (by omega), f _ _ (by omega) (by omega)]; exact hv p t p0 p1 t0 t1) (HR_fr hN (fun b j _ _ => by rw [st_ne (by omega), f _ _ (by omega) (by omega)]) hH) (fun j a b => ?_) (fun r s3 er x3 f3 => br1 ?_) (fun s3 er f3 => br0 (nxt s3 (fun b j z1 z2 => by rw [f3 b j (by omega) z2, st_ne (by omega), f b j z1 z2]) ?_))
          · by_cases z : j = dep
            · rw [z, st_self, up_s]; exact ⟨rfl, p0, by omega⟩
            · rw [st_ne (by omega), up_n z, f _ _ (by omega) (by omega)]; exact hw j a (by omega)
          · rw [er] at el
            exact k1 r s3 el.symm x3 (fun b j z1 z2 => by rw [f3 b j z1 z2, st_ne (by omega), f b j (by omega) z2])
          · rw [er] at el; exact el
    -- from the least one on: those ahead may not come
    have skip : ∀ (q : Nat) (p : Int), 0 < dep → p + q ≤ W 0 + 1 → ∀ r : Nat, lpP (ppS (hpS S) (betL lv) N m n k (dep + 1)) W dep (q + r) p = lpP (ppS (hpS S) (betL lv) N m n k (dep + 1)) W dep r (p + q) := by
      intro q
      induction q with
      | zero => intro p _ _ r; rw [Nat.zero_add, show p + ((0 : Nat) : Int) = p by omega]
      | succ q ih2 =>
        intro p hd hp r
        rw [show q + 1 + r = (q + r) + 1 by omega, lpP_F (by unfold okP; rw [decide_eq_false (by omega), decide_eq_false (by omega)]; rfl), ih2 (p + 1) hd (by omega) r]
        congr 1
        omega
    refine e_Rings_addPerson fun _ _ => brT_i (by omega) (brT_i (by omega) ⟨fun z => ?_, fun z => ?_⟩)
    · exact lp N.toNat 0 s (Int.le_refl 0) (by omega) (fun y => by omega) (fun _ _ _ _ => rfl) rfl
    · have w0 := hw 0 (Int.le_refl 0) (by omega)
      rw [show ptr 282 0 = 283 from rfl, show sN 283 = 7 from rfl, w0.1, w32_id (by omega) (by omega)]
      refine chkK_i rfl (chkK_i rfl (inb_i (by decide) (by decide) (lp (N - (W 0 + 1)).toNat (W 0 + 1) s (by omega) (by omega) (fun _ => by omega) (fun _ _ _ _ => rfl) ?_)))
      have := skip (W 0 + 1).toNat 0 (by omega) (by omega) (N - (W 0 + 1)).toNat
      rw [show (W 0 + 1).toNat + (N - (W 0 + 1)).toNat = N.toNat by omega, show (0 : Int) + ((W 0 + 1).toNat : Int) = W 0 + 1 by omega] at this
      rw [← this]; rfl
-- one who would rather have what is left over
def lfS (be : Int → Int → Int → Bool) (S : RS) (m p t : Int) : Bool := decide (¬ fsT (fun o => decide (0 < S.1 o) && be p o t) (fun o => o) m.toNat 0 = -1)
def alT (hp : Int → Int → Bool) (be : Int → Int → Int → Bool) (S : RS) (m p : Int) : Int := fsT (fun t => hp p t && lfS be S m p t) (fun t => t) m.toNat 0
def alP (hp : Int → Int → Bool) (be : Int → Int → Int → Bool) (S : RS) (N m : Int) : Int := fsT (fun p => decide (¬ alT hp be S m p = -1)) (fun p => p) N.toNat 0
theorem X_findLeft_ok {d : Nat} {K : Int → Mem → Prop} {s : Mem} {g N m p t : Int} {lv : Int → Int → Int} {S : RS} (g0 : 0 ≤ g) (g5 : g ≤ 5) (hN : N ≤ 7) (hm : 1 ≤ m ∧ m ≤ 8) (em : s (4 + 43 * g) 0 = m) (hv : LvX s g N m lv) (hH : HR s 263 N m S) (p0 : 0 ≤ p) (p1 : p < N) (t0 : 0 ≤ t) (t1 : t < m) (k1 : lfS (betL lv) S m p t = true → K 1 s) (k0 : lfS (betL lv) S m p t = false → K 0 s) : AM2 i_Rings_findLeft (d + 2) [(2, 4 + 43 * g), (2, 263), (0, p), (0, t)] s K := by
  have ck := fun {P : Prop} => ck_g (P := P) g0 g5
  have go : ∀ (q : Nat) (o : Int), 0 ≤ o → o + q = m → decide (¬ fsT (fun o => decide (0 < S.1 o) && betL lv p o t) (fun o => o) q o = -1) = lfS (betL lv) S m p t → AW2 i_Rings_findLeft (d + 2) 2 [] [(0, (2, 4 + 43 * g)), (1, (2, 263)), (2, (0, p)), (3, (0, t)), (4, (0, o))] s K := by
    intro q
    induction q with
    | zero =>
      intro o o0 e el
      have el : decide (¬ (-1 : Int) = -1) = lfS (betL lv) S m p t := el
      refine s_Rings_findLeft_2 ?_
      rw [ck, em]
      exact brF_i (by omega) (k0 (by rw [← el]; rfl))
    | succ q ih =>
      intro o o0 e el
      have ho := hH.1 o o0 (by omega)
      refine s_Rings_findLeft_2 ?_
      rw [ck, em, show ptr 263 0 = 264 from rfl, show sN 264 = 8 from rfl, show s 264 o = S.1 o from ho]
      refine brT_i (by omega) (chkK_i rfl (chkK_i rfl (inb_i o0 (by omega) ⟨fun z => X_isBetter_ok (n := N) (m := m) (lv := lv) g0 g5 hN hm.2 hv p0 p1 o0 (by omega) t0 t1 (fun y => br1 (k1 ?_)) (fun y => br0 ?_), fun z => ?_⟩)))
      · rw [fsT_T (by rw [decide_eq_true z, y]; rfl)] at el
        rw [← el]; exact decide_eq_true (by omega)
      · rw [fsT_F (by rw [y]; simp)] at el
        rw [w32_id (by omega) (by omega)]
        exact ih (o + 1) (by omega) (by omega) el
      · rw [fsT_F (by rw [decide_eq_false z]; rfl)] at el
        rw [w32_id (by omega) (by omega)]
        exact ih (o + 1) (by omega) (by omega) el
  exact e_Rings_findLeft fun _ _ => go m.toNat 0 (Int.le_refl 0) (by omega) rfl
theorem X_findAlone_ok {d : Nat} {K : Int → Mem → Prop} {s : Mem} {g N m : Int} {lv : Int → Int → Int} {S : RS} (g0 : 0 ≤ g) (g5 : g ≤ 5) (hN : 1 ≤ N ∧ N ≤ 7) (hm : 1 ≤ m ∧ m ≤ 8) (eN : s (4 + 43 * g) 1 = N) (em : s (4 + 43 * g) 0 = m) (hv : LvX s g N m lv) (hH : HR s 263 N m S) (hg : ∀ p, 0 ≤ p → p < N → 0 ≤ S.2.1 p ∧ S.2.1 p ≤ 3) (k1 : ¬ alP (hpS S) (betL lv) S N m = -1 → K 1 (st (st s 283 0 (alP (hpS S) (betL lv) S N m)) 284 0 (alT (hpS S) (betL lv) S m (alP (hpS S) (betL lv) S N m)))) (k0 : alP (hpS S) (betL lv) S N m = -1 → K 0 s) : AM2 i_Rings_findAlone (d + 3) [(2, 282), (2, 4 + 43 * g), (2, 263)] s K := by
  have ck := fun {P : Prop} => ck_g (P := P) g0 g5
  have inner : ∀ (p : Int), 0 ≤ p → p < N → (¬ alT (hpS S) (betL lv) S m p = -1 → K 1 (st (st s 283 0 p) 284 0 (alT (hpS S) (betL lv) S m p))) → (alT (hpS S) (betL lv) S m p = -1 → AW2 i_Rings_findAlone (d + 3) 2 [] [(0, (2, 282)), (1, (2, 4 + 43 * g)), (2, (2, 263)), (3, (0, p + 1))] s K) → ∀ (q : Nat) (t : Int), 0 ≤ t → t + q = m → fsT (fun t => hpS S p t && lfS (betL lv) S m p t) (fun t => t) q t = alT (hpS S) (betL lv) S m p → AW2 i_Rings_findAlone (d + 3) 8 [] [(0, (2, 282)), (1, (2, 4 + 43 * g)), (2, (2, 263)), (3, (0, p)), (4, (0, t))] s K := by
    intro p p0 p1 c1 c0 q
    induction q with
    | zero =>
      intro t t0 e el
      have el : -1 = alT (hpS S) (betL lv) S m p := el
      refine s_Rings_findAlone_8 ?_
      rw [ck, em, w32_id (x := p + 1) (by omega) (by omega)]
      exact brF_i (by omega) (c0 el.symm)
    | succ q ih =>
      intro t t0 e el
      refine s_Rings_findAlone_8 ?_
      rw [ck, em]
      refine brT_i (by omega) (chkK_i rfl (countOf_ok (Or.inl rfl) hN.2 hH p0 p1 (hg p p0 p1) ⟨fun z => X_findLeft_ok (S := S) (lv := lv) g0 g5 hN.2 hm em hv hH p0 p1 t0 (by omega) (fun y => br1 ?_) (fun y => br0 ?_), fun z => ?_⟩))
      · rw [fsT_T (by rw [y]; unfold hpS; rw [decide_eq_true z]; rfl)] at el
        have := c1 (by omega)
        rw [← el] at this
        exact this
      · rw [fsT_F (by rw [y]; simp)] at el
        rw [w32_id (by omega) (by omega)]
        exact ih (t + 1) (by omega) (by omega) el
      · rw [fsT_F (by unfold hpS; rw [decide_eq_false z]; rfl)] at el
        rw [w32_id (by omega) (by omega)]
        exact ih (t + 1) (by omega) (by omega) el
  have outer : ∀ (q : Nat) (p : Int), 0 ≤ p → p + q = N → fsT (fun p => decide (¬ alT (hpS S) (betL lv) S m p = -1)) (fun p => p) q p = alP (hpS S) (betL lv) S N m → AW2 i_Rings_findAlone (d + 3) 2 [] [(0, (2, 282)), (1, (2, 4 + 43 * g)), (2, (2, 263)), (3, (0, p))] s K := by
    intro q
    induction q with
    | zero =>
      intro p p0 e el
      have el : -1 = alP (hpS S) (betL lv) S N m := el
      refine s_Rings_findAlone_2 ?_
      rw [ck, eN]
      exact brF_i (by omega) (k0 el.symm)
    | succ q ih =>
      intro p p0 e el
      refine s_Rings_findAlone_2 ?_
      rw [ck, eN]
      refine brT_i (by omega) (inner p p0 (by omega) (fun z => ?_) (fun z => ?_) m.toNat 0 (Int.le_refl 0) (by omega) rfl)
      · rw [fsT_T (decide_eq_true z)] at el
        have := k1 (by omega)
        rw [← el] at this
        exact this
      · rw [fsT_F (decide_eq_false (fun y => y z))] at el
        exact ih (p + 1) (by omega) (by omega) el
  exact e_Rings_findAlone (outer N.toNat 0 (Int.le_refl 0) (by omega) rfl)
/-- the least ring: how many, who, what each gives -/
def rgS (hp : Int → Int → Bool) (be : Int → Int → Int → Bool) (N m : Int) : Nat → Int → Int × (Int → Int) × (Int → Int)
  | 0, _ => (0, fun _ => 0, fun _ => 0)
  | q + 1, sz => match ppS hp be N m sz sz.toNat 0 (fun _ => 0) with
    | some r => (sz, r.1, r.2)
    | none => rgS hp be N m q (sz + 1)
def ringS (lv : Int → Int → Int) (S : RS) (N m : Int) : Int × (Int → Int) × (Int → Int) :=
  if alP (hpS S) (betL lv) S N m = -1 then rgS (hpS S) (betL lv) N m (N - 1).toNat 2
  else (1, fun _ => alP (hpS S) (betL lv) S N m, fun _ => alT (hpS S) (betL lv) S m (alP (hpS S) (betL lv) S N m))
theorem X_find_ok {d : Nat} {K : Int → Mem → Prop} {s : Mem} {g N m : Int} {lv : Int → Int → Int} {S : RS} (g0 : 0 ≤ g) (g5 : g ≤ 5) (hN : 1 ≤ N ∧ N ≤ 7) (hm : 1 ≤ m ∧ m ≤ 8) (eN : s (4 + 43 * g) 1 = N) (em : s (4 + 43 * g) 0 = m) (hv : LvX s g N m lv) (hH : HR s 263 N m S) (hg : ∀ p, 0 ≤ p → p < N → 0 ≤ S.2.1 p ∧ S.2.1 p ≤ 3) (h3 : s 282 3 = 0) (k : ∀ s2 : Mem, s2 282 3 = 1 → s2 282 2 = (ringS lv S N m).1 → (∀ i, 0 ≤ i → i < (ringS lv S N m).1 → s2 283 i = (ringS lv S N m).2.1 i ∧ s2 284 i = (ringS lv S N m).2.2 i) → (∀ b j, ¬ (b = 282 ∧ (j = 2 ∨ j = 3)) → ¬ b = 283 → ¬ b = 284 → s2 b j = s b j) → K 0 s2) : AM2 i_Rings_find (d + 18) [(2, 282), (2, 4 + 43 * g), (2, 263)] s K := by
  have ck := fun {P : Prop} => ck_g (P := P) g0 g5
  have lp : ∀ (q : Nat) (sz : Int) (s2 : Mem), 2 ≤ sz → sz + q = N + 1 → alP (hpS S) (betL lv) S N m = -1 → s2 282 2 = 0 → s2 282 3 = 1 → (∀ b j, ¬ (b = 282 ∧ (j = 2 ∨ j = 3)) → ¬ b = 283 → ¬ b = 284 → s2 b j = s b j) → rgS (hpS S) (betL lv) N m q sz = ringS lv S N m → AW2 i_Rings_find (d + 18) 19 [] [(0, (2, 282)), (1, (2, 4 + 43 * g)), (2, (2, 263)), (3, (0, sz))] s2 K := by
    intro q
    induction q with
    | zero =>
      intro sz s2 z2 e ha w2 w3 f el
      have el : (0, fun _ => 0, fun _ => 0) = ringS lv S N m := el
      refine s_Rings_find_19 ?_
      rw [ck, f (4 + 43 * g) 1 (by omega) (by omega) (by omega), eN]
      refine brT_i (by omega) (k s2 w3 (by rw [w2, ← el]) (fun i i0 i1 => ?_) f)
      rw [← el] at i1
      have i1 : i < 0 := i1
      omega
    | succ q ih =>
      intro sz s2 z2 e ha w2 w3 f el
      refine s_Rings_find_19 ?_
      rw [ck, f (4 + 43 * g) 1 (by omega) (by omega) (by omega), eN]
      refine brF_i (by omega) (brT_i w2 ?_)
      unfold rgS at el
      rw [show d + 17 = (d + 7 - sz.toNat) + sz.toNat + 10 by omega]
      refine X_addPerson_ok (lv := lv) (S := S) g0 g5 hN.2 (by omega) hm hg sz.toNat 0 (fun _ => 0) s2 _ (Int.le_refl 0) (by omega) (by rw [f _ _ (by omega) (by omega) (by omega)]; exact eN) (by rw [f _ _ (by omega) (by omega) (by omega)]; exact em) (fun p t p0 p1 t0 t1 => by rw [f _ _ (by omega) (by omega) (by omega)]; exact hv p t p0 p1 t0 t1) (HR_fr hN.2 (fun b j _ _ => f _ _ (by omega) (by omega) (by omega)) hH) (fun j a b => by omega) (fun r s3 er x3 f3 => br1 ?_) (fun s3 er f3 => br0 ?_)
      · rw [er] at el
        have el : (sz, r.1, r.2) = ringS lv S N m := el
        have f4 : ∀ b j, ¬ (b = 282 ∧ (j = 2 ∨ j = 3)) → ¬ b = 283 → ¬ b = 284 → st s3 282 2 sz b j = s b j := fun b j y1 y2 y3 => by rw [st_ne (by omega), f3 b j y2 y3, f b j y1 y2 y3]
        rw [w32_id (by omega) (by omega)]
        have fin : K 0 (st s3 282 2 sz) := by
          refine k _ (by rw [st_ne (by omega), f3 _ _ (by omega) (by omega)]; exact w3) (by rw [st_self, ← el]) (fun i i0 i1 => ?_) f4
          rw [← el] at i1 ⊢
          rw [st_ne (by omega), st_ne (by omega)]
          exact x3 i i0 i1
        refine s_Rings_find_19 ?_
        rw [ck, f4 (4 + 43 * g) 1 (by omega) (by omega) (by omega), eN]
        exact ⟨fun _ => fin, fun _ => brF_i (by rw [st_self]; omega) fin⟩
      · rw [er] at el
        rw [w32_id (by omega) (by omega), show d + 7 - sz.toNat + sz.toNat + 10 + 1 = d + 18 by omega]
        exact ih (sz + 1) s3 (by omega) (by omega) ha (by rw [f3 _ _ (by omega) (by omega)]; exact w2) (by rw [f3 _ _ (by omega) (by omega)]; exact w3) (fun b j y1 y2 y3 => by rw [f3 b j (by omega) y3, f b j y1 y2 y3]) el
  refine e_Rings_find (brT_i h3 ?_)
  have f1 : ∀ b j, ¬ (b = 282 ∧ j = 3) → st s 282 3 1 b j = s b j := fun b j z => st_ne z
  refine X_findAlone_ok (S := S) (lv := lv) g0 g5 hN hm (by rw [st_ne (by omega)]; exact eN) (by rw [st_ne (by omega)]; exact em) (fun p t p0 p1 t0 t1 => by rw [st_ne (by omega)]; exact hv p t p0 p1 t0 t1) (HR_fr hN.2 (fun b j _ _ => st_ne (by omega)) hH) hg (fun z => br1 ?_) (fun z => br0 ?_)
  · have e1 : ringS lv S N m = (1, fun _ => alP (hpS S) (betL lv) S N m, fun _ => alT (hpS S) (betL lv) S m (alP (hpS S) (betL lv) S N m)) := if_neg z
    generalize hs : st (st (st (st s 282 3 1) 283 0 (alP (hpS S) (betL lv) S N m)) 284 0 (alT (hpS S) (betL lv) S m (alP (hpS S) (betL lv) S N m))) 282 2 1 = s2
    have f2 : ∀ b j, ¬ (b = 282 ∧ (j = 2 ∨ j = 3)) → ¬ b = 283 → ¬ b = 284 → s2 b j = s b j := fun b j y1 y2 y3 => by rw [← hs, st_ne (by omega), st_ne (by omega), st_ne (by omega), st_ne (by omega)]
    have w2 : s2 282 2 = 1 := by rw [← hs, st_self]
    have fin : K 0 s2 := by
      refine k s2 (by rw [← hs, st_ne (by omega), st_ne (by omega), st_ne (by omega), st_self]) (by rw [w2, e1]) (fun i i0 i1 => ?_) f2
      rw [e1] at i1 ⊢
      have i1 : i < 1 := i1
      rw [show i = 0 by omega, ← hs, st_ne (by omega), st_ne (by omega), st_self, st_ne (by omega), st_self]
      exact ⟨rfl, rfl⟩
    refine s_Rings_find_19 ?_
    rw [ck, f2 (4 + 43 * g) 1 (by omega) (by omega) (by omega), eN]
    exact ⟨fun _ => fin, fun _ => brF_i (by omega) fin⟩
  · have e1 : ringS lv S N m = rgS (hpS S) (betL lv) N m (N - 1).toNat 2 := if_pos z
    exact lp (N - 1).toNat 2 _ (by decide) (by omega) z (by rw [st_self]) (by rw [st_ne (by omega), st_self]) (fun b j y1 y2 y3 => by rw [st_ne (by omega), st_ne (by omega)]) e1.symm
