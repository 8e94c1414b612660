-- ===== rings
def lpT (f : (Int → Int) → Option (Int → Int)) (ok : Int → Bool) (gv : Int → Int) (dep : Int) : Nat → Int → Option (Int → Int)
  | 0, _ => none
  | q + 1, t => if ok t then (match f (up gv dep t) with
    | some r => some r
    | none => lpT f ok gv dep q (t + 1)) else lpT f ok gv dep q (t + 1)
def okT (hp : Int → Int → Bool) (be : Int → Int → Int → Bool) (W gv : Int → Int) (dep t : Int) : Bool := hp (W dep) t && (decide (dep = 0) || be (W dep) (gv (dep - 1)) t)
/-- the things of a ring of size n, from the dep-th one on -/
def thS (hp : Int → Int → Bool) (be : Int → Int → Int → Bool) (m n : Int) (W : Int → Int) : Nat → Int → (Int → Int) → Option (Int → Int)
  | 0, _, gv => if be (W 0) (gv (n - 1)) (gv 0) then some gv else none
  | k + 1, dep, gv => lpT (thS hp be m n W k (dep + 1)) (okT hp be W gv dep) gv dep m.toNat 0
def among (W : Int → Int) (dep p : Int) : Bool := decide (¬ fsT (fun j => decide (W j = p)) (fun j => j) dep.toNat 0 = -1)
def okP (W : Int → Int) (dep p : Int) : Bool := (decide (dep = 0) || decide (W 0 < p)) && !(among W dep p)
def lpP (f : (Int → Int) → Option ((Int → Int) × (Int → Int))) (W : Int → Int) (dep : Int) : Nat → Int → Option ((Int → Int) × (Int → Int))
  | 0, _ => none
  | q + 1, p => if okP W dep p then (match f (up W dep p) with
    | some r => some r
    | none => lpP f W dep q (p + 1)) else lpP f W dep q (p + 1)
def ppS (hp : Int → Int → Bool) (be : Int → Int → Int → Bool) (N m n : Int) : Nat → Int → (Int → Int) → Option ((Int → Int) × (Int → Int))
  | 0, _, W => (match thS hp be m n W n.toNat 0 (fun _ => 0) with
    | some g => some (W, g)
    | none => none)
  | k + 1, dep, W => lpP (ppS hp be N m n k (dep + 1)) W dep N.toNat 0
theorem lpT_T {f : (Int → Int) → Option (Int → Int)} {ok : Int → Bool} {gv : Int → Int} {dep t : Int} {q : Nat} (h : ok t = true) : lpT f ok gv dep (q + 1) t = (match f (up gv dep t) with
    | some r => some r
    | none => lpT f ok gv dep q (t + 1)) := if_pos h
theorem lpT_F {f : (Int → Int) → Option (Int → Int)} {ok : Int → Bool} {gv : Int → Int} {dep t : Int} {q : Nat} (h : ok t = false) : lpT f ok gv dep (q + 1) t = lpT f ok gv dep q (t + 1) := if_neg (by rw [h]; decide)
theorem lpP_T {f : (Int → Int) → Option ((Int → Int) × (Int → Int))} {W : Int → Int} {dep p : Int} {q : Nat} (h : okP W dep p = true) : lpP f W dep (q + 1) p = (match f (up W dep p) with
    | some r => some r
    | none => lpP f W dep q (p + 1)) := if_pos h
theorem lpP_F {f : (Int → Int) → Option ((Int → Int) × (Int → Int))} {W : Int → Int} {dep p : Int} {q : Nat} (h : okP W dep p = false) : lpP f W dep (q + 1) p = lpP f W dep q (p + 1) := if_neg (by rw [h]; decide)
def betL (lv : Int → Int → Int) (p t u : Int) : Bool := decide (0 ≤ lv p t ∧ lv p t < lv p u)
def hpS (S : RS) (p t : Int) : Bool := decide (0 < hs S p t)
/-- levels that a giving's lists can hold -/
def LvX (σ : Mem) (g n m : Int) (lv : Int → Int → Int) : Prop := ∀ p t, 0 ≤ p → p < n → 0 ≤ t → t < m → σ (17 + 43 * g + p) t = lv p t
def LvM (σ : Mem) (g n m : Int) (lv : Int → Int → Int) : Prop := ∀ p t, 0 ≤ p → p < n → 0 ≤ t → t < m → σ 364 (56 * g + 8 * p + t) = lv p t
theorem X_isBetter_ok {d : Nat} {K : Int → Mem → Prop} {s : Mem} {g n m p t u : Int} {lv : Int → Int → Int} (g0 : 0 ≤ g) (g5 : g ≤ 5) (hn : n ≤ 7) (hm : m ≤ 8) (hv : LvX s g n m lv) (p0 : 0 ≤ p) (p1 : p < n) (t0 : 0 ≤ t) (t1 : t < m) (u0 : 0 ≤ u) (u1 : u < m) (k1 : betL lv p t u = true → K 1 s) (k0 : betL lv p t u = false → K 0 s) : AM2 i_Rings_isBetter (d + 1) [(2, 4 + 43 * g), (0, p), (0, t), (0, u)] s K := by
  have h1 := hv p t p0 p1 t0 t1
  have h2 := hv p u p0 p1 u0 u1
  refine e_Rings_isBetter fun _ _ _ => ?_
  (try simp (disch := omega) only [w32_id, w64_id, inb_eq, st_self, st_ne, pt3, ck_g, ck_am, ck_he, ck_sz, ck_ls, ck_lv, ck_pa, ck_kn, sn_am, sn_he, sn_sz, sn_ls, sn_lv, sn_pa, sn_kn, pt_am, pt_he, pt_sz, pt_ls, pt_lv, pt_pa, pt_kn, ck_lr, ck_vr, ck_pr, sn_lr, sn_vr, sn_pr, pt_lr, pt_vr, pt_pr, pt_sh, ck_sh, pt_to, ck_to, sn_to])
  rw [h1, h2]
  unfold betL at k1 k0
  exact ⟨fun z => k0 (decide_eq_false (by omega)), fun z => ⟨fun y => k1 (decide_eq_true (by omega)), fun y => k0 (decide_eq_false (by omega))⟩⟩
theorem X_addThing_ok {D : Nat} {g n N m : Int} {lv : Int → Int → Int} {W : Int → Int} {S : RS} (g0 : 0 ≤ g) (g5 : g ≤ 5) (hN : N ≤ 7) (hn : 1 ≤ n ∧ n ≤ N) (hm : 1 ≤ m ∧ m ≤ 8) (hW : ∀ j, 0 ≤ j → j < n → 0 ≤ W j ∧ W j < N) (hg : ∀ p, 0 ≤ p → p < N → 0 ≤ S.2.1 p ∧ S.2.1 p ≤ 3) : ∀ (k : Nat) (dep : Int) (gv : Int → Int) (s : Mem) (K : Int → Mem → Prop), 0 ≤ dep → dep + k = n → s (4 + 43 * g) 0 = m → LvX s g N m lv → HR s 263 N m S → (∀ j, 0 ≤ j → j < n → s 283 j = W j) → (∀ j, 0 ≤ j → j < dep → s 284 j = gv j ∧ 0 ≤ gv j ∧ gv j < m) →
    (∀ r s2, thS (hpS S) (betL lv) m n W k dep gv = some r → (∀ j, 0 ≤ j → j < n → s2 284 j = r j) → (∀ b j, ¬ b = 284 → s2 b j = s b j) → K 1 s2) → (∀ s2 : Mem, thS (hpS S) (betL lv) m n W k dep gv = none → (∀ b j, ¬ (b = 284 ∧ dep ≤ j) → s2 b j = s b j) → K 0 s2) → AM2 i_Rings_addThing (D + k + 2) [(2, 282), (2, 4 + 43 * g), (2, 263), (0, n), (0, dep)] s K := by
  intro k
  induction k with
  | zero =>
    intro dep gv s K d0 e em hv hH hw hgv k1 k0
    have hd : dep = n := by omega
    subst hd
    have w0 := hW 0 (Int.le_refl 0) (by omega)
    have a0 := hgv 0 (Int.le_refl 0) (by omega)
    have an := hgv (dep - 1) (by omega) (by omega)
    refine e_Rings_addThing fun _ _ => brF_i (by omega) (s_Rings_addThing_6 ?_)
    rw [show ptr 282 0 = 283 from rfl, show ptr 282 1 = 284 from rfl, show sN 283 = 7 from rfl, show sN 284 = 7 from rfl, w32_id (by omega) (by omega)]
    refine chkK_i rfl (chkK_i rfl (inb_i (by decide) (by decide) (chkK_i rfl (chkK_i rfl (inb_i (by omega) (by omega) (chkK_i rfl (chkK_i rfl (inb_i (by decide) (by decide) ?_))))))))
    rw [hw 0 (Int.le_refl 0) (by omega), a0.1, an.1]
    unfold thS at k1 k0
    refine X_isBetter_ok (n := N) (m := m) (lv := lv) g0 g5 hN hm.2 hv w0.1 w0.2 an.2.1 an.2.2 a0.2.1 a0.2.2 (fun z => ?_) (fun z => ?_)
    · exact boolP_i (Or.inr rfl) (k1 gv s (by rw [if_pos z]) (fun j a b => (hgv j a b).1) (fun _ _ _ => rfl))
    · exact boolP_i (Or.inl rfl) (k0 s (by rw [if_neg (by rw [z]; decide)]) (fun _ _ _ => rfl))
  | succ k ih =>
    intro dep gv s K d0 e em hv hH hw hgv k1 k0
    have wd := hW dep d0 (by omega)
    have ck := fun {P : Prop} => ck_g (P := P) g0 g5
    have lp : ∀ (q : Nat) (t : Int) (s2 : Mem), 0 ≤ t → t + q = m → (∀ b j, ¬ (b = 284 ∧ dep ≤ j) → s2 b j = s b j) → lpT (thS (hpS S) (betL lv) m n W k (dep + 1)) (okT (hpS S) (betL lv) W gv dep) gv dep q t = thS (hpS S) (betL lv) m n W (k + 1) dep gv → AW2 i_Rings_addThing (D + (k + 1) + 2) 25 [] [(0, (2, 282)), (1, (2, 4 + 43 * g)), (2, (2, 263)), (3, (0, n)), (4, (0, dep)), (5, (0, t))] s2 K := by
      intro q
      induction q with
      | zero =>
        intro t s2 t0 et f el
        have el : none = thS (hpS S) (betL lv) m n W (k + 1) dep gv := el
        refine s_Rings_addThing_25 ?_
        rw [ck, f (4 + 43 * g) 0 (by omega), em]
        exact brF_i (by omega) (k0 s2 el.symm f)
      | succ q ih2 =>
        intro t s2 t0 et f el
        have hH2 : HR s2 263 N m S := HR_fr hN (fun b j _ _ => f b j (by omega)) hH
        have hv2 : LvX s2 g N m lv := fun p t p0 p1 t0 t1 => by rw [f _ _ (by omega)]; exact hv p t p0 p1 t0 t1
        have nxt : ∀ s3 : Mem, (∀ b j, ¬ (b = 284 ∧ dep ≤ j) → s3 b j = s b j) → lpT (thS (hpS S) (betL lv) m n W k (dep + 1)) (okT (hpS S) (betL lv) W gv dep) gv dep q (t + 1) = thS (hpS S) (betL lv) m n W (k + 1) dep gv → AW2 i_Rings_addThing (D + (k + 1) + 2) 75 [] [(0, (2, 282)), (1, (2, 4 + 43 * g)), (2, (2, 263)), (3, (0, n)), (4, (0, dep)), (5, (0, t))] s3 K := by
          intro s3 f3 el3
          refine s_Rings_addThing_75 ?_
          rw [w32_id (by omega) (by omega)]
          exact ih2 (t + 1) s3 (by omega) (by omega) f3 el3
        have inn : okT (hpS S) (betL lv) W gv dep t = true → AW2 i_Rings_addThing (D + (k + 1) + 2) 59 [] [(0, (2, 282)), (1, (2, 4 + 43 * g)), (2, (2, 263)), (3, (0, n)), (4, (0, dep)), (5, (0, t))] s2 K := by
          intro hok
          rw [lpT_T hok] at el
          refine s_Rings_addThing_59 ?_
          rw [show ptr 282 1 = 284 from rfl, show sN 284 = 7 from rfl, w32_id (by omega) (by omega)]
          refine chkK_i rfl (chkK_i rfl (inb_i d0 (by omega) ?_))
          refine ih (dep + 1) (up gv dep t) _ _ (by omega) (by omega) (by rw [st_ne (by omega), f _ _ (by omega)]; exact em) (fun p t p0 p1 t0 t1 => by rw [st_ne (by omega)]; exact hv2 p t p0 p1 t0 t1) (HR_fr hN (fun b j _ _ => st_ne (by omega)) hH2) (fun j a b => by rw [st_ne (by omega), f _ _ (by omega)]; exact hw j a b) (fun j a b => ?_) (fun r s3 er x3 f3 => br1 ?_) (fun s3 er f3 => br0 (nxt s3 (fun b j z => by rw [f3 b j (by omega), st_ne (by omega), f b j z]) ?_))
          · by_cases z : j = dep
            · rw [z, st_self, up_s]; exact ⟨rfl, t0, by omega⟩
            · rw [st_ne (by omega), up_n z, f _ _ (by omega)]; exact hgv j a (by omega)
          · rw [er] at el
            exact k1 r s3 el.symm x3 (fun b j z => by rw [f3 b j z, st_ne (by omega), f b j (by omega)])
          · rw [er] at el; exact el
        refine s_Rings_addThing_25 ?_
        rw [ck, f (4 + 43 * g) 0 (by omega), em, show ptr 282 0 = 283 from rfl, show sN 283 = 7 from rfl, f 283 dep (by omega), hw dep d0 (by omega)]
        refine brT_i (by omega) (chkK_i rfl (chkK_i rfl (inb_i d0 (by omega) (chkK_i rfl (countOf_ok (Or.inl rfl) hN hH2 wd.1 wd.2 (hg _ wd.1 wd.2) ⟨fun z => s_Rings_addThing_40 (brF_i (by decide) ⟨fun z0 => inn ?_, fun z0 => ?_⟩), fun z => s_Rings_addThing_40 (brT_i rfl (nxt s2 f ?_))⟩)))))
        · unfold okT hpS; rw [decide_eq_true z, decide_eq_true z0]; rfl
        · have h9 := hgv (dep - 1) (by omega) (by omega)
          rw [show ptr 282 0 = 283 from rfl, show ptr 282 1 = 284 from rfl, show sN 283 = 7 from rfl, show sN 284 = 7 from rfl, w32_id (by omega) (by omega), f 283 dep (by omega), hw dep d0 (by omega), f 284 (dep - 1) (by omega), h9.1]
          refine chkK_i rfl (chkK_i rfl (inb_i d0 (by omega) (chkK_i rfl (chkK_i rfl (inb_i (by omega) (by omega) (X_isBetter_ok (n := N) (m := m) (lv := lv) g0 g5 hN hm.2 hv2 wd.1 wd.2 h9.2.1 h9.2.2 t0 (by omega) (fun y => br1 (inn ?_)) (fun y => br0 (nxt s2 f ?_))))))))
          · unfold okT hpS; rw [decide_eq_true z, y]; simp
          · rw [lpT_F (by unfold okT hpS; rw [y, decide_eq_false z0]; simp)] at el; exact el
        · rw [lpT_F (by unfold okT hpS; rw [decide_eq_false z]; rfl)] at el; exact el
    refine e_Rings_addThing fun _ _ => brT_i (by omega) (brT_i (by omega) (lp m.toNat 0 s (Int.le_refl 0) (by omega) (fun _ _ _ => rfl) rfl))
