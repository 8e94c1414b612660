-- ===== shares of TURNS and EATING over plain numbers
def tpN (n m R : Int) (am : Int → Int) (ls : Int → Int → Int) (sz : Int → Int) (k : Int) : Int → Int := if k = 1 then mnP n R am ls sz false else (eL n m R ls sz 9 (E0 am) 0).1.1
def tpB (n m R : Int) (am : Int → Int) (ls : Int → Int → Int) (sz : Int → Int) (k : Int) : Int := if k = 1 then mnQ n else (eL n m R ls sz 9 (E0 am) 0).1.2.2.2
theorem tp_r {n m R k : Int} {am : Int → Int} {ls : Int → Int → Int} {sz : Int → Int} (n7 : 1 ≤ n ∧ n ≤ 7) (m8 : 1 ≤ m ∧ m ≤ 8) (hR : 1 ≤ R ∧ R ≤ 3) (hL : LGo n m ls sz) (ha : ∀ t, 0 ≤ t → t < m → 1 ≤ am t ∧ am t ≤ 9) : (1 ≤ tpB n m R am ls sz k ∧ tpB n m R am ls sz k ≤ 40353607) ∧ ∀ p t, 0 ≤ p → p < n → 0 ≤ t → t < m → 0 ≤ tpN n m R am ls sz k (8 * p + t) ∧ tpN n m R am ls sz k (8 * p + t) ≤ 125000000 := by
  obtain ⟨j, j0, j1, hj⟩ := eL_EI (n := n) (m := m) (R := R) (by omega) (by omega) hL 9 0 _ 0 (E0_EI (n := n) (R := R) (am := am) (by omega) (by omega) ha)
  have hb := EI_b (by omega) hj
  obtain ⟨E1, E2, E3, E4, E5⟩ := hj
  have hRB := mul_b (a := R) (b := (eL n m R ls sz 9 (E0 am) 0).1.2.2.2) (A := 3) (C := 40353607) (by omega) (by omega) (by omega) hb
  have hm := mnP_r (back := false) n7 hR hL ha
  constructor
  · unfold tpB
    split <;> omega
  · intro p t p0 p1 t0 t1
    have h4 := E4 p t p0 p1 t0 t1
    have h1 := hm.1 p t p0 p1 t0 (by omega)
    unfold tpN
    split <;> omega
theorem sh_tp {σ : Mem} {g k : Int} (hk : k = 1 ∨ k = 3) : shN σ g k = tpN (σ 357 g) (σ 358 g) (σ 359 g) (cam σ g) (clI σ g) (csz σ g) k ∧ shB σ g k = tpB (σ 357 g) (σ 358 g) (σ 359 g) (cam σ g) (clI σ g) (csz σ g) k := by
  rcases hk with rfl | rfl
  · refine ⟨?_, rfl⟩
    show cmN σ g false = mnP (σ 357 g) (σ 359 g) (cam σ g) (clI σ g) (csz σ g) false
    exact foldC_P _ _
  · exact ⟨rfl, rfl⟩
theorem X_shares13_ok {d : Nat} {K : Int → Mem → Prop} {s : Mem} {g k n m R : Int} {ls : Int → Int → Int} {sz am : Int → Int} (g0 : 0 ≤ g) (g5 : g ≤ 5) (hk : k = 1 ∨ k = 3) (hL : LGo n m ls sz) (hX : LX s g n m ls sz) (en : s (4 + 43 * g) 1 = n) (em : s (4 + 43 * g) 0 = m) (eR : s (4 + 43 * g) 2 = R) (n7 : 1 ≤ n ∧ n ≤ 7) (m8 : 1 ≤ m ∧ m ≤ 8) (hR : 1 ≤ R ∧ R ≤ 3) (ha : ∀ t, 0 ≤ t → t < m → s (5 + 43 * g) t = am t ∧ 1 ≤ am t ∧ am t ≤ 9) (hf : s (33 + 43 * g + 2 * k) 2 = 0)
    (q : ∀ s2 : Mem, s2 (33 + 43 * g + 2 * k) 1 = tpB n m R am ls sz k → s2 (33 + 43 * g + 2 * k) 3 = 0 → (∀ p t, 0 ≤ p → p < n → 0 ≤ t → t < m → s2 (33 + 43 * g + 2 * k + 1) (8 * p + t) = tpN n m R am ls sz k (8 * p + t)) → (∀ b j, ¬ b = 34 + 43 * g + 2 * k → ¬ b = 33 + 43 * g + 2 * k → ¬ (285 ≤ b ∧ b ≤ 304) → ¬ (307 ≤ b ∧ b ≤ 315) → s2 b j = s b j) → K (33 + 43 * g + 2 * k) s2) : AM2 i_X_sharesOf (d + 5) [(2, 0), (2, 4 + 43 * g), (0, k)] s K := by
  have k0 : 0 ≤ k := by omega
  have k7 : k < 7 := by omega
  have ck := fun {P : Prop} => ck_sh (P := P) g0 g5 k0 k7
  refine e_X_sharesOf fun _ => ?_
  rw [ck_g g0 g5, pt_kn g0 g5, ck_kn g0 g5, sn_kn g0 g5, pt_sh g0 g5 k0 k7, ck, ck]
  refine inb_i k0 k7 (brT_i hf (X_clearS_ok (d := d + 2) g0 g5 k0 k7 (fun s1 z0 z1 z3 z4 f1 => ?_)))
  have fin : ∀ s2 : Mem, TP s2 (34 + 43 * g + 2 * k) n m (tpN n m R am ls sz k) → s2 (33 + 43 * g + 2 * k) 1 = tpB n m R am ls sz k → s2 (33 + 43 * g + 2 * k) 3 = 0 → (∀ b j, ¬ b = 34 + 43 * g + 2 * k → ¬ (b = 33 + 43 * g + 2 * k ∧ (j = 1 ∨ j = 3 ∨ j = 4)) → ¬ (285 ≤ b ∧ b ≤ 304) → ¬ (307 ≤ b ∧ b ≤ 315) → s2 b j = s1 b j) → AW2 i_X_sharesOf (d + 5) 51 [] [(3, (2, 33 + 43 * g + 2 * k))] s2 K := fun s2 h1 h2 h3 f2 => by
    refine s_X_sharesOf_51 ?_
    rw [ck]
    refine q _ (by rw [st_ne (by omega)]; exact h2) (by rw [st_ne (by omega)]; exact h3) (fun p t p0 p1 t0 t1 => ?_) (fun b j y1 y2 y3 y4 => ?_)
    · rw [show 33 + 43 * g + 2 * k + 1 = 34 + 43 * g + 2 * k by omega, st_ne (by omega)]; exact h1 p t p0 p1 t0 t1
    · rw [st_ne (by omega), f2 b j y1 (by omega) y3 y4]; exact f1 b j y1 (by omega)
  have zT : TP s1 (34 + 43 * g + 2 * k) n m (fun _ => 0) := fun p t p0 p1 t0 t1 => z0 _ (by omega) (by omega)
  have hX1 : LX s1 g n m ls sz := ⟨fun x x0 x1 => by rw [f1 _ _ (by omega) (by omega)]; exact hX.1 x x0 x1, fun x i x0 x1 i0 i1 => by rw [f1 _ _ (by omega) (by omega)]; exact hX.2 x i x0 x1 i0 i1⟩
  have en1 : s1 (4 + 43 * g) 1 = n := by rw [f1 _ _ (by omega) (by omega)]; exact en
  have em1 : s1 (4 + 43 * g) 0 = m := by rw [f1 _ _ (by omega) (by omega)]; exact em
  have eR1 : s1 (4 + 43 * g) 2 = R := by rw [f1 _ _ (by omega) (by omega)]; exact eR
  have ha1 : ∀ t, 0 ≤ t → t < m → s1 (5 + 43 * g) t = am t ∧ 1 ≤ am t ∧ am t ≤ 9 := fun t t0 t1 => by rw [f1 _ _ (by omega) (by omega)]; exact ha t t0 t1
  rcases hk with h7 | h7
  · refine brT_i h7 (brF_i (by omega) (s_X_sharesOf_26 ?_))
    rw [ck]
    refine X_ordersP_ok (d := d) (n := n) (m := m) (R := R) (am := am) (back := false) g0 g5 k0 k7 hL hX1 en1 em1 eR1 n7 m8 hR ha1 rfl zT (fun s2 y1 y2 f2 => ?_)
    refine fin s2 ?_ ?_ (by rw [f2 _ _ (by omega) (by omega) (by omega)]; exact z3) (fun b j w1 w2 w3 w4 => f2 b j w1 (by omega) w3)
    · rw [show tpN n m R am ls sz k = mnP n R am ls sz false by rw [h7]; rfl]; exact y1
    · rw [show tpB n m R am ls sz k = mnQ n by rw [h7]; rfl]; exact y2
  · refine brF_i (by omega) (brF_i (by omega) (brT_i h7 ?_))
    refine X_eat_ok (d := d + 1) (n := n) (m := m) (R := R) (am := am) g0 g5 k0 k7 hL hX1 en1 em1 eR1 (by omega) (by omega) hR ha1 zT z1 z3 z4 (fun s2 y1 y2 y3 y4 f2 => ?_)
    refine fin s2 ?_ ?_ y3 (fun b j w1 w2 w3 w4 => f2 b j w1 w2 (by omega))
    · rw [show tpN n m R am ls sz k = (eL n m R ls sz 9 (E0 am) 0).1.1 by rw [h7]; rfl]; exact y1
    · rw [show tpB n m R am ls sz k = (eL n m R ls sz 9 (E0 am) 0).1.2.2.2 by rw [h7]; rfl]; exact y2
theorem M_shares13_ok {d : Nat} {K : Int → Mem → Prop} {s : Mem} {g k n m R : Int} {ls : Int → Int → Int} {sz am : Int → Int} (g0 : 0 ≤ g) (g5 : g ≤ 5) (hk : k = 1 ∨ k = 3) (hL : LGo n m ls sz) (hX : LM s g n m ls sz) (en : s 357 g = n) (em : s 358 g = m) (eR : s 359 g = R) (n7 : 1 ≤ n ∧ n ≤ 7) (m8 : 1 ≤ m ∧ m ≤ 8) (hR : 1 ≤ R ∧ R ≤ 3) (ha : ∀ t, 0 ≤ t → t < m → s 360 (8 * g + t) = am t ∧ 1 ≤ am t ∧ am t ≤ 9)
    (q : ∀ s2 : Mem, ShM s2 n m (tpN n m R am ls sz k) (tpB n m R am ls sz k) → (∀ b j, ¬ (b = 356 ∧ (j = 43 ∨ j = 44 ∨ j = 48 ∨ j = 49)) → ¬ (379 ≤ b ∧ b ≤ 384) → ¬ (387 ≤ b ∧ b ≤ 398) → s2 b j = s b j) → K 0 s2) : AM2 i_M_shares (d + 4) [(2, 356), (0, g), (0, k)] s K := by
  refine e_M_shares fun _ _ => M_clears_ok (d := d + 2) (fun s1 z0 z3 f1 => ?_)
  have hX1 : LM s1 g n m ls sz := ⟨fun x x0 x1 => by rw [f1 _ _ (by omega) (by omega) (by omega)]; exact hX.1 x x0 x1, fun x i x0 x1 i0 i1 => by rw [f1 _ _ (by omega) (by omega) (by omega)]; exact hX.2 x i x0 x1 i0 i1⟩
  have en1 : s1 357 g = n := by rw [f1 _ _ (by omega) (by omega) (by omega)]; exact en
  have em1 : s1 358 g = m := by rw [f1 _ _ (by omega) (by omega) (by omega)]; exact em
  have eR1 : s1 359 g = R := by rw [f1 _ _ (by omega) (by omega) (by omega)]; exact eR
  have ha1 : ∀ t, 0 ≤ t → t < m → s1 360 (8 * g + t) = am t ∧ 1 ≤ am t ∧ am t ≤ 9 := fun t t0 t1 => by rw [f1 _ _ (by omega) (by omega) (by omega)]; exact ha t t0 t1
  have fin : ∀ s2 : Mem, s2 356 43 = 0 → (∀ p t, 0 ≤ p → p < n → 0 ≤ t → t < m → FQ s2 387 388 (8 * p + t) (tpN n m R am ls sz k (8 * p + t)) (tpB n m R am ls sz k)) → (∀ b j, ¬ (b = 356 ∧ (j = 43 ∨ j = 44 ∨ j = 48 ∨ j = 49)) → ¬ (379 ≤ b ∧ b ≤ 384) → ¬ (387 ≤ b ∧ b ≤ 398) → s2 b j = s1 b j) → K 0 s2 := fun s2 h1 h2 f2 =>
    q s2 ⟨h1, h2⟩ (fun b j w1 w2 w3 => by rw [f2 b j w1 w2 w3]; exact f1 b j (by omega) (by omega) (by omega))
  rcases hk with h7 | h7
  · refine brF_i (by omega) (brT_i h7 (brF_i (by omega) ?_))
    refine M_meansP_ok (d := d) (n := n) (m := m) (R := R) (am := am) (back := false) g0 g5 hL hX1 en1 em1 eR1 n7 m8 hR ha1 rfl (fun s2 y1 f2 => fin s2 (by rw [f2 _ _ (by omega) (by omega)]; exact z3) (fun p t p0 p1 t0 t1 => ?_) (fun b j w1 w2 w3 => f2 b j w2 (by omega)))
    rw [show tpN n m R am ls sz k = mnP n R am ls sz false by rw [h7]; rfl, show tpB n m R am ls sz k = mnQ n by rw [h7]; rfl]
    exact y1 p t p0 p1 t0 (by omega)
  · refine brF_i (by omega) (brF_i (by omega) (brF_i (by omega) (brT_i h7 ?_)))
    refine M_eating_ok (d := d) (n := n) (m := m) (R := R) (am := am) g0 g5 hL hX1 en1 em1 eR1 (by omega) (by omega) hR ha1 (fun p t p0 p1 t0 t1 => z0 _ (by omega) (by omega)) z3 (fun s2 y1 y2 y3 f2 => ?_)
    refine fin s2 y2 (fun p t p0 p1 t0 t1 => ?_) (fun b j w1 w2 w3 => f2 b j (by omega) (by omega) (by omega) w1)
    rw [show tpN n m R am ls sz k = (eL n m R ls sz 9 (E0 am) 0).1.1 by rw [h7]; rfl, show tpB n m R am ls sz k = (eL n m R ls sz 9 (E0 am) 0).1.2.2.2 by rw [h7]; rfl]
    exact y1 p t p0 p1 t0 t1
-- ===== a list told otherwise
def lyL (σ : Mem) (g p : Int) (o : Int → Int) : Int → Int → Int := fun q i => if q = p then (if 0 ≤ i ∧ i < csz σ g p then clI σ g p (o i) else 0) else clI σ g q i
theorem lyL_congr {σ : Mem} {g p : Int} {o o' : Int → Int} (h : ∀ i, 0 ≤ i → i < csz σ g p → o i = o' i) : lyL σ g p o = lyL σ g p o' := by
  funext q i
  unfold lyL
  by_cases c : q = p
  · rw [if_pos c, if_pos c]
    by_cases y : 0 ≤ i ∧ i < csz σ g p
    · rw [if_pos y, if_pos y, h i y.1 y.2]
    · rw [if_neg y, if_neg y]
  · rw [if_neg c, if_neg c]
theorem lyL_p {σ : Mem} {g p i : Int} {o : Int → Int} (i0 : 0 ≤ i) (i1 : i < csz σ g p) : lyL σ g p o p i = clI σ g p (o i) := by
  unfold lyL
  rw [if_pos rfl, if_pos ⟨i0, i1⟩]
theorem lyL_n {σ : Mem} {g p q i : Int} {o : Int → Int} (h : ¬ q = p) : lyL σ g p o q i = clI σ g q i := if_neg h
theorem lyL_G {σ : Mem} {g p : Int} {o : Int → Int} (hA : GA σ g) (p0 : 0 ≤ p) (p1 : p < σ 357 g) (hP : PM (csz σ g p) o) : LGo (σ 357 g) (σ 358 g) (lyL σ g p o) (csz σ g) := by
  have hL := (GA_C hA).1
  refine ⟨hL.1, fun q i q0 q1 i0 i1 => ?_⟩
  by_cases c : q = p
  · rw [c] at i1 ⊢
    rw [lyL_p i0 i1]
    have := hP i i0 i1
    exact hL.2 p (o i) p0 p1 this.1.1 this.1.2
  · rw [lyL_n c]; exact hL.2 q i q0 q1 i0 i1
/-- how one fares by it -/
def lyV (σ : Mem) (g p k : Int) (o : Int → Int) (r : Int) : Prop := CmpR (σ 358 g) (fun t => σ 364 (56 * g + 8 * p + t)) (fun t => tpN (σ 357 g) (σ 358 g) (σ 359 g) (cam σ g) (lyL σ g p o) (csz σ g) k (8 * p + t)) (tpB (σ 357 g) (σ 358 g) (σ 359 g) (cam σ g) (lyL σ g p o) (csz σ g) k) (fun t => shN σ g k (8 * p + t)) (shB σ g k) r
