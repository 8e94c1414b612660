-- ===== shift
theorem cpy_up {σ : Mem} {e a b k : Int} (hab : ¬ a < b) (k0 : 0 ≤ k) : st (cpy σ e a e b k) e (b + k) (cpy σ e a e b k e (a + k)) = cpy σ e a e b (k + 1) := by
  funext x j
  by_cases q : x = e ∧ j = b + k
  · obtain ⟨q1, q2⟩ := q
    subst q1; subst q2
    rw [st_self, cpy_at, if_neg (by omega), cpy_at, if_pos (by omega)]
    congr 1; omega
  · rw [st_ne q, cpy_at, cpy_at]
    by_cases c : x = e ∧ b ≤ j ∧ j < b + k
    · rw [if_pos c, if_pos (by omega)]
    · rw [if_neg c, if_neg (by omega)]
theorem cpy_down {σ : Mem} {e a b k : Int} (hab : a < b) (k0 : 0 ≤ k) : st (cpy σ e a e b k) e (b - 1) (cpy σ e a e b k e (a - 1)) = cpy σ e (a - 1) e (b - 1) (k + 1) := by
  funext x j
  by_cases q : x = e ∧ j = b - 1
  · obtain ⟨q1, q2⟩ := q
    subst q1; subst q2
    rw [st_self, cpy_at, if_neg (by omega), cpy_at, if_pos (by omega)]
    congr 1; omega
  · rw [st_ne q, cpy_at, cpy_at]
    by_cases c : x = e ∧ b ≤ j ∧ j < b + k
    · rw [if_pos c, if_pos (by omega)]
      congr 1; omega
    · rw [if_neg c, if_neg (by omega)]
theorem cpy_0 (σ : Mem) (e a b : Int) : cpy σ e a e b 0 = σ := by
  funext x j
  rw [cpy_at, if_neg (by omega)]
theorem shift_up {d : Nat} {K : Int → Mem → Prop} {σ : Mem} {a b n : Int} (a0 : 0 ≤ a) (b0 : 0 ≤ b) (a1 : a + n ≤ 360) (b1 : b + n ≤ 360) (hab : ¬ a < b) (h : K n (cpy σ 378 a 378 b n)) : ∀ (m : Nat) (k : Int), 0 ≤ k → k + (m : Int) = n → AW2 i_M_shift (d + 1) 96 [] [(0, (2, 356)), (5, (0, n)), (6, (0, a)), (7, (0, b)), (8, (0, k))] (cpy σ 378 a 378 b k) K := by
  intro m
  induction m with
  | zero => intro k k0 e; exact s_M_shift_96 ⟨fun c => absurd c (by omega), fun _ => by rw [show k = n by omega]; exact h⟩
  | succ m ih =>
    intro k k0 e
    refine s_M_shift_96 ⟨fun c => ⟨fun z => absurd z hab, fun _ => s_M_shift_109 ?_⟩, fun c => absurd c (by omega)⟩
    rw [w32_id (x := a + k) (by omega) (by omega), w32_id (x := b + k) (by omega) (by omega), w32_id (x := k + 1) (by omega) (by omega)]
    refine inb_i (by omega) (by omega) (inb_i (by omega) (by omega) ?_)
    rw [cpy_up hab k0]
    exact ih (k + 1) (by omega) (by omega)
theorem shift_down {d : Nat} {K : Int → Mem → Prop} {σ : Mem} {a b n : Int} (a0 : 0 ≤ a) (b0 : 0 ≤ b) (a1 : a + n ≤ 360) (b1 : b + n ≤ 360) (hab : a < b) (h : K n (cpy σ 378 a 378 b n)) : ∀ (m : Nat) (k : Int), 0 ≤ k → k + (m : Int) = n → AW2 i_M_shift (d + 1) 96 [] [(0, (2, 356)), (5, (0, n)), (6, (0, a)), (7, (0, b)), (8, (0, k))] (cpy σ 378 (a + n - k) 378 (b + n - k) k) K := by
  intro m
  induction m with
  | zero =>
    intro k k0 e
    refine s_M_shift_96 ⟨fun c => absurd c (by omega), fun _ => ?_⟩
    rw [show k = n by omega, show a + n - n = a by omega, show b + n - n = b by omega]
    exact h
  | succ m ih =>
    intro k k0 e
    refine s_M_shift_96 ⟨fun c => ⟨fun _ => s_M_shift_109 ?_, fun z => absurd hab z⟩, fun c => absurd c (by omega)⟩
    rw [w32_id (x := n - 1) (by omega) (by omega), w32_id (x := n - 1 - k) (by omega) (by omega), w32_id (x := a + (n - 1 - k)) (by omega) (by omega), w32_id (x := b + (n - 1 - k)) (by omega) (by omega), w32_id (x := k + 1) (by omega) (by omega)]
    refine inb_i (by omega) (by omega) (inb_i (by omega) (by omega) ?_)
    rw [show a + (n - 1 - k) = a + n - k - 1 by omega, show b + (n - 1 - k) = b + n - k - 1 by omega, cpy_down (by omega) k0, show a + n - k - 1 = a + n - (k + 1) by omega, show b + n - k - 1 = b + n - (k + 1) by omega]
    exact ih (k + 1) (by omega) (by omega)
theorem shift_all {d : Nat} {K : Int → Mem → Prop} {σ : Mem} {a b n : Int} (a0 : 0 ≤ a) (b0 : 0 ≤ b) (n0 : 0 ≤ n) (a1 : a + n ≤ 360) (b1 : b + n ≤ 360) (h : K n (cpy σ 378 a 378 b n)) : AW2 i_M_shift (d + 1) 96 [] [(0, (2, 356)), (5, (0, n)), (6, (0, a)), (7, (0, b)), (8, (0, 0))] σ K := by
  by_cases hab : a < b
  · have t := shift_down (d := d) (σ := σ) a0 b0 a1 b1 hab h n.toNat 0 (by omega) (by omega)
    rw [cpy_0] at t; exact t
  · have t := shift_up (d := d) (σ := σ) a0 b0 a1 b1 hab h n.toNat 0 (by omega) (by omega)
    rw [cpy_0] at t; exact t
theorem M_shift_go {d : Nat} {K : Int → Mem → Prop} {σ : Mem} {s i t j n : Int} (a : 0 ≤ s) (b : s < 6) (a2 : 0 ≤ t) (b2 : t < 6) (hs : 0 ≤ σ 376 s ∨ 0 ≤ σ 375 s) (ht : 0 ≤ σ 376 t ∨ 0 ≤ σ 375 t) (h : AW2 i_M_shift (d + 3) 30 [] [(0, (2, 356)), (1, (0, s)), (2, (0, i)), (3, (0, t)), (4, (0, j)), (5, (0, n))] σ K) : AM2 i_M_shift (d + 3) [(2, 356), (0, s), (0, i), (0, t), (0, j), (0, n)] σ K := by
  have h18 : AW2 i_M_shift (d + 3) 18 [] [(0, (2, 356)), (1, (0, s)), (2, (0, i)), (3, (0, t)), (4, (0, j)), (5, (0, n))] σ K := s_M_shift_18 (inb_i a2 b2 ⟨fun c => inb_i a2 b2 ⟨fun c2 => absurd ht (by omega), fun _ => h⟩, fun _ => h⟩)
  exact e_M_shift fun _ _ _ _ _ => M_isShelf_ok (fun _ _ => br1 (M_isShelf_ok (fun _ _ => br1 (inb_i a b ⟨fun c => inb_i a b ⟨fun c2 => absurd hs (by omega), fun _ => h18⟩, fun _ => h18⟩)) (fun z => absurd ⟨a2, b2⟩ z))) (fun z => absurd ⟨a, b⟩ z)
theorem M_shift_11 {d : Nat} {K : Int → Mem → Prop} {σ : Mem} {s i t j n : Int} (a : 0 ≤ s) (b : s < 6) (a2 : 0 ≤ t) (b2 : t < 6) (hs : (σ 376 s < 0 ∧ σ 375 s < 0) ∨ (σ 376 t < 0 ∧ σ 375 t < 0)) (h : K (-11) σ) : AM2 i_M_shift (d + 3) [(2, 356), (0, s), (0, i), (0, t), (0, j), (0, n)] σ K := by
  have h18 : ¬ (σ 376 s < 0 ∧ σ 375 s < 0) → AW2 i_M_shift (d + 3) 18 [] [(0, (2, 356)), (1, (0, s)), (2, (0, i)), (3, (0, t)), (4, (0, j)), (5, (0, n))] σ K := fun q => s_M_shift_18 (inb_i a2 b2 ⟨fun c => inb_i a2 b2 ⟨fun c2 => s_M_shift_28 h, fun c2 => absurd hs (by omega)⟩, fun c => absurd hs (by omega)⟩)
  exact e_M_shift fun _ _ _ _ _ => M_isShelf_ok (fun _ _ => br1 (M_isShelf_ok (fun _ _ => br1 (inb_i a b ⟨fun c => inb_i a b ⟨fun c2 => s_M_shift_28 h, fun c2 => h18 (by omega)⟩, fun c => h18 (by omega)⟩)) (fun z => absurd ⟨a2, b2⟩ z))) (fun z => absurd ⟨a, b⟩ z)
theorem M_shift_room {d : Nat} {K : Int → Mem → Prop} {σ : Mem} {s i t j n : Int} (a : 0 ≤ s) (b : s < 6) (a2 : 0 ≤ t) (b2 : t < 6) (hs : 0 ≤ σ 377 s ∧ σ 377 s ≤ 60) (ht : 0 ≤ σ 377 t ∧ σ 377 t ≤ 60) (e : σ 376 s = σ 376 t) (e0 : 0 ≤ σ 376 s)
    (h0 : ¬ (0 ≤ n ∧ 0 ≤ i ∧ 0 ≤ j ∧ i + n ≤ σ 377 s ∧ j + n ≤ σ 377 t) → K (-13) σ) (h1 : (0 ≤ n ∧ 0 ≤ i ∧ 0 ≤ j ∧ i + n ≤ σ 377 s ∧ j + n ≤ σ 377 t) → K n (cpy σ 378 (60 * s + i) 378 (60 * t + j) n)) : AW2 i_M_shift (d + 1) 30 [] [(0, (2, 356)), (1, (0, s)), (2, (0, i)), (3, (0, t)), (4, (0, j)), (5, (0, n))] σ K := by
  refine s_M_shift_30 (inb_i a b ⟨fun c => absurd c (by omega), fun _ => inb_i a b (inb_i a2 b2 ⟨fun _ => ⟨fun c => s_M_shift_80 (h0 (by omega)), fun c1 => ⟨fun c => s_M_shift_80 (h0 (by omega)), fun c2 => ⟨fun c => s_M_shift_80 (h0 (by omega)), fun c3 => inb_i a b ⟨fun c => s_M_shift_80 (h0 (by omega)), fun c4 => inb_i a2 b2 ⟨fun c => s_M_shift_80 (h0 (by omega)), fun c5 => inb_i a b ?_⟩⟩⟩⟩⟩, fun c => absurd e c⟩)⟩)
  rw [w32_id (x := σ 377 s - i) (by omega) (by omega)]
  refine ⟨fun c => s_M_shift_80 (h0 (by omega)), fun c6 => inb_i a2 b2 ?_⟩
  rw [w32_id (x := σ 377 t - j) (by omega) (by omega)]
  refine ⟨fun c => s_M_shift_80 (h0 (by omega)), fun c7 => ?_⟩
  rw [w32_id (x := 60 * s) (by omega) (by omega), w32_id (x := 60 * t) (by omega) (by omega), w32_id (x := 60 * s + i) (by omega) (by omega), w32_id (x := 60 * t + j) (by omega) (by omega)]
  exact shift_all (by omega) (by omega) (by omega) (by omega) (by omega) (h1 (by omega))
theorem hasRoom_ok {d : Nat} {K : Int → Mem → Prop} {σ : Mem} {b i n : Int} (hb : sK b = 8) (hi : r32 i) (hn : r32 n) (h0 : ¬ (0 ≤ i ∧ 0 ≤ n ∧ i + n ≤ σ b 4) → K 0 σ) (h1 : (0 ≤ i ∧ 0 ≤ n ∧ i + n ≤ σ b 4) → K 1 σ) : AM2 i_Shelf_hasRoom (d + 1) [(2, b), (1, i), (1, n)] σ K := by
  unfold r32 at hi hn
  refine e_Shelf_hasRoom fun _ _ => ⟨fun c => h0 (by omega), fun c => ⟨fun c2 => h0 (by omega), fun c2 => chkK_i hb ?_⟩⟩
  rw [w64_id (by omega) (by omega)]
  exact ⟨fun c3 => h0 (by omega), fun c3 => h1 (by omega)⟩
theorem I_shelf_cpy {σ : Mem} {s i t j n : Int} (hI : I_shelf σ) (a : 0 ≤ s) (b : s < 6) (a2 : 0 ≤ t) (b2 : t < 6) (i0 : 0 ≤ i) (j0 : 0 ≤ j) (i1 : i + n ≤ 60) (j1 : j + n ≤ 60) (e : ∀ k, 0 ≤ k → k < 60 → σ (344 + 1 + 2 * s) k = σ 378 (60 * s + k)) : I_shelf (cpy (cpy σ (344 + 1 + 2 * s) i (344 + 1 + 2 * t) j n) 378 (60 * s + i) 378 (60 * t + j) n) := by
  intro z z0 z1
  have f : ∀ x y : Int, ¬ x = 344 + 1 + 2 * t → ¬ x = 378 → cpy (cpy σ (344 + 1 + 2 * s) i (344 + 1 + 2 * t) j n) 378 (60 * s + i) 378 (60 * t + j) n x y = σ x y := fun x y h1 h2 => by
    rw [cpy_at, if_neg (fun q => h2 q.1), cpy_at, if_neg (fun q => h1 q.1)]
  unfold I_sh
  rw [f (344 + 2 * z) 1 (by omega) (by omega), f 375 z (by omega) (by omega), f 376 z (by omega) (by omega), f 356 10 (by omega) (by omega), f (344 + 2 * z) 2 (by omega) (by omega), f 366 _ (by omega) (by omega), f (344 + 2 * z) 3 (by omega) (by omega), f (344 + 2 * z) 4 (by omega) (by omega), f 377 z (by omega) (by omega)]
  rcases hI z z0 z1 with h | h | ⟨e1, e2, e3, e4, e5, e6, e7⟩
  · exact Or.inl h
  · exact Or.inr (Or.inl h)
  · refine Or.inr (Or.inr ⟨e1, e2, e3, e4, e5, e6, fun k k0 k1 => ?_⟩)
    by_cases q : z = t ∧ j ≤ k ∧ k < j + n
    · obtain ⟨q1, q2, q3⟩ := q
      subst q1
      rw [cpy_at, if_neg (by omega), cpy_at, if_pos (by omega), cpy_at, if_pos (by omega), cpy_at, if_neg (by omega), e _ (by omega) (by omega)]
      congr 1; omega
    · rw [cpy_at, if_neg (by omega), cpy_at, if_neg (by omega), cpy_at, if_neg (by omega), cpy_at, if_neg (by omega)]
      exact e7 k k0 k1
theorem I_byte_cpy {σ : Mem} {s i t j n : Int} (a : 0 ≤ s) (b : s < 6) (a2 : 0 ≤ t) (b2 : t < 6) (i0 : 0 ≤ i) (j0 : 0 ≤ j) (i1 : i + n ≤ 60) (j1 : j + n ≤ 60) (e : σ 376 s = σ 376 t) (hY : I_byte σ) : I_byte (cpy (cpy σ (344 + 1 + 2 * s) i (344 + 1 + 2 * t) j n) 378 (60 * s + i) 378 (60 * t + j) n) := by
  intro z k z0 z1 ez k0 k1
  rw [cpy_at, if_neg (by omega), cpy_at, if_neg (by omega)] at ez
  by_cases q : z = t ∧ j ≤ k ∧ k < j + n
  · obtain ⟨q1, q2, q3⟩ := q
    subst q1
    rw [cpy_at, if_pos (by omega), cpy_at, if_neg (by omega), show 60 * s + i + (60 * z + k - (60 * z + j)) = 60 * s + (i + (k - j)) by omega]
    exact hY s _ a b (by omega) (by omega) (by omega)
  · rw [cpy_at, if_neg (by omega), cpy_at, if_neg (by omega)]
    exact hY z k z0 z1 ez k0 k1
theorem call_shift {d : Nat} {σ : Mem} {s i t j n : Int} {P : Int → Int → Mem → Prop} (hI : I_shelf σ) (h : ∀ r σ2, (∀ x y, ¬ (344 ≤ x ∧ x < 344 + 12) → ¬ x = 378 → σ2 x y = σ x y) → I_shelf σ2 → (I_byte σ → I_byte σ2) → P r r σ2) :
    AM2 i_X_shift (d + 3) [(2, 0), (0, s), (0, i), (0, t), (0, j), (0, n)] σ (fun w1 σ1 => AM2 i_M_shift (d + 3) [(2, 356), (0, s), (0, i), (0, t), (0, j), (0, n)] σ1 (fun w2 σ2 => P w1 w2 σ2)) := by
  have same : ∀ r, P r r σ := fun r => h r σ (fun _ _ _ _ => rfl) hI id
  refine e_X_shift fun _ hi _ hj hn => X_isShelf_ok (fun a b => br1 (X_isShelf_ok (fun a2 b2 => br1 (inb_i a b (inb_i a2 b2 ?_))) (fun c => br0 ?_))) (fun c => br0 ?_)
  · obtain ⟨p1, p2, p3, p4, p5⟩ := sh_at s a b
    obtain ⟨q1, q2, q3, q4, q5⟩ := sh_at t a2 b2
    rw [p1, q1]
    have vs := hI s a b
    have vt := hI t a2 b2
    unfold I_sh at vs vt
    have m12 : ∀ (_ : 0 ≤ σ 376 s ∨ 0 ≤ σ 375 s) (_ : 0 ≤ σ 376 t ∨ 0 ≤ σ 375 t) (_ : σ 376 s < 0 ∨ ¬ σ 376 s = σ 376 t), AM2 i_M_shift (d + 3) [(2, 356), (0, s), (0, i), (0, t), (0, j), (0, n)] σ (fun w2 σ2 => P (-12) w2 σ2) := fun g1 g2 g3 => M_shift_go a b a2 b2 g1 g2 (s_M_shift_30 (inb_i a b ⟨fun _ => s_M_shift_44 (same _), fun c1 => inb_i a b (inb_i a2 b2 ⟨fun c2 => absurd g3 (by omega), fun _ => s_M_shift_44 (same _)⟩)⟩))
    refine chkK_i p2 ⟨fun c => M_shift_11 a b a2 b2 (by omega) (same _), fun c => chkK_i q2 ⟨fun c2 => M_shift_11 a b a2 b2 (by omega) (same _), fun c2 => chkK_i p2 ⟨fun c3 => chkK_i q2 ⟨fun c4 => chkK_i p2 (chkK_i q2 ⟨fun c5 => chkK_i p2 ?_, fun c5 => m12 (by omega) (by omega) (by omega)⟩), fun c4 => m12 (by omega) (by omega) (by omega)⟩, fun c3 => m12 (by omega) (by omega) (by omega)⟩⟩⟩
    rcases vs with v | v | ⟨e1, e2, e3, e4, e5, e6, e7⟩
    · omega
    · omega
    rcases vt with v | v | ⟨f1, f2, f3, f4, f5, f6, f7⟩
    · omega
    · omega
    have m13 : ¬ (0 ≤ n ∧ 0 ≤ i ∧ 0 ≤ j ∧ i + n ≤ σ 377 s ∧ j + n ≤ σ 377 t) → AM2 i_M_shift (d + 3) [(2, 356), (0, s), (0, i), (0, t), (0, j), (0, n)] σ (fun w2 σ2 => P (-13) w2 σ2) := fun g => M_shift_go a b a2 b2 (by omega) (by omega) (M_shift_room a b a2 b2 e6 f6 (by omega) (by omega) (fun _ => same _) (fun g2 => absurd g2 g))
    refine hasRoom_ok p2 hi hn (fun g => br0 (m13 (by omega))) (fun g => br1 (chkK_i q2 (hasRoom_ok q2 hj hn (fun g2 => br0 (m13 (by omega))) (fun g2 => br1 (chkK_i p2 (chkK_i q2 ?_))))))
    rw [p3, q3, p5, q5]
    refine chkK_i p4 (chkK_i q4 ⟨⟨by omega, by omega, by omega, by omega, by omega⟩, ?_⟩)
    have fr : ∀ x y : Int, ¬ x = 344 + 1 + 2 * t → cpy σ (344 + 1 + 2 * s) i (344 + 1 + 2 * t) j n x y = σ x y := fun x y h1 => by rw [cpy_at, if_neg (fun q => h1 q.1)]
    have z1 := fr 377 s (by omega)
    have z2 := fr 377 t (by omega)
    have z3 := fr 376 s (by omega)
    have z4 := fr 376 t (by omega)
    refine M_shift_go a b a2 b2 (by omega) (by omega) (M_shift_room a b a2 b2 (by omega) (by omega) (by omega) (by omega) (fun g3 => absurd g3 (by omega)) (fun _ => h n _ (fun x y h1 h2 => ?_) (I_shelf_cpy hI a b a2 b2 (by omega) (by omega) (by omega) (by omega) e7) (I_byte_cpy a b a2 b2 (by omega) (by omega) (by omega) (by omega) (by omega))))
    rw [cpy_at, if_neg (fun q => h2 q.1)]
    exact fr x y (by omega)
  · exact e_M_shift fun _ _ _ _ _ => M_isShelf_ok (fun _ _ => br1 (M_isShelf_ok (fun a b => absurd ⟨a, b⟩ c) (fun _ => br0 (s_M_shift_6 (same _))))) (fun _ => br0 (s_M_shift_6 (same _)))
  · exact e_M_shift fun _ _ _ _ _ => M_isShelf_ok (fun a b => absurd ⟨a, b⟩ c) (fun _ => br0 (s_M_shift_6 (same _)))
