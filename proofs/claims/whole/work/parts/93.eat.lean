-- ===== eating: the class, all of it
def E0 (am : Int → Int) : ES := (fun _ => 0, am, 0, 1)
theorem E0_EI {n m R : Int} {am : Int → Int} (m0 : 0 ≤ m) (hR : 1 ≤ R) (ha : ∀ t, 0 ≤ t → t < m → 1 ≤ am t ∧ am t ≤ 9) : EI n m R 0 (E0 am) := by
  have := sm_le (f := fun t => if 0 < am t then 1 else 0) (lo := 0) (hi := 1) m.toNat 0 0 (fun j _ _ => by
    show 0 ≤ (if 0 < am j then (1 : Int) else 0) ∧ (if 0 < am j then (1 : Int) else 0) ≤ 1
    split <;> omega)
  refine ⟨by show (1 : Int) ≤ 1 ∧ (1 : Int) ≤ 7 ^ 0; decide, ⟨Int.le_refl 0, by show 0 ≤ R * 1; omega⟩, fun t t0 t1 => ?_, fun p t _ _ _ _ => ⟨Int.le_refl 0, Int.le_refl 0⟩, Or.inr ?_⟩
  · have := ha t t0 t1
    show 0 ≤ am t ∧ am t ≤ 9 * 1
    omega
  · show cpL m am + ((0 : Nat) : Int) ≤ m
    unfold cpL
    omega
theorem X_eat_ok {d : Nat} {K : Int → Mem → Prop} {s : Mem} {g k n m R : Int} {ls : Int → Int → Int} {sz am : Int → Int} (g0 : 0 ≤ g) (g5 : g ≤ 5) (k0 : 0 ≤ k) (k7 : k < 7) (hL : LGo n m ls sz) (hX : LX s g n m ls sz) (eN : s (4 + 43 * g) 1 = n) (eM : s (4 + 43 * g) 0 = m) (eR : s (4 + 43 * g) 2 = R) (n7 : 0 ≤ n ∧ n ≤ 7) (m8 : 0 ≤ m ∧ m ≤ 8) (hR : 1 ≤ R ∧ R ≤ 3) (ha : ∀ t, 0 ≤ t → t < m → s (5 + 43 * g) t = am t ∧ 1 ≤ am t ∧ am t ≤ 9) (hT : TP s (34 + 43 * g + 2 * k) n m (fun _ => 0)) (h1 : s (33 + 43 * g + 2 * k) 1 = 1) (h3 : s (33 + 43 * g + 2 * k) 3 = 0) (h4 : s (33 + 43 * g + 2 * k) 4 = 0)
    (q : ∀ s2 : Mem, TP s2 (34 + 43 * g + 2 * k) n m (eL n m R ls sz 9 (E0 am) 0).1.1 → s2 (33 + 43 * g + 2 * k) 1 = (eL n m R ls sz 9 (E0 am) 0).1.2.2.2 → s2 (33 + 43 * g + 2 * k) 3 = 0 → s2 (33 + 43 * g + 2 * k) 4 = (eL n m R ls sz 9 (E0 am) 0).2 → (∀ b j, ¬ b = 34 + 43 * g + 2 * k → ¬ (b = 33 + 43 * g + 2 * k ∧ (j = 1 ∨ j = 3 ∨ j = 4)) → ¬ (307 ≤ b ∧ b ≤ 310) → s2 b j = s b j) → K 0 s2) : AM2 i_Eating_eat (d + 3) [(2, 307), (2, 4 + 43 * g), (2, 33 + 43 * g + 2 * k)] s K := by
  have ckg := fun {P : Prop} => ck_g (P := P) g0 g5
  have ck := fun {P : Prop} => ck_sh (P := P) g0 g5 k0 k7
  have l22 : ∀ (v i : Nat) (S : ES) (H : Int) (s1 : Mem), i + v = 9 → EI n m R i S → (0 ≤ H ∧ H ≤ i) → TP s1 (34 + 43 * g + 2 * k) n m S.1 → (∀ t, 0 ≤ t → t < m → s1 308 t = S.2.1 t) → s1 307 3 = S.2.2.1 → s1 (33 + 43 * g + 2 * k) 1 = S.2.2.2 → s1 (33 + 43 * g + 2 * k) 3 = 0 → s1 (33 + 43 * g + 2 * k) 4 = H → (∀ b j, ¬ b = 34 + 43 * g + 2 * k → ¬ (b = 33 + 43 * g + 2 * k ∧ (j = 1 ∨ j = 3 ∨ j = 4)) → ¬ (307 ≤ b ∧ b ≤ 310) → s1 b j = s b j) → eL n m R ls sz v S H = eL n m R ls sz 9 (E0 am) 0 → AW2 i_Eating_eat (d + 3) 22 [] [(0, (2, 307)), (1, (2, 4 + 43 * g)), (2, (2, 33 + 43 * g + 2 * k)), (3, (0, (i : Int)))] s1 K := by
    intro v
    induction v with
    | zero =>
      intro i S H s1 e hE hH hT hl hT3 hB h3 h4 f er
      have er : (S, H) = eL n m R ls sz 9 (E0 am) 0 := er
      rw [← er] at q
      exact s_Eating_eat_22 (brT_i (by omega) (s_Eating_eat_101 (q s1 hT hB h3 h4 f)))
    | succ v ih =>
      intro i S H s1 e hE hH hT hl hT3 hB h3 h4 f er
      have e1 : eL n m R ls sz (v + 1) S H = if S.2.2.1 < R * S.2.2.2 ∧ 0 < anN n (fdE ls sz S.2.1) then eL n m R ls sz v (eS n m R ls sz S) (H + 1) else (S, H) := rfl
      rw [e1] at er
      have hb := EI_b (by omega) hE
      have hE' := hE
      obtain ⟨E1, E2, E3, E4, E5⟩ := hE'
      have hRB := mul_b (a := R) (b := S.2.2.2) (A := 3) (C := 40353607) (by omega) hR.2 (by omega) hb
      have fin : ∀ s2 : Mem, (S, H) = eL n m R ls sz 9 (E0 am) 0 → (∀ b j, ¬ b = 309 → ¬ b = 310 → s2 b j = s1 b j) → AW2 i_Eating_eat (d + 3) 101 [] [] s2 K := fun s2 er2 f2 => by
        rw [← er2] at q
        refine s_Eating_eat_101 (q s2 (fun p t p0 p1 t0 t1 => by rw [f2 _ _ (by omega) (by omega)]; exact hT p t p0 p1 t0 t1) (by rw [f2 _ _ (by omega) (by omega)]; exact hB) (by rw [f2 _ _ (by omega) (by omega)]; exact h3) (by rw [f2 _ _ (by omega) (by omega)]; exact h4) (fun b j z1 z2 z3 => by rw [f2 b j (by omega) (by omega)]; exact f b j z1 z2 z3))
      refine s_Eating_eat_22 (brF_i (by omega) ?_)
      rw [ckg, ck, f (4 + 43 * g) 2 (by omega) (by omega) (by omega), eR, hB, hT3, w64_id (x := R * S.2.2.2) (by omega) (by omega)]
      refine ⟨fun c => ?_, fun c => fin s1 (by rw [← er, if_neg (fun w => c w.1)]) (fun _ _ _ _ => rfl)⟩
      refine X_bite_ok (d := d) (n := n) (m := m) (L := S.2.1) g0 g5 hL ⟨fun p p0 p1 => by rw [f _ _ (by omega) (by omega) (by omega)]; exact hX.1 p p0 p1, fun p i p0 p1 i0 i1 => by rw [f _ _ (by omega) (by omega) (by omega)]; exact hX.2 p i p0 p1 i0 i1⟩ (by rw [f _ _ (by omega) (by omega) (by omega)]; exact eN) (by rw [f _ _ (by omega) (by omega) (by omega)]; exact eM) n7 m8 hl (fun s2 h9 h10 f2 => ?_)
      by_cases c2 : 0 < anN n (fdE ls sz S.2.1)
      · rw [if_pos c2]
        rw [if_pos ⟨c, c2⟩] at er
        have hs := stE_r n7 m8.1 hL hE
        refine br1 (X_nextEaten_ok (d := d + 1) (n := n) (m := m) (R := R) (S := S) (i := i) g0 g5 k0 k7 n7 m8 hR hE (by omega) (by rw [f2 _ _ (by omega) (by omega), f _ _ (by omega) (by omega) (by omega)]; exact eM) (by rw [f2 _ _ (by omega) (by omega), f _ _ (by omega) (by omega) (by omega)]; exact eR) (fun t t0 t1 => by rw [f2 _ _ (by omega) (by omega)]; exact hl t t0 t1) h10 (by rw [f2 _ _ (by omega) (by omega)]; exact hT3) (by rw [f2 _ _ (by omega) (by omega)]; exact hB) ?_)
        -- the step
        have last : AW2 i_Eating_eat (d + 3) 83 [(1, (stE n m R ls sz S).2.1)] [(0, (2, 307)), (1, (2, 4 + 43 * g)), (2, (2, 33 + 43 * g + 2 * k)), (3, (0, (i : Int))), (5, (1, (stE n m R ls sz S).2.2))] s2 K := by
          have ee : eS n m R ls sz S = (fun k => S.1 k * (stE n m R ls sz S).2.2 + (if fdE ls sz S.2.1 (k / 8) = k % 8 then (stE n m R ls sz S).2.1 else 0), fun t => S.2.1 t * (stE n m R ls sz S).2.2 - (stE n m R ls sz S).2.1 * cntE n (fdE ls sz S.2.1) t, S.2.2.1 * (stE n m R ls sz S).2.2 + (stE n m R ls sz S).2.1, S.2.2.2 * (stE n m R ls sz S).2.2) := rfl
          have hE2 := eS_EI n7 m8 hL hE c
          rw [ee] at er hE2
          generalize stE n m R ls sz S = Z at *
          obtain ⟨⟨u1, u7⟩, x0, hs2, hs3, hs4⟩ := hs
          have hx : Z.2.1 ≤ 363182463 := by
            rcases hs4 with z | z
            · rw [z]; show R * S.2.2.2 - S.2.2.1 ≤ 363182463; omega
            · have := E3 Z.1 z.1 z.2.1; omega
          have hTu := mul_b (a := S.2.2.1) (b := Z.2.2) (A := 121060821) (C := 7) E2.1 (by omega) (by omega) u7
          have hBu := mul_b (a := S.2.2.2) (b := Z.2.2) (A := 40353607) (C := 7) (by omega) hb (by omega) u7
          refine s_Eating_eat_83 ?_
          refine X_widen_ok (d := d + 1) g0 g5 k0 k7 (fun s3 y1 y2 y3 y4 f3 => ?_)
          rw [f2 307 3 (by omega) (by omega), hT3, w64_id (by omega) (by omega)] at y4
          rw [f2 (33 + 43 * g + 2 * k) 1 (by omega) (by omega), hB, w64_id (by omega) (by omega)] at y3
          refine X_pass_ok (d := d + 1) (n := n) (m := m) (T := S.2.2.1 * Z.2.2) (fd := fdE ls sz S.2.1) (N := fun k => S.1 k * Z.2.2) (L := fun t => S.2.1 t * Z.2.2) g0 g5 k0 k7 n7 m8 (by rw [f3 _ _ (by omega) (by omega) (by omega) (by omega), f2 _ _ (by omega) (by omega), f _ _ (by omega) (by omega) (by omega)]; exact eN) ⟨x0, by omega⟩ ⟨y4, by omega, by omega⟩ (fun p p0 p1 => ⟨by rw [f3 _ _ (by omega) (by omega) (by omega) (by omega)]; exact h9 p p0 p1, by have := fdE_r (L := S.2.1) hL p0 p1; omega⟩) (fun p t p0 p1 t0 t1 => ?_) (fun t t0 t1 => ?_) (fun s4 w1 w2 w3 f4 => ?_)
          · have hN := E4 p t p0 p1 t0 t1
            have hm := mul_b (a := S.1 (8 * p + t)) (b := Z.2.2) (A := 121060821) (C := 7) hN.1 (by omega) (by omega) u7
            refine ⟨?_, hm.1, by show S.1 (8 * p + t) * Z.2.2 ≤ _; omega⟩
            rw [y1 _ (by omega) (by omega), f2 _ _ (by omega) (by omega), hT p t p0 p1 t0 t1]
            exact w64_id (by omega) (by omega)
          · have hN := E3 t t0 t1
            have hm := mul_b (a := S.2.1 t) (b := Z.2.2) (A := 363182463) (C := 7) hN.1 (by omega) (by omega) u7
            refine ⟨?_, hm.1, by show S.2.1 t * Z.2.2 ≤ _; omega⟩
            rw [y2 t t0 (by omega), f2 _ _ (by omega) (by omega), hl t t0 t1]
            exact w64_id (by omega) (by omega)
          · rw [ck, ck]
            have e4 : s4 (33 + 43 * g + 2 * k) 4 = H := by rw [f4 _ _ (by omega) (by omega) (by omega), f3 _ _ (by omega) (by omega) (by omega) (by omega), f2 _ _ (by omega) (by omega)]; exact h4
            rw [e4, w32_id (x := (i : Int) + 1) (by omega) (by omega), w32_id (x := H + 1) (by omega) (by omega), show (i : Int) + 1 = ((i + 1 : Nat) : Int) by omega]
            refine ih (i + 1) _ (H + 1) _ (by omega) hE2 (by omega) (fun p t p0 p1 t0 t1 => ?_) (fun t t0 t1 => ?_) ?_ ?_ ?_ (st_self _ _ _ _) (fun b j z1 z2 z3 => ?_) er
            · rw [st_ne (by omega), w1 p t p0 p1 t0 t1]
              show _ = S.1 (8 * p + t) * Z.2.2 + (if fdE ls sz S.2.1 ((8 * p + t) / 8) = (8 * p + t) % 8 then Z.2.1 else 0)
              rw [show (8 * p + t) / 8 = p by omega, show (8 * p + t) % 8 = t by omega]
            · rw [st_ne (by omega), w2 t t0 t1]
            · rw [st_ne (by omega), w3]
            · rw [st_ne (by omega), f4 _ _ (by omega) (by omega) (by omega), y3]
            · rw [st_ne (by omega), f4 _ _ (by omega) (by omega) (by omega), f3 _ _ (by omega) (by omega) (by omega) (by omega), f2 _ _ (by omega) (by omega)]; exact h3
            · rw [st_ne (by omega), f4 b j (by omega) (by omega) (by omega), f3 b j (by omega) (by omega) (by omega) (by omega), f2 b j (by omega) (by omega)]; exact f b j z1 z2 z3
        have h53 : AW2 i_Eating_eat (d + 3) 53 [(1, (stE n m R ls sz S).2.2)] [(0, (2, 307)), (1, (2, 4 + 43 * g)), (2, (2, 33 + 43 * g + 2 * k)), (3, (0, (i : Int))), (4, (0, (stE n m R ls sz S).1))] s2 K := by
          obtain ⟨⟨u1, u7⟩, x0, hs2, hs3, hs4⟩ := hs
          have hmx : maxL 1 (stE n m R ls sz S).2.2 = (stE n m R ls sz S).2.2 := by
            unfold maxL; split <;> omega
          have hdv : ¬ divL 1000000000000 (stE n m R ls sz S).2.2 < S.2.2.2 := by
            rw [divL_nn (by decide) (by decide) (by omega) (by omega)]
            generalize (stE n m R ls sz S).2.2 = u at *
            have hu : u = 1 ∨ u = 2 ∨ u = 3 ∨ u = 4 ∨ u = 5 ∨ u = 6 ∨ u = 7 := by omega
            rcases hu with rfl | rfl | rfl | rfl | rfl | rfl | rfl <;> omega
          refine s_Eating_eat_53 ?_
          rw [hmx, ck, f2 (33 + 43 * g + 2 * k) 1 (by omega) (by omega), hB]
          refine nzP_i (by omega) (brF_i hdv ?_)
          rcases hs4 with z | z
          · rw [ckg, ck, f2 (4 + 43 * g) 2 (by omega) (by omega), f (4 + 43 * g) 2 (by omega) (by omega) (by omega), eR, f2 307 3 (by omega) (by omega), hT3, w64_id (x := R * S.2.2.2) (by omega) (by omega), w64_id (x := R * S.2.2.2 - S.2.2.1) (by omega) (by omega)]
            have ex : R * S.2.2.2 - S.2.2.1 = (stE n m R ls sz S).2.1 := by rw [z]
            rw [ex]
            exact brT_i (by rw [z]; show (-1 : Int) < 0; decide) last
          · refine brF_i (by omega) (inb_i z.1 (by omega) ?_)
            rw [f2 308 _ (by omega) (by omega), hl _ z.1 z.2.1, ← z.2.2.2.1]
            exact last
        rcases hs.2.2.2.2 with z | z
        · have e1 : (1 : Int) = (stE n m R ls sz S).2.2 := by rw [z]
          rw [← e1] at h53
          exact brT_i (by rw [z]; show (-1 : Int) < 0; decide) h53
        · refine brF_i (by omega) (inb_i z.1 (by omega) ?_)
          rw [h10 _ z.1 z.2.1, ← z.2.2.2.2]
          exact h53
      · rw [if_neg c2]
        exact br0 (fin s2 (by rw [← er, if_neg (fun w => c2 w.2)]) f2)
  have l2 : ∀ (v : Nat) (t : Int) (s1 : Mem), 0 ≤ t → t + v = m → (∀ u, 0 ≤ u → u < t → s1 308 u = am u) → (∀ b j, ¬ b = 308 → s1 b j = s b j) → AW2 i_Eating_eat (d + 3) 2 [] [(0, (2, 307)), (1, (2, 4 + 43 * g)), (2, (2, 33 + 43 * g + 2 * k)), (3, (0, t))] s1 K := by
    intro v
    induction v with
    | zero =>
      intro t s1 t0 e hl f
      refine s_Eating_eat_2 ?_
      rw [ckg, f (4 + 43 * g) 0 (by omega), eM]
      refine brF_i (by omega) (l22 9 0 (E0 am) 0 _ rfl (E0_EI m8.1 hR.1 (fun t t0 t1 => (ha t t0 t1).2)) ⟨Int.le_refl 0, Int.le_refl 0⟩ (fun p t p0 p1 t0 t1 => by rw [st_ne (by omega), f _ _ (by omega)]; exact hT p t p0 p1 t0 t1) (fun u u0 u1 => by rw [st_ne (by omega)]; exact hl u u0 (by omega)) (st_self _ _ _ _) (by rw [st_ne (by omega), f _ _ (by omega)]; exact h1) (by rw [st_ne (by omega), f _ _ (by omega)]; exact h3) (by rw [st_ne (by omega), f _ _ (by omega)]; exact h4) (fun b j z1 z2 z3 => by rw [st_ne (by omega)]; exact f b j (by omega)) rfl)
    | succ v ih =>
      intro t s1 t0 e hl f
      refine s_Eating_eat_2 ?_
      (try simp (disch := omega) only [w32_id, w64_id, inb_eq, st_self, st_ne, pt3, ck_g, ck_am, ck_he, ck_sz, ck_ls, ck_lv, ck_pa, ck_kn, sn_am, sn_he, sn_sz, sn_ls, sn_lv, sn_pa, sn_kn, pt_am, pt_he, pt_sz, pt_ls, pt_lv, pt_pa, pt_kn, ck_lr, ck_vr, ck_pr, sn_lr, sn_vr, sn_pr, pt_lr, pt_vr, pt_pr, pt_sh, ck_sh, pt_to, ck_to, sn_to])
      rw [f (4 + 43 * g) 0 (by omega), eM, f (5 + 43 * g) t (by omega), (ha t t0 (by omega)).1]
      refine brT_i (by omega) (ih (t + 1) _ (by omega) (by omega) (fun u u0 u1 => ?_) (fun b j z => by rw [st_ne (by omega)]; exact f b j z))
      by_cases y : u = t
      · rw [y, st_self]
      · rw [st_ne (by omega)]; exact hl u u0 (by omega)
  exact e_Eating_eat (l2 m.toNat 0 s (Int.le_refl 0) (by omega) (fun u u0 u1 => by omega) (fun _ _ _ => rfl))
