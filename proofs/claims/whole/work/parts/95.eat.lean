-- ===== eating: the model, all of it
/-- a fraction in lowest terms -/
def FQ (s : Mem) (b1 b2 i N B : Int) : Prop := s b1 i = N / cm N B ∧ s b2 i = B / cm N B
theorem FQ_mul {s : Mem} {b1 b2 i N B u : Int} (u0 : 0 < u) (B0 : 0 < B) (h : FQ s b1 b2 i N B) : FQ s b1 b2 i (N * u) (B * u) := by
  have := lo_mul (N := N) u0 B0
  unfold FQ
  rw [Int.mul_comm N u, Int.mul_comm B u, this.1, this.2]
  exact h
theorem M_eating_ok {d : Nat} {K : Int → Mem → Prop} {s : Mem} {g n m R : Int} {ls : Int → Int → Int} {sz am : Int → Int} (g0 : 0 ≤ g) (g5 : g ≤ 5) (hL : LGo n m ls sz) (hX : LM s g n m ls sz) (eN : s 357 g = n) (eM : s 358 g = m) (eR : s 359 g = R) (n7 : 0 ≤ n ∧ n ≤ 7) (m8 : 0 ≤ m ∧ m ≤ 8) (hR : 1 ≤ R ∧ R ≤ 3) (ha : ∀ t, 0 ≤ t → t < m → s 360 (8 * g + t) = am t ∧ 1 ≤ am t ∧ am t ≤ 9) (hT : ∀ p t, 0 ≤ p → p < n → 0 ≤ t → t < m → s 387 (8 * p + t) = 0 ∧ s 388 (8 * p + t) = 1) (hb : s 356 43 = 0)
    (q : ∀ s2 : Mem, (∀ p t, 0 ≤ p → p < n → 0 ≤ t → t < m → FQ s2 387 388 (8 * p + t) ((eL n m R ls sz 9 (E0 am) 0).1.1 (8 * p + t)) (eL n m R ls sz 9 (E0 am) 0).1.2.2.2) → s2 356 43 = 0 → s2 356 44 = (eL n m R ls sz 9 (E0 am) 0).2 → (∀ b j, ¬ b = 387 → ¬ b = 388 → ¬ (390 ≤ b ∧ b ≤ 393) → ¬ (b = 356 ∧ (j = 43 ∨ j = 44 ∨ j = 48 ∨ j = 49)) → s2 b j = s b j) → K 0 s2) : AM2 i_M_eating (d + 3) [(2, 356), (0, g)] s K := by
  have l44 : ∀ (v i : Nat) (S : ES) (H : Int) (s1 : Mem), i + v = 9 → EI n m R i S → (0 ≤ H ∧ H ≤ i) → (∀ p t, 0 ≤ p → p < n → 0 ≤ t → t < m → FQ s1 387 388 (8 * p + t) (S.1 (8 * p + t)) S.2.2.2) → (∀ t, 0 ≤ t → t < m → FQ s1 390 391 t (S.2.1 t) S.2.2.2) → s1 356 43 = 0 → s1 356 44 = H → (∀ b j, ¬ b = 387 → ¬ b = 388 → ¬ (390 ≤ b ∧ b ≤ 393) → ¬ (b = 356 ∧ (j = 43 ∨ j = 44 ∨ j = 48 ∨ j = 49)) → s1 b j = s b j) → eL n m R ls sz v S H = eL n m R ls sz 9 (E0 am) 0 → AW2 i_M_eating (d + 3) 44 [] [(0, (2, 356)), (1, (0, g)), (2, (1, (R * S.2.2.2 - S.2.2.1) / cm (R * S.2.2.2 - S.2.2.1) S.2.2.2)), (4, (1, S.2.2.2 / cm (R * S.2.2.2 - S.2.2.1) S.2.2.2))] s1 K := by
    intro v
    induction v with
    | zero =>
      intro i S H s1 e hE hH hT hl hb h4 f er
      have er : (S, H) = eL n m R ls sz 9 (E0 am) 0 := er
      have ei : i = 9 := by omega
      rw [ei] at hE
      have hz := EI_9 m8.2 m8.1 hE
      have hr := lo_r (N := R * S.2.2.2 - S.2.2.1) (B := S.2.2.2) (by omega) (by have := hE.1; omega)
      rw [← er] at q
      refine s_M_eating_44 (brF_i (fun w => by have := hr.2.2.2.mp w; omega) (q s1 hT hb h4 f))
    | succ v ih =>
      intro i S H s1 e hE hH hT hl hb h4 f er
      have e1 : eL n m R ls sz (v + 1) S H = if S.2.2.1 < R * S.2.2.2 ∧ 0 < anN n (fdE ls sz S.2.1) then eL n m R ls sz v (eS n m R ls sz S) (H + 1) else (S, H) := rfl
      rw [e1] at er
      have hB := EI_b (by omega) hE
      have hE' := hE
      obtain ⟨E1, E2, E3, E4, E5⟩ := hE'
      have B0 : 0 < S.2.2.2 := by omega
      have hRB := mul_b (a := R) (b := S.2.2.2) (A := 3) (C := 40353607) (by omega) hR.2 (by omega) hB
      have hlr := fun t t0 t1 => lo_r (N := S.2.1 t) (B := S.2.2.2) (E3 t t0 t1).1 B0
      have hnr := fun p t p0 p1 t0 t1 => lo_r (N := S.1 (8 * p + t)) (B := S.2.2.2) (E4 p t p0 p1 t0 t1).1 B0
      have htr := lo_r (N := R * S.2.2.2 - S.2.2.1) (B := S.2.2.2) (by omega) B0
      have fin : ∀ s2 : Mem, (S, H) = eL n m R ls sz 9 (E0 am) 0 → (∀ b j, ¬ b = 392 → ¬ b = 393 → s2 b j = s1 b j) → K 0 s2 := fun s2 er2 f2 => by
        rw [← er2] at q
        refine q s2 (fun p t p0 p1 t0 t1 => ?_) (by rw [f2 _ _ (by omega) (by omega)]; exact hb) (by rw [f2 _ _ (by omega) (by omega)]; exact h4) (fun b j z1 z2 z3 z4 => by rw [f2 b j (by omega) (by omega)]; exact f b j z1 z2 z3 z4)
        have := hT p t p0 p1 t0 t1
        unfold FQ at this ⊢
        rw [f2 _ _ (by omega) (by omega), f2 _ _ (by omega) (by omega)]
        exact this
      refine s_M_eating_44 ⟨fun c => ?_, fun c => fin s1 (by rw [← er, if_neg (fun w => c (htr.2.2.2.mpr (by omega)))]) (fun _ _ _ _ => rfl)⟩
      have c := htr.2.2.2.mp c
      rw [hb]
      refine brT_i rfl (M_eatNow_ok (d := d) (n := n) (m := m) (L := S.2.1) g0 g5 (by rw [f _ _ (by omega) (by omega) (by omega) (by omega)]; exact eN) n7 m8 hL ⟨fun x x0 x1 => by rw [f _ _ (by omega) (by omega) (by omega) (by omega)]; exact hX.1 x x0 x1, fun x i x0 x1 i0 i1 => by rw [f _ _ (by omega) (by omega) (by omega) (by omega)]; exact hX.2 x i x0 x1 i0 i1⟩ (fun t t0 t1 => by rw [(hl t t0 t1).1]; exact (hlr t t0 t1).2.2.2) (fun s2 h9 h10 f2 => ⟨fun c2 => ?_, fun c2 => fin s2 (by rw [← er, if_neg (fun w => c2 w.2)]) f2⟩))
      rw [if_pos ⟨by omega, c2⟩] at er
      have hs := stE_r n7 m8.1 hL hE
      have hE2 := eS_EI n7 m8 hL hE (by omega)
      have hB2 := EI_b (by omega) hE2
      have hcr := fun t => cnt_r (fdE ls sz S.2.1) t n7.1
      have hl2 : ∀ t, 0 ≤ t → t < m → FQ s2 390 391 t (S.2.1 t) S.2.2.2 := fun t t0 t1 => by
        have := hl t t0 t1
        unfold FQ at this ⊢
        rw [f2 _ _ (by omega) (by omega), f2 _ _ (by omega) (by omega)]; exact this
      have hT2 : ∀ p t, 0 ≤ p → p < n → 0 ≤ t → t < m → FQ s2 387 388 (8 * p + t) (S.1 (8 * p + t)) S.2.2.2 := fun p t p0 p1 t0 t1 => by
        have := hT p t p0 p1 t0 t1
        unfold FQ at this ⊢
        rw [f2 _ _ (by omega) (by omega), f2 _ _ (by omega) (by omega)]; exact this
      have hb2 : s2 356 43 = 0 := by rw [f2 _ _ (by omega) (by omega)]; exact hb
      have h42 : s2 356 44 = H := by rw [f2 _ _ (by omega) (by omega)]; exact h4
      have fs2 : ∀ b j, ¬ b = 387 → ¬ b = 388 → ¬ (390 ≤ b ∧ b ≤ 393) → ¬ (b = 356 ∧ (j = 43 ∨ j = 44 ∨ j = 48 ∨ j = 49)) → s2 b j = s b j := fun b j z1 z2 z3 z4 => by rw [f2 b j (by omega) (by omega)]; exact f b j z1 z2 z3 z4
      have ee : eS n m R ls sz S = (fun k => S.1 k * (stE n m R ls sz S).2.2 + (if fdE ls sz S.2.1 (k / 8) = k % 8 then (stE n m R ls sz S).2.1 else 0), fun t => S.2.1 t * (stE n m R ls sz S).2.2 - (stE n m R ls sz S).2.1 * cntE n (fdE ls sz S.2.1) t, S.2.2.1 * (stE n m R ls sz S).2.2 + (stE n m R ls sz S).2.1, S.2.2.2 * (stE n m R ls sz S).2.2) := rfl
      -- which step: the scan
      have l61 : ∀ (w : Nat) (t b x u : Int), 0 ≤ t → t + w = m → (0 ≤ x ∧ x ≤ 363182463) → (1 ≤ u ∧ u ≤ 7) → nx3 S.2.1 (cntE n (fdE ls sz S.2.1)) w t (b, x, u) = stE n m R ls sz S → (∀ s3 : Mem, s3 356 43 = 0 → (∀ b j, ¬ (b = 356 ∧ j = 43) → s3 b j = s2 b j) → AW2 i_M_eating (d + 3) 132 [] [(0, (2, 356)), (1, (0, g)), (2, (1, (R * S.2.2.2 - S.2.2.1) / cm (R * S.2.2.2 - S.2.2.1) S.2.2.2)), (4, (1, S.2.2.2 / cm (R * S.2.2.2 - S.2.2.1) S.2.2.2)), (6, (1, (stE n m R ls sz S).2.1 / cm (stE n m R ls sz S).2.1 ((stE n m R ls sz S).2.2 * S.2.2.2))), (8, (1, ((stE n m R ls sz S).2.2 * S.2.2.2) / cm (stE n m R ls sz S).2.1 ((stE n m R ls sz S).2.2 * S.2.2.2))), (10, (0, 0))] s3 K) → AW2 i_M_eating (d + 3) 61 [] [(0, (2, 356)), (1, (0, g)), (2, (1, (R * S.2.2.2 - S.2.2.1) / cm (R * S.2.2.2 - S.2.2.1) S.2.2.2)), (4, (1, S.2.2.2 / cm (R * S.2.2.2 - S.2.2.1) S.2.2.2)), (6, (1, x / cm x (u * S.2.2.2))), (8, (1, (u * S.2.2.2) / cm x (u * S.2.2.2))), (10, (0, t))] s2 K := by
        intro w
        induction w with
        | zero =>
          intro t b x u t0 e hx hu es next
          have es : (b, x, u) = stE n m R ls sz S := es
          rw [← es] at next
          have huB := mul_b (a := u) (b := S.2.2.2) (A := 7) (C := 40353607) (by omega) hu.2 (by omega) hB
          have huB0 : 0 < u * S.2.2.2 := Int.mul_pos (by omega) B0
          have hxr := lo_r (N := x) (B := u * S.2.2.2) hx.1 huB0
          refine s_M_eating_61 (inb_i g0 (by omega) ?_)
          rw [fs2 358 g (by omega) (by omega) (by omega) (by omega), eM, hb2]
          refine brF_i (by omega) (brT_i rfl (brF_i (by omega) (brF_i (by omega) (next _ (st_self _ _ _ _) (fun b j z => st_ne z)))))
        | succ w ihw =>
          intro t b x u t0 e hx hu es next
          have e1 : nx3 S.2.1 (cntE n (fdE ls sz S.2.1)) (w + 1) t (b, x, u) = nx3 S.2.1 (cntE n (fdE ls sz S.2.1)) w (t + 1) (if 0 < cntE n (fdE ls sz S.2.1) t ∧ S.2.1 t * u < x * cntE n (fdE ls sz S.2.1) t then (t, S.2.1 t, cntE n (fdE ls sz S.2.1) t) else (b, x, u)) := rfl
          rw [e1] at es
          have huB := mul_b (a := u) (b := S.2.2.2) (A := 7) (C := 40353607) (by omega) hu.2 (by omega) hB
          have huB0 : 0 < u * S.2.2.2 := Int.mul_pos (by omega) B0
          have hxr := lo_r (N := x) (B := u * S.2.2.2) hx.1 huB0
          have hv := hl2 t t0 (by omega)
          have hvr := hlr t t0 (by omega)
          have h3 := E3 t t0 (by omega)
          have hc := hcr t
          have hcmp := cmpE (f := cntE n (fdE ls sz S.2.1) t) hvr.2.2.1 hxr.2.2.1 (by omega) (by omega) B0 (show 0 < u by omega)
          refine s_M_eating_61 (inb_i g0 (by omega) ?_)
          rw [fs2 358 g (by omega) (by omega) (by omega) (by omega), eM, h10 t t0 (by omega), hv.1, hv.2, w32_id (x := t + 1) (by omega) (by omega)]
          have m1 := mul_b (a := S.2.1 t / cm (S.2.1 t) S.2.2.2) (b := (u * S.2.2.2) / cm x (u * S.2.2.2)) (A := 363182463) (C := 282475249) hvr.1.1 (by omega) (by omega) (by omega)
          have m2 := mul_b (a := S.2.2.2 / cm (S.2.1 t) S.2.2.2) (b := cntE n (fdE ls sz S.2.1) t) (A := 40353607) (C := 7) (by omega) (by omega) hc.1 (by omega)
          have m3 := mul_b (a := x / cm x (u * S.2.2.2)) (b := S.2.2.2 / cm (S.2.1 t) S.2.2.2 * cntE n (fdE ls sz S.2.1) t) (A := 363182463) (C := 282475249) hxr.1.1 (by omega) m2.1 (by omega)
          rw [w64_id (x := S.2.2.2 / cm (S.2.1 t) S.2.2.2 * cntE n (fdE ls sz S.2.1) t) (by omega) (by omega), w64_id (x := S.2.1 t / cm (S.2.1 t) S.2.2.2 * ((u * S.2.2.2) / cm x (u * S.2.2.2))) (by omega) (by omega), w64_id (x := x / cm x (u * S.2.2.2) * (S.2.2.2 / cm (S.2.1 t) S.2.2.2 * cntE n (fdE ls sz S.2.1) t)) (by omega) (by omega)]
          refine brT_i (by omega) (inb_i t0 (by omega) (inb_i t0 (by omega) (inb_i t0 (by omega) ⟨fun c3 => inb_i t0 (by omega) ⟨fun c4 => inb_i t0 (by omega) ?_, fun c4 => ?_⟩, fun c3 => ?_⟩)))
          · rw [if_pos ⟨c3, hcmp.mp c4⟩] at es
            have y0 : 0 < S.2.2.2 / cm (S.2.1 t) S.2.2.2 * cntE n (fdE ls sz S.2.1) t := Int.mul_pos (by omega) c3
            have eB0 : 0 < cntE n (fdE ls sz S.2.1) t * S.2.2.2 := Int.mul_pos c3 B0
            have hlo := lo_eq (x := S.2.1 t / cm (S.2.1 t) S.2.2.2) (N := S.2.1 t) (B := cntE n (fdE ls sz S.2.1) t * S.2.2.2) y0 eB0 (by
              rw [show S.2.1 t / cm (S.2.1 t) S.2.2.2 * (cntE n (fdE ls sz S.2.1) t * S.2.2.2) = S.2.1 t / cm (S.2.1 t) S.2.2.2 * S.2.2.2 * cntE n (fdE ls sz S.2.1) t by ac_rfl, hvr.2.2.1]; ac_rfl)
            have hcp := cm_pos (S.2.1 t / cm (S.2.1 t) S.2.2.2) (S.2.2.2 / cm (S.2.1 t) S.2.2.2 * cntE n (fdE ls sz S.2.1) t)
            refine M_common_ok (by omega) (by omega) (by omega) (by omega) ?_
            rw [hv.1, divL_nn hvr.1.1 (by omega) (by omega) (by have := cm_le (a := S.2.1 t / cm (S.2.1 t) S.2.2.2) y0; omega), divL_nn (Int.le_of_lt y0) (by omega) (by omega) (by have := cm_le (a := S.2.1 t / cm (S.2.1 t) S.2.2.2) y0; omega), hlo.1, hlo.2]
            exact inb_i t0 (by omega) (nzP_i (by omega) (nzP_i (by omega) (ihw (t + 1) _ _ _ (by omega) (by omega) (by omega) (by omega) es next)))
          · rw [if_neg (fun z => c4 (hcmp.mpr z.2))] at es
            exact ihw (t + 1) _ _ _ (by omega) (by omega) hx hu es next
          · rw [if_neg (fun z => c3 z.1)] at es
            exact ihw (t + 1) _ _ _ (by omega) (by omega) hx hu es next
      have hst := l61 m.toNat 0 (-1) (R * S.2.2.2 - S.2.2.1) 1 (Int.le_refl 0) (by omega) (by omega) (by decide) rfl
      rw [Int.one_mul] at hst
      refine hst (fun s3 hb3 f3 => ?_)
      rw [ee] at er hE2 hB2
      clear l61 hst
      generalize stE n m R ls sz S = Z at *
      obtain ⟨⟨u1, u7⟩, x0, hs2, hs3, hs4⟩ := hs
      have hx : Z.2.1 ≤ 363182463 := by
        rcases hs4 with z | z
        · rw [z]; show R * S.2.2.2 - S.2.2.1 ≤ 363182463; omega
        · have := E3 Z.1 z.1 z.2.1; omega
      have huB := mul_b (a := Z.2.2) (b := S.2.2.2) (A := 7) (C := 40353607) (by omega) u7 (by omega) hB
      have huB0 : 0 < Z.2.2 * S.2.2.2 := Int.mul_pos (by omega) B0
      have hBu0 : 0 < S.2.2.2 * Z.2.2 := Int.mul_pos B0 (by omega)
      have hxr := lo_r (N := Z.2.1) (B := Z.2.2 * S.2.2.2) x0 huB0
      have hB2 : S.2.2.2 * Z.2.2 ≤ 40353607 := hB2
      obtain ⟨F1, F2, F3, F4, F5⟩ := hE2
      dsimp only at F1 F2 F3 F4 F5
      have hl3 : ∀ t, 0 ≤ t → t < m → FQ s3 390 391 t (S.2.1 t) S.2.2.2 := fun t t0 t1 => by
        have := hl2 t t0 t1
        unfold FQ at this ⊢
        rw [f3 _ _ (by omega), f3 _ _ (by omega)]; exact this
      have hT3 : ∀ p t, 0 ≤ p → p < n → 0 ≤ t → t < m → FQ s3 387 388 (8 * p + t) (S.1 (8 * p + t)) S.2.2.2 := fun p t p0 p1 t0 t1 => by
        have := hT2 p t p0 p1 t0 t1
        unfold FQ at this ⊢
        rw [f3 _ _ (by omega), f3 _ _ (by omega)]; exact this
      -- the tops, and the time
      have l178 : ∀ (w : Nat) (p : Int) (s4 : Mem), 0 ≤ p → p + w = n → s4 356 43 = 0 → (∀ t, 0 ≤ t → t < m → FQ s4 390 391 t (S.2.1 t * Z.2.2 - Z.2.1 * cntE n (fdE ls sz S.2.1) t) (S.2.2.2 * Z.2.2)) → (∀ o t, 0 ≤ o → o < n → 0 ≤ t → t < m → (o < p → FQ s4 387 388 (8 * o + t) (S.1 (8 * o + t) * Z.2.2 + (if fdE ls sz S.2.1 o = t then Z.2.1 else 0)) (S.2.2.2 * Z.2.2)) ∧ (p ≤ o → FQ s4 387 388 (8 * o + t) (S.1 (8 * o + t)) S.2.2.2)) → (∀ b j, ¬ b = 387 → ¬ b = 388 → ¬ (390 ≤ b ∧ b ≤ 391) → ¬ (b = 356 ∧ (j = 43 ∨ j = 48 ∨ j = 49)) → s4 b j = s2 b j) → AW2 i_M_eating (d + 3) 178 [] [(0, (2, 356)), (1, (0, g)), (2, (1, (R * S.2.2.2 - S.2.2.1) / cm (R * S.2.2.2 - S.2.2.1) S.2.2.2)), (4, (1, S.2.2.2 / cm (R * S.2.2.2 - S.2.2.1) S.2.2.2)), (6, (1, Z.2.1 / cm Z.2.1 (Z.2.2 * S.2.2.2))), (8, (1, (Z.2.2 * S.2.2.2) / cm Z.2.1 (Z.2.2 * S.2.2.2))), (10, (0, p))] s4 K := by
        intro w
        induction w with
        | zero =>
          intro p s4 p0 e hb4 hl4 hT4 f4
          have ep : p = n := by omega
          rw [ep] at hT4 ⊢
          refine s_M_eating_178 (inb_i g0 (by omega) ?_)
          rw [f4 357 g (by omega) (by omega) (by omega) (by omega), fs2 357 g (by omega) (by omega) (by omega) (by omega), eN, w64_id (x := -(Z.2.1 / cm Z.2.1 (Z.2.2 * S.2.2.2))) (by omega) (by omega)]
          have eT : R * (S.2.2.2 * Z.2.2) - (S.2.2.1 * Z.2.2 + Z.2.1) = (R * S.2.2.2 - S.2.2.1) * Z.2.2 + -Z.2.1 := by
            rw [Int.sub_mul, Int.mul_assoc]; omega
          have g1 := frS (u := Z.2.2) (c := -(Z.2.1 / cm Z.2.1 (Z.2.2 * S.2.2.2))) (M := -Z.2.1) htr.2.2.1 (by rw [Int.neg_mul, hxr.2.2.1, Int.neg_mul])
          rw [← eT] at g1
          have m1 := mul_b (a := (R * S.2.2.2 - S.2.2.1) / cm (R * S.2.2.2 - S.2.2.1) S.2.2.2) (b := (Z.2.2 * S.2.2.2) / cm Z.2.1 (Z.2.2 * S.2.2.2)) (A := 121060821) (C := 282475249) htr.1.1 (by omega) (by omega) (by omega)
          have m2 := mul_b (a := Z.2.1 / cm Z.2.1 (Z.2.2 * S.2.2.2)) (b := S.2.2.2 / cm (R * S.2.2.2 - S.2.2.1) S.2.2.2) (A := 363182463) (C := 40353607) hxr.1.1 (by omega) (by omega) (by omega)
          have m3 := mul_b (a := S.2.2.2 / cm (R * S.2.2.2 - S.2.2.1) S.2.2.2) (b := (Z.2.2 * S.2.2.2) / cm Z.2.1 (Z.2.2 * S.2.2.2)) (A := 40353607) (C := 282475249) (by omega) (by omega) (by omega) (by omega)
          have hRB2 := mul_b (a := R) (b := S.2.2.2 * Z.2.2) (A := 3) (C := 40353607) (by omega) hR.2 (by omega) hB2
          refine brF_i (by omega) (M_adds_ok (d := d) (N := R * (S.2.2.2 * Z.2.2) - (S.2.2.1 * Z.2.2 + Z.2.1)) (B := S.2.2.2 * Z.2.2) (by omega) (by omega) hBu0 (by omega) (by omega) (by omega) g1 (by omega) (by rw [Int.neg_mul]; omega) (by omega) hb4 (fun s5 a1 a2 a3 f5 => ?_))
          rw [a1, a2, show s5 356 44 = H by rw [f5 _ _ (by omega), f4 _ _ (by omega) (by omega) (by omega) (by omega)]; exact h42, w32_id (x := H + 1) (by omega) (by omega)]
          refine ih (i + 1) (_, _, _, _) (H + 1) _ (by omega) ⟨F1, F2, F3, F4, F5⟩ (by omega) (fun o t o0 o1 t0 t1 => ?_) (fun t t0 t1 => ?_) (by rw [st_ne (by omega)]; exact a3) (st_self _ _ _ _) (fun b j z1 z2 z3 z4 => ?_) er
          · have := (hT4 o t o0 o1 t0 t1).1 o1
            unfold FQ at this ⊢
            dsimp only
            rw [show (8 * o + t) / 8 = o by omega, show (8 * o + t) % 8 = t by omega, st_ne (by omega), st_ne (by omega), f5 _ _ (by omega), f5 _ _ (by omega)]
            exact this
          · have := hl4 t t0 t1
            unfold FQ at this ⊢
            rw [st_ne (by omega), st_ne (by omega), f5 _ _ (by omega), f5 _ _ (by omega)]
            exact this
          · rw [st_ne (by omega), f5 b j (by omega), f4 b j z1 z2 (by omega) (by omega)]
            exact fs2 b j z1 z2 z3 z4
        | succ w ihw =>
          intro p s4 p0 e hb4 hl4 hT4 f4
          have hr := fdE_r (L := S.2.1) hL p0 (show p < n by omega)
          refine s_M_eating_178 (inb_i g0 (by omega) ?_)
          rw [f4 357 g (by omega) (by omega) (by omega) (by omega), fs2 357 g (by omega) (by omega) (by omega) (by omega), eN, f4 392 p (by omega) (by omega) (by omega) (by omega), h9 p p0 (by omega), w32_id (x := p + 1) (by omega) (by omega)]
          refine brT_i (by omega) (inb_i p0 (by omega) ?_)
          rcases hr with hr | hr
          · have en : nt (fdE ls sz S.2.1 p) = -2 := by unfold nt; rw [if_pos hr]
            rw [en]
            refine brT_i rfl (ihw (p + 1) s4 (by omega) (by omega) hb4 hl4 (fun o t o0 o1 t0 t1 => ⟨fun z => ?_, fun z => (hT4 o t o0 o1 t0 t1).2 (by omega)⟩) f4)
            by_cases y : o = p
            · have := FQ_mul (u := Z.2.2) (by omega) B0 ((hT4 o t o0 o1 t0 t1).2 (by omega))
              rw [if_neg (by rw [y]; omega), Int.add_zero]
              exact this
            · exact (hT4 o t o0 o1 t0 t1).1 (by omega)
          · have en : nt (fdE ls sz S.2.1 p) = fdE ls sz S.2.1 p := by unfold nt; rw [if_neg (by omega)]
            rw [en]
            have hv := (hT4 p _ p0 (by omega) hr.1 hr.2.1).2 (Int.le_refl p)
            have hvr := hnr p _ p0 (by omega) hr.1 hr.2.1
            have h4v := E4 p _ p0 (by omega) hr.1 hr.2.1
            have F4v := F4 p _ p0 (by omega) hr.1 hr.2.1
            rw [show (8 * p + fdE ls sz S.2.1 p) / 8 = p by omega, show (8 * p + fdE ls sz S.2.1 p) % 8 = fdE ls sz S.2.1 p by omega, if_pos rfl] at F4v
            generalize hfd : fdE ls sz S.2.1 p = v at *
            rw [w32_id (x := 8 * p) (by omega) (by omega), w32_id (x := 8 * p + v) (by omega) (by omega), hv.1, hv.2]
            have g1 := frS (u := Z.2.2) hvr.2.2.1 hxr.2.2.1
            have m1 := mul_b (a := S.1 (8 * p + v) / cm (S.1 (8 * p + v)) S.2.2.2) (b := (Z.2.2 * S.2.2.2) / cm Z.2.1 (Z.2.2 * S.2.2.2)) (A := 121060821) (C := 282475249) hvr.1.1 (by omega) (by omega) (by omega)
            have m2 := mul_b (a := Z.2.1 / cm Z.2.1 (Z.2.2 * S.2.2.2)) (b := S.2.2.2 / cm (S.1 (8 * p + v)) S.2.2.2) (A := 363182463) (C := 40353607) hxr.1.1 (by omega) (by omega) (by omega)
            have m3 := mul_b (a := S.2.2.2 / cm (S.1 (8 * p + v)) S.2.2.2) (b := (Z.2.2 * S.2.2.2) / cm Z.2.1 (Z.2.2 * S.2.2.2)) (A := 40353607) (C := 282475249) (by omega) (by omega) (by omega) (by omega)
            have hRB2 := mul_b (a := R) (b := S.2.2.2 * Z.2.2) (A := 3) (C := 40353607) (by omega) hR.2 (by omega) hB2
            refine brF_i (by omega) (inb_i p0 (by omega) (inb_i (by omega) (by omega) (inb_i (by omega) (by omega) (M_adds_ok (d := d) (N := S.1 (8 * p + v) * Z.2.2 + Z.2.1) (B := S.2.2.2 * Z.2.2) F4v.1 (by omega) hBu0 (by omega) (by omega) (by omega) g1 (by omega) (by omega) (by omega) hb4 (fun s5 a1 a2 a3 f5 => inb_i (by omega) (by omega) (inb_i (by omega) (by omega) ?_))))))
            rw [a1, show ∀ w : Int, st s5 387 (8 * p + v) w 356 49 = s5 356 49 from fun w => st_ne (by omega), a2]
            refine ihw (p + 1) _ (by omega) (by omega) (by rw [st_ne (by omega), st_ne (by omega)]; exact a3) (fun t t0 t1 => ?_) (fun o t o0 o1 t0 t1 => ?_) (fun b j z1 z2 z3 z4 => by rw [st_ne (by omega), st_ne (by omega), f5 b j (by omega)]; exact f4 b j z1 z2 z3 z4)
            · have := hl4 t t0 t1
              unfold FQ at this ⊢
              rw [st_ne (by omega), st_ne (by omega), st_ne (by omega), st_ne (by omega), f5 _ _ (by omega), f5 _ _ (by omega)]
              exact this
            · by_cases y : o = p ∧ t = v
              · obtain ⟨rfl, rfl⟩ := y
                refine ⟨fun z => ?_, fun z => by omega⟩
                rw [hfd, if_pos rfl]
                exact ⟨by rw [st_ne (by omega), st_self], st_self _ _ _ _⟩
              · have keep : ∀ N B, FQ s4 387 388 (8 * o + t) N B → FQ (st (st s5 387 (8 * p + v) ((S.1 (8 * p + v) * Z.2.2 + Z.2.1) / cm (S.1 (8 * p + v) * Z.2.2 + Z.2.1) (S.2.2.2 * Z.2.2))) 388 (8 * p + v) ((S.2.2.2 * Z.2.2) / cm (S.1 (8 * p + v) * Z.2.2 + Z.2.1) (S.2.2.2 * Z.2.2))) 387 388 (8 * o + t) N B := fun N B h => by
                  unfold FQ at h ⊢
                  rw [st_ne (by omega), st_ne (by omega), st_ne (by omega), st_ne (by omega), f5 _ _ (by omega), f5 _ _ (by omega)]
                  exact h
                refine ⟨fun z => keep _ _ ?_, fun z => keep _ _ ((hT4 o t o0 o1 t0 t1).2 (by omega))⟩
                by_cases y2 : o = p
                · have := FQ_mul (u := Z.2.2) (by omega) B0 ((hT4 o t o0 o1 t0 t1).2 (by omega))
                  rw [if_neg (by rw [y2, hfd]; omega), Int.add_zero]
                  exact this
                · exact (hT4 o t o0 o1 t0 t1).1 (by omega)
      -- what is left
      have l132 : ∀ (w : Nat) (t : Int) (s4 : Mem), 0 ≤ t → t + w = m → s4 356 43 = 0 → (∀ v, 0 ≤ v → v < m → (v < t → FQ s4 390 391 v (S.2.1 v * Z.2.2 - Z.2.1 * cntE n (fdE ls sz S.2.1) v) (S.2.2.2 * Z.2.2)) ∧ (t ≤ v → FQ s4 390 391 v (S.2.1 v) S.2.2.2)) → (∀ b j, ¬ (390 ≤ b ∧ b ≤ 391) → ¬ (b = 356 ∧ (j = 43 ∨ j = 48 ∨ j = 49)) → s4 b j = s2 b j) → AW2 i_M_eating (d + 3) 132 [] [(0, (2, 356)), (1, (0, g)), (2, (1, (R * S.2.2.2 - S.2.2.1) / cm (R * S.2.2.2 - S.2.2.1) S.2.2.2)), (4, (1, S.2.2.2 / cm (R * S.2.2.2 - S.2.2.1) S.2.2.2)), (6, (1, Z.2.1 / cm Z.2.1 (Z.2.2 * S.2.2.2))), (8, (1, (Z.2.2 * S.2.2.2) / cm Z.2.1 (Z.2.2 * S.2.2.2))), (10, (0, t))] s4 K := by
        intro w
        induction w with
        | zero =>
          intro t s4 t0 e hb4 hl4 f4
          refine s_M_eating_132 (inb_i g0 (by omega) ?_)
          rw [f4 358 g (by omega) (by omega), fs2 358 g (by omega) (by omega) (by omega) (by omega), eM]
          refine brF_i (by omega) (l178 n.toNat 0 s4 (Int.le_refl 0) (by omega) hb4 (fun v v0 v1 => (hl4 v v0 v1).1 (by omega)) (fun o t o0 o1 t0 t1 => ⟨fun z => by omega, fun z => ?_⟩) (fun b j z1 z2 z3 z4 => f4 b j z3 z4))
          have := hT2 o t o0 o1 t0 t1
          unfold FQ at this ⊢
          rw [f4 _ _ (by omega) (by omega), f4 _ _ (by omega) (by omega)]; exact this
        | succ w ihw =>
          intro t s4 t0 e hb4 hl4 f4
          have hc := hcr t
          refine s_M_eating_132 (inb_i g0 (by omega) ?_)
          rw [f4 358 g (by omega) (by omega), fs2 358 g (by omega) (by omega) (by omega) (by omega), eM, f4 393 t (by omega) (by omega), h10 t t0 (by omega), w32_id (x := t + 1) (by omega) (by omega)]
          refine brT_i (by omega) (inb_i t0 (by omega) ⟨fun c3 => inb_i t0 (by omega) (inb_i t0 (by omega) (inb_i t0 (by omega) ?_)), fun c3 => ?_⟩)
          · have hv := (hl4 t t0 (by omega)).2 (Int.le_refl t)
            have hvr := hlr t t0 (by omega)
            have h3v := E3 t t0 (by omega)
            have F3v := F3 t t0 (by omega)
            have m0 := mul_b (a := Z.2.1 / cm Z.2.1 (Z.2.2 * S.2.2.2)) (b := cntE n (fdE ls sz S.2.1) t) (A := 363182463) (C := 7) hxr.1.1 (by omega) hc.1 (by omega)
            have em : -(Z.2.1 / cm Z.2.1 (Z.2.2 * S.2.2.2)) * cntE n (fdE ls sz S.2.1) t = -(Z.2.1 / cm Z.2.1 (Z.2.2 * S.2.2.2) * cntE n (fdE ls sz S.2.1) t) := Int.neg_mul _ _
            rw [hv.1, hv.2, w64_id (x := -(Z.2.1 / cm Z.2.1 (Z.2.2 * S.2.2.2))) (by omega) (by omega), em, w64_id (x := -(Z.2.1 / cm Z.2.1 (Z.2.2 * S.2.2.2) * cntE n (fdE ls sz S.2.1) t)) (by omega) (by omega)]
            have g1 := frS (u := Z.2.2) (e := (Z.2.2 * S.2.2.2) / cm Z.2.1 (Z.2.2 * S.2.2.2)) (c := -(Z.2.1 / cm Z.2.1 (Z.2.2 * S.2.2.2) * cntE n (fdE ls sz S.2.1) t)) (M := -(Z.2.1 * cntE n (fdE ls sz S.2.1) t)) hvr.2.2.1 (by
              rw [Int.neg_mul, Int.neg_mul, show Z.2.1 / cm Z.2.1 (Z.2.2 * S.2.2.2) * cntE n (fdE ls sz S.2.1) t * (Z.2.2 * S.2.2.2) = Z.2.1 / cm Z.2.1 (Z.2.2 * S.2.2.2) * (Z.2.2 * S.2.2.2) * cntE n (fdE ls sz S.2.1) t by ac_rfl, hxr.2.2.1]
              congr 1; ac_rfl)
            rw [← Int.sub_eq_add_neg] at g1
            have m1 := mul_b (a := S.2.1 t / cm (S.2.1 t) S.2.2.2) (b := (Z.2.2 * S.2.2.2) / cm Z.2.1 (Z.2.2 * S.2.2.2)) (A := 363182463) (C := 282475249) hvr.1.1 (by omega) (by omega) (by omega)
            have m2 := mul_b (a := Z.2.1 / cm Z.2.1 (Z.2.2 * S.2.2.2) * cntE n (fdE ls sz S.2.1) t) (b := S.2.2.2 / cm (S.2.1 t) S.2.2.2) (A := 2542277241) (C := 40353607) m0.1 (by omega) (by omega) (by omega)
            have m3 := mul_b (a := S.2.2.2 / cm (S.2.1 t) S.2.2.2) (b := (Z.2.2 * S.2.2.2) / cm Z.2.1 (Z.2.2 * S.2.2.2)) (A := 40353607) (C := 282475249) (by omega) (by omega) (by omega) (by omega)
            refine M_adds_ok (d := d) (N := S.2.1 t * Z.2.2 - Z.2.1 * cntE n (fdE ls sz S.2.1) t) (B := S.2.2.2 * Z.2.2) F3v.1 (by omega) hBu0 (by omega) (by omega) (by omega) g1 (by omega) (by rw [Int.neg_mul]; omega) (by omega) hb4 (fun s5 a1 a2 a3 f5 => inb_i t0 (by omega) (inb_i t0 (by omega) ?_))
            rw [a1, show ∀ w : Int, st s5 390 t w 356 49 = s5 356 49 from fun w => st_ne (by omega), a2]
            refine ihw (t + 1) _ (by omega) (by omega) (by rw [st_ne (by omega), st_ne (by omega)]; exact a3) (fun v v0 v1 => ?_) (fun b j z3 z4 => by rw [st_ne (by omega), st_ne (by omega), f5 b j (by omega)]; exact f4 b j z3 z4)
            by_cases y : v = t
            · rw [y]
              exact ⟨fun _ => ⟨by rw [st_ne (by omega), st_self], st_self _ _ _ _⟩, fun z => by omega⟩
            · have := hl4 v v0 v1
              unfold FQ at this ⊢
              rw [st_ne (by omega), st_ne (by omega), st_ne (by omega), st_ne (by omega), f5 _ _ (by omega), f5 _ _ (by omega)]
              exact ⟨fun z => this.1 (by omega), fun z => this.2 (by omega)⟩
          · refine ihw (t + 1) s4 (by omega) (by omega) hb4 (fun v v0 v1 => ⟨fun z => ?_, fun z => (hl4 v v0 v1).2 (by omega)⟩) f4
            by_cases y : v = t
            · have := FQ_mul (u := Z.2.2) (by omega) B0 ((hl4 v v0 v1).2 (by omega))
              rw [show cntE n (fdE ls sz S.2.1) v = 0 by rw [y]; omega, Int.mul_zero, Int.sub_zero]
              exact this
            · exact (hl4 v v0 v1).1 (by omega)
      exact l132 m.toNat 0 s3 (Int.le_refl 0) (by omega) hb3 (fun v v0 v1 => ⟨fun z => by omega, fun z => hl3 v v0 v1⟩) (fun b j z1 z2 => f3 b j (by omega))
  have l5 : ∀ (v : Nat) (t : Int) (s1 : Mem), 0 ≤ t → t + v = 8 → s1 356 44 = 0 → (∀ u, 0 ≤ u → u < t → u < m → s1 390 u = am u ∧ s1 391 u = 1) → (∀ b j, ¬ (390 ≤ b ∧ b ≤ 391) → ¬ (b = 356 ∧ j = 44) → s1 b j = s b j) → AW2 i_M_eating (d + 3) 5 [] [(0, (2, 356)), (1, (0, g)), (2, (0, t))] s1 K := by
    intro v
    induction v with
    | zero =>
      intro t s1 t0 e h4 hl f
      have c1 : ∀ x : Int, x / cm x 1 = x ∧ 1 / cm x 1 = 1 := fun x => by
        have h1 := cm_pos x 1
        have h2 := cm_le (a := x) (b := 1) (by decide)
        rw [show cm x 1 = 1 by omega]
        exact ⟨Int.ediv_one x, rfl⟩
      refine s_M_eating_5 (brF_i (by omega) (inb_i g0 (by omega) ?_))
      rw [f 359 g (by omega) (by omega), eR]
      have hh := l44 9 0 (E0 am) 0 s1 rfl (E0_EI m8.1 hR.1 (fun t t0 t1 => (ha t t0 t1).2)) ⟨Int.le_refl 0, Int.le_refl 0⟩ (fun p t p0 p1 t0 t1 => ?_) (fun u u0 u1 => ?_) (by rw [f _ _ (by omega) (by omega)]; exact hb) h4 (fun b j z1 z2 z3 z4 => f b j (by omega) (by omega)) rfl
      · have e1 : R * (E0 am).2.2.2 - (E0 am).2.2.1 = R := by show R * 1 - 0 = R; omega
        have e2 : (E0 am).2.2.2 = 1 := rfl
        rw [e1, e2, (c1 R).1, (c1 R).2] at hh
        exact hh
      · have := hT p t p0 p1 t0 t1
        refine ⟨?_, ?_⟩
        · rw [f _ _ (by omega) (by omega), this.1]
          show (0 : Int) = 0 / cm 0 1
          rw [(c1 0).1]
        · rw [f _ _ (by omega) (by omega), this.2]
          show (1 : Int) = 1 / cm 0 1
          rw [(c1 0).2]
      · have := hl u u0 (by omega) u1
        refine ⟨?_, ?_⟩
        · rw [this.1]
          show am u = am u / cm (am u) 1
          rw [(c1 (am u)).1]
        · rw [this.2]
          show (1 : Int) = 1 / cm (am u) 1
          rw [(c1 (am u)).2]
    | succ v ih =>
      intro t s1 t0 e h4 hl f
      refine s_M_eating_5 (brT_i (by omega) (inb_i g0 (by omega) ?_))
      rw [f 358 g (by omega) (by omega), eM, w32_id (x := 8 * g) (by omega) (by omega), w32_id (x := 8 * g + t) (by omega) (by omega), w32_id (x := t + 1) (by omega) (by omega), f 360 _ (by omega) (by omega)]
      refine ⟨fun c => inb_i (by omega) (by omega) (inb_i t0 (by omega) (inb_i t0 (by omega) ?_)), fun c => inb_i t0 (by omega) (inb_i t0 (by omega) ?_)⟩
      · rw [(ha t t0 c).1]
        refine ih (t + 1) _ (by omega) (by omega) (by rw [st_ne (by omega), st_ne (by omega)]; exact h4) (fun u u0 u1 u2 => ?_) (fun b j z1 z2 => by rw [st_ne (by omega), st_ne (by omega)]; exact f b j z1 z2)
        by_cases y : u = t
        · rw [y]; exact ⟨by rw [st_ne (by omega), st_self], st_self _ _ _ _⟩
        · rw [st_ne (by omega), st_ne (by omega), st_ne (by omega), st_ne (by omega)]; exact hl u u0 (by omega) u2
      · refine ih (t + 1) _ (by omega) (by omega) (by rw [st_ne (by omega), st_ne (by omega)]; exact h4) (fun u u0 u1 u2 => ?_) (fun b j z1 z2 => by rw [st_ne (by omega), st_ne (by omega)]; exact f b j z1 z2)
        rw [st_ne (by omega), st_ne (by omega), st_ne (by omega), st_ne (by omega)]; exact hl u u0 (by omega) u2
  exact e_M_eating fun _ => l5 8 0 _ (Int.le_refl 0) rfl (st_self _ _ _ _) (fun u u0 u1 _ => by omega) (fun b j _ z => st_ne z)
