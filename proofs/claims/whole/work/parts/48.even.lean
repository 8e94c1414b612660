/-- the order that is told as a number -/
def oOf (n q : Int) : Int → Int := fun i => dgt n.toNat q i - 0
def glv (σ : Mem) (g p : Int) : Int → Int := fun t => σ 364 (56 * g + 8 * p + t)
def evP (σ : Mem) (g k p : Int) : Int := pts (dlG σ g (oOf (σ 357 g) (σ 373 k)) false) (glv σ g p) p
theorem ev_row (k : Int) (k0 : 0 ≤ k) (k6 : k < 6) : ptr 334 k = 335 + k ∧ sK (335 + k) = 100 ∧ sN (335 + k) = 7 := by
  rcases (by omega : k = 0 ∨ k = 1 ∨ k = 2 ∨ k = 3 ∨ k = 4 ∨ k = 5) with rfl | rfl | rfl | rfl | rfl | rfl
  all_goals exact ⟨rfl, rfl, rfl⟩
theorem keepPoints_ok {d : Nat} {K : Int → Mem → Prop} {σ : Mem} {g k : Int} {S : RS} (g0 : 0 ≤ g) (g5 : g ≤ 5) (k0 : 0 ≤ k) (k6 : k < 6) (hA : GA σ g) (hB : GB σ g) (hS : HR σ 285 (σ 357 g) (σ 358 g) S) (hP : PI (σ 357 g) (σ 358 g) S) (hg : ∀ p, 0 ≤ p → p < σ 357 g → 0 ≤ S.2.1 p ∧ S.2.1 p ≤ 3) (kk : ∀ s2 : Mem, (∀ p, 0 ≤ p → p < σ 357 g → s2 (335 + k) p = pts S (glv σ g p) p) → (∀ b j, ¬ (b = 335 + k) → s2 b j = σ b j) → K 0 s2) : AM2 i_Evens_keepPoints (d + 2) [(2, 332), (0, k), (2, 4 + 43 * g), (2, 285)] σ K := by
  obtain ⟨r1, r2, r3⟩ := ev_row k k0 k6
  have hn := hA.1
  have go : ∀ (m : Nat) (p : Int) (s : Mem), 0 ≤ p → p + m = σ 357 g → (∀ q, 0 ≤ q → q < p → s (335 + k) q = pts S (glv σ g q) q) → (∀ b j, ¬ (b = 335 + k) → s b j = σ b j) → AW2 i_Evens_keepPoints (d + 2) 2 [] [(0, (2, 332)), (1, (0, k)), (2, (2, 4 + 43 * g)), (3, (2, 285)), (4, (0, p))] s K := by
    intro m
    induction m with
    | zero =>
      intro p s p0 e x f
      refine s_Evens_keepPoints_2 ?_
      rw [f (4 + 43 * g) 1 (by omega), hA.2.1.1]
      (try simp (disch := omega) only [w32_id, w64_id, inb_eq, st_self, st_ne, pt3, ck_g, ck_am, ck_he, ck_sz, ck_ls, ck_lv, ck_pa, ck_kn, sn_am, sn_he, sn_sz, sn_ls, sn_lv, sn_pa, sn_kn, pt_am, pt_he, pt_sz, pt_ls, pt_lv, pt_pa, pt_kn, ck_lr, ck_vr, ck_pr, sn_lr, sn_vr, sn_pr, pt_lr, pt_vr, pt_pr, pt_sh, ck_sh, pt_to, ck_to, sn_to])
      exact ⟨fun z => by omega, fun _ => kk s (fun q a b => x q a (by omega)) f⟩
    | succ m ih =>
      intro p s p0 e x f
      refine s_Evens_keepPoints_2 ?_
      rw [f (4 + 43 * g) 1 (by omega), hA.2.1.1, r1, r3]
      (try simp (disch := omega) only [w32_id, w64_id, inb_eq, st_self, st_ne, pt3, ck_g, ck_am, ck_he, ck_sz, ck_ls, ck_lv, ck_pa, ck_kn, sn_am, sn_he, sn_sz, sn_ls, sn_lv, sn_pa, sn_kn, pt_am, pt_he, pt_sz, pt_ls, pt_lv, pt_pa, pt_kn, ck_lr, ck_vr, ck_pr, sn_lr, sn_vr, sn_pr, pt_lr, pt_vr, pt_pr, pt_sh, ck_sh, pt_to, ck_to, sn_to])
      refine ⟨fun _ => chkK_i rfl (X_pointsOf_ok (lv := glv σ g p) (Or.inr rfl) g0 g5 (by omega) (by omega) (HR_fr (by omega) (fun b j _ _ => f b j (by omega)) hS) hP p0 (by omega) (hg p p0 (by omega)) (fun t t0 t1 => ?_) (chkK_i r2 ?_)), fun z => by omega⟩
      · rw [f _ _ (by omega)]; exact hB.2 p t p0 (by omega) t0 t1
      · refine ih (p + 1) _ (by omega) (by omega) (fun q a b => ?_) (fun b j z => by rw [st_ne (by omega), f b j z])
        by_cases z : q = p
        · rw [z, st_self]
        · rw [st_ne (by omega)]; exact x q a (by omega)
  exact e_Evens_keepPoints fun _ => go (σ 357 g).toNat 0 σ (Int.le_refl 0) (by omega) (fun q a b => by omega) (fun _ _ _ => rfl)
def EvE (σ σ2 : Mem) : Prop := ∀ b j, ¬ b = 304 → ¬ (285 ≤ b ∧ b ≤ 303) → ¬ (335 ≤ b ∧ b ≤ 340) → ¬ (b = 332 ∧ (j = 1 ∨ j = 3 ∨ j = 4)) → ¬ (379 ≤ b ∧ b ≤ 384) → ¬ b = 405 → ¬ (b = 356 ∧ (j = 20 ∨ j = 23 ∨ j = 24)) → σ2 b j = σ b j
theorem call_even {d : Nat} {σ : Mem} {P : Int → Int → Mem → Prop} (hI : I_giv σ) (hE : I_even σ) (h : ∀ r σ2, EvE σ σ2 → I_even σ2 → P r r σ2) :
    AM2 i_X_even (d + 5) [(2, 0)] σ (fun w1 σ1 => AM2 i_M_even (d + 5) [(2, 356)] σ1 (fun w2 σ2 => P w1 w2 σ2)) := by
  have hE2 := hE
  obtain ⟨⟨o1, o2, o3, o4⟩, oI⟩ := hE2
  refine e_X_even ⟨fun c => e_M_even ⟨fun _ => h _ _ (fun _ _ _ _ _ _ _ _ _ => rfl) hE, fun z => by omega⟩, fun c => ?_⟩
  have c0 : 0 < σ 356 20 := by omega
  obtain ⟨p1, p2, p3, p4⟩ := o4 c0
  rw [p1]
  refine Xg hI (fun g0 g5 g1 hA hB hC => br1 ?_) (fun z => absurd ⟨p2, p3⟩ z)
  rw [p1]
  generalize hg : σ 356 21 = g at *
  have hn := hA.1
  rw [pt3 g0 g5]
  refine inb_i g0 g5 ?_
  have hPM : ∀ k, 0 ≤ k → k < σ 356 20 → 0 ≤ σ 373 k ∧ PM (σ 357 g) (oOf (σ 357 g) (σ 373 k)) := fun k a b => isL_PM (by omega) (by omega) (p4 k a b).2
  have hpt : ∀ k p : Int, 0 ≤ k → k < ((σ 356 20).toNat : Int) → 0 ≤ p → p < σ 357 g → 0 ≤ evP σ g k p ∧ evP σ g k p ≤ 27 := fun k p a b u v => by
    have hq := dlG_PI (back := false) hA (hPM k a (by omega)).2
    exact pts_r (m := σ 358 g) (fun i i0 i1 => hq.1.2 p i u v i0 i1) (hq.2 p u v) (fun t t0 t1 => (hB.2 p t u v t0 t1).2)
  have hc : 1 ≤ (σ 356 20).toNat ∧ (σ 356 20).toNat ≤ 6 := by omega
  have hcI : ((σ 356 20).toNat : Int) = σ 356 20 := by omega
  -- the model, from what the class has left
  have mo : ∀ (s : Mem) (r : Int × Int × Int), r = chs (evP σ g) (σ 356 20).toNat (σ 357 g) (shlI 1 ((σ 356 20).toNat : Int) - 1).toNat 1 (0, 0, 1) → (∀ b j, 341 ≤ b → s b j = σ b j) → (∀ s2 : Mem, (∀ b j, ¬ (379 ≤ b ∧ b ≤ 384) → ¬ b = 405 → ¬ (b = 356 ∧ (j = 20 ∨ j = 23 ∨ j = 24)) → s2 b j = s b j) → s2 356 20 = 0 → s2 356 23 = r.2.1 / cm r.2.1 r.2.2 → s2 356 24 = r.2.2 / cm r.2.1 r.2.2 → P r.1 r.1 s2) → AM2 i_M_even (d + 5) [(2, 356)] s (fun w2 σ2 => P r.1 w2 σ2) := by
    intro s r hr f k
    refine e_M_even ⟨fun z => by rw [f _ _ (by omega)] at z; omega, fun _ => ?_⟩
    rw [f 356 21 (by omega), hg]
    have go : ∀ (m : Nat) (i : Int) (s1 : Mem), 0 ≤ i → i + m = σ 356 20 → (∀ b j, ¬ (379 ≤ b ∧ b ≤ 384) → ¬ b = 405 → s1 b j = s b j) → (∀ k p : Int, 0 ≤ k → k < i → 0 ≤ p → p < σ 357 g → s1 405 (7 * k + p) = evP σ g k p) → AW2 i_M_even (d + 5) 10 [] [(0, (2, 356)), (1, (0, g)), (2, (0, i))] s1 (fun w2 σ2 => P r.1 w2 σ2) := by
      intro m
      induction m with
      | zero =>
        intro i s1 i0 e f1 x1
        have e20 : s1 356 20 = σ 356 20 := by rw [f1 _ _ (by omega) (by omega), f _ _ (by omega)]
        have e7 : s1 357 g = σ 357 g := by rw [f1 _ _ (by omega) (by omega), f _ _ (by omega)]
        refine s_M_even_10 ⟨fun z => by omega, fun _ => M_choose_ok (pt := evP σ g) (c := (σ 356 20).toNat) g0 (by omega) hc (by omega) e7 (by omega) (fun k p a b u v => ⟨x1 k p a (by omega) u v, hpt k p a b u v⟩) (fun r' hr' hch => ?_)⟩
        have : r' = r := by rw [hr', hr]
        subst this
        refine k _ (fun b j y1 y2 y3 => ?_) ?_ ?_ ?_
        · rw [st_ne (by omega), st_ne (by omega), st_ne (by omega), f1 b j y1 y2]
        · rw [st_ne (by omega), st_ne (by omega), st_self]
        · rw [st_ne (by omega), st_self]
        · rw [st_self]
      | succ m ih =>
        intro i s1 i0 e f1 x1
        have fa : ∀ b j, 341 ≤ b → ¬ (379 ≤ b ∧ b ≤ 384) → ¬ b = 405 → s1 b j = σ b j := fun b j y1 y2 y3 => by rw [f1 b j y2 y3, f b j y1]
        refine s_M_even_10 ⟨fun _ => inb_i i0 (by omega) ?_, fun z => by rw [fa _ _ (by omega) (by omega) (by omega)] at z; omega⟩
        have e7 : s1 357 g = σ 357 g := fa _ _ (by omega) (by omega) (by omega)
        have e373 : s1 373 i = σ 373 i := fa _ _ (by omega) (by omega) (by omega)
        have hpm := hPM i i0 (by omega)
        rw [e373]
        refine M_isOrder_ok g0 (by omega) (by omega) (by omega) (fun s2 a2 f2 => ?_)
        rw [e7] at a2 f2
        have fb : ∀ b j, 341 ≤ b → ¬ (379 ≤ b ∧ b ≤ 384) → ¬ b = 405 → s2 b j = σ b j := fun b j y1 y2 y3 => by rw [f2 b j (by omega), fa b j y1 y2 y3]
        -- the givings, as the model has them: the class's cells of another memory
        generalize hz : (fun b j => if b < 341 then σ b j else s2 b j : Mem) = z2
        have hLo : LGo (σ 357 g) (σ 358 g) (gls σ g) (gsz σ g) := (GA_L hA).1
        have e72 : s2 357 g = σ 357 g := fb _ _ (by omega) (by omega) (by omega)
        have e82 : s2 358 g = σ 358 g := fb _ _ (by omega) (by omega) (by omega)
        have e92 : s2 359 g = σ 359 g := fb _ _ (by omega) (by omega) (by omega)
        refine M_runs_ok (R := σ 359 g) (am := gam σ g) (o := oOf (σ 357 g) (σ 373 i)) (back := false) g0 (by omega) (n := σ 357 g) (m := σ 358 g) (by omega) (by omega) (by omega) e72 e82 e92 hLo ⟨fun p p0 p1 => fb _ _ (by omega) (by omega) (by omega), fun p i p0 p1 i0 i1 => fb _ _ (by omega) (by omega) (by omega)⟩ (fun t t0 t1 => ⟨fb _ _ (by omega) (by omega) (by omega), (hA.2.2.1 t t0 t1).2⟩) (fun j j0 j1 => by rw [a2 hpm.1 j j0 j1]; unfold oOf; omega) hpm.2 rfl (fun s3 h3 f3 => ?_)
        have fc : ∀ b j, 341 ≤ b → ¬ (379 ≤ b ∧ b ≤ 384) → ¬ b = 405 → s3 b j = σ b j := fun b j y1 y2 y3 => by rw [f3 b j (by omega), fb b j y1 y2 y3]
        have hPI := dlG_PI (back := false) hA hpm.2
        have lp : ∀ (m : Nat) (p : Int) (s4 : Mem), 0 ≤ p → p + m = σ 357 g → (∀ b j, ¬ b = 405 → s4 b j = s3 b j) → (∀ k q : Int, 0 ≤ k → k < i → 0 ≤ q → q < σ 357 g → s4 405 (7 * k + q) = evP σ g k q) → (∀ q, 0 ≤ q → q < p → s4 405 (7 * i + q) = evP σ g i q) → AW2 i_M_even (d + 5) 28 [] [(0, (2, 356)), (1, (0, g)), (2, (0, i)), (3, (0, p))] s4 (fun w2 σ2 => P r.1 w2 σ2) := by
          intro m
          induction m with
          | zero =>
            intro p s4 p0 e4 f4 x4 y4
            have e7 : s4 357 g = σ 357 g := by rw [f4 _ _ (by omega), fc _ _ (by omega) (by omega) (by omega)]
            refine s_M_even_28 (inb_i g0 (by omega) ⟨fun z => by omega, fun _ => ?_⟩)
            rw [w32_id (by omega) (by omega)]
            refine ih (i + 1) s4 (by omega) (by omega) (fun b j y1 y2 => by rw [f4 b j y2, f3 b j (by omega), f2 b j (by omega), f1 b j y1 y2]) (fun k q a b u v => ?_)
            by_cases z : k = i
            · rw [z]; exact y4 q u (by omega)
            · exact x4 k q a (by omega) u v
          | succ m ih2 =>
            intro p s4 p0 e4 f4 x4 y4
            have e7 : s4 357 g = σ 357 g := by rw [f4 _ _ (by omega), fc _ _ (by omega) (by omega) (by omega)]
            have e8 : s4 358 g = σ 358 g := by rw [f4 _ _ (by omega), fc _ _ (by omega) (by omega) (by omega)]
            have hM4 : MR s4 (σ 357 g) (σ 358 g) (dlG σ g (oOf (σ 357 g) (σ 373 i)) false) := ⟨fun t t0 t1 => by rw [f4 _ _ (by omega)]; exact h3.1 t t0 t1, fun p p0 p1 => by rw [f4 _ _ (by omega)]; exact h3.2.1 p p0 p1, fun p i p0 p1 i0 i1 => by rw [f4 _ _ (by omega), f4 _ _ (by omega)]; exact h3.2.2.1 p i p0 p1 i0 i1, fun p t p0 p1 t0 t1 => by rw [f4 _ _ (by omega)]; exact h3.2.2.2 p t p0 p1 t0 t1⟩
            refine s_M_even_28 (inb_i g0 (by omega) ⟨fun _ => M_pointsOf_ok (lv := glv σ g p) g0 (by omega) (n := σ 357 g) (m := σ 358 g) (by omega) (by omega) e8 hM4 hPI.1 p0 (by omega) (hPI.2 p p0 (by omega)) (fun t t0 t1 => ?_) ?_, fun z => by omega⟩)
            · rw [f4 _ _ (by omega), fc _ _ (by omega) (by omega) (by omega)]; exact ⟨rfl, (hB.2 p t p0 (by omega) t0 t1).2⟩
            · (try simp (disch := omega) only [w32_id, w64_id, inb_eq, st_self, st_ne, pt3, ck_g, ck_am, ck_he, ck_sz, ck_ls, ck_lv, ck_pa, ck_kn, sn_am, sn_he, sn_sz, sn_ls, sn_lv, sn_pa, sn_kn, pt_am, pt_he, pt_sz, pt_ls, pt_lv, pt_pa, pt_kn, ck_lr, ck_vr, ck_pr, sn_lr, sn_vr, sn_pr, pt_lr, pt_vr, pt_pr, pt_sh, ck_sh, pt_to, ck_to, sn_to])
              refine ih2 (p + 1) _ (by omega) (by omega) (fun b j z => by rw [st_ne (by omega), f4 b j z]) (fun k q a b u v => by rw [st_ne (by omega)]; exact x4 k q a b u v) (fun q a b => ?_)
              by_cases z : q = p
              · rw [z, st_self]; rfl
              · rw [st_ne (by omega)]; exact y4 q a (by omega)
        refine lp (σ 357 g).toNat 0 s3 (Int.le_refl 0) (by omega) (fun _ _ _ => rfl) (fun k q a b u v => ?_) (fun q a b => by omega)
        rw [f3 _ _ (by omega), f2 _ _ (by omega)]; exact x1 k q a b u v
    exact go (σ 356 20).toNat 0 s (Int.le_refl 0) (by omega) (fun _ _ _ _ => rfl) (fun k p a b u v => by omega)
  -- the class
  have go : ∀ (m : Nat) (i : Int) (s : Mem), 0 ≤ i → i + m = σ 356 20 → (∀ b j, ¬ b = 304 → ¬ (285 ≤ b ∧ b ≤ 303) → ¬ (335 ≤ b ∧ b ≤ 340) → s b j = σ b j) → (∀ k p : Int, 0 ≤ k → k < i → 0 ≤ p → p < σ 357 g → s (335 + k) p = evP σ g k p) → AW2 i_X_even (d + 5) 22 [] [(0, (2, 0)), (1, (2, 4 + 43 * g)), (2, (0, i))] s (fun w1 σ1 => AM2 i_M_even (d + 5) [(2, 356)] σ1 (fun w2 σ2 => P w1 w2 σ2)) := by
    intro m
    induction m with
    | zero =>
      intro i s i0 e f x
      have e1 : s 332 1 = σ 356 20 := by rw [f _ _ (by omega) (by omega) (by omega), o1]
      have e7 : s (4 + 43 * g) 1 = σ 357 g := by rw [f _ _ (by omega) (by omega) (by omega), hA.2.1.1]
      refine s_X_even_22 ⟨fun z => by omega, fun _ => chkK_i (gF g0 (by omega)).1.1 ?_⟩
      rw [e7]
      refine X_choose_ok (pt := evP σ g) (c := (σ 356 20).toNat) hc (by omega) (by omega) (fun k p a b u v => ⟨x k p a (by omega) u v, hpt k p a b u v⟩) (fun r hr hch => ?_)
      obtain ⟨c1, c2, c3⟩ := hch
      have k1 := cm_pos r.2.1 r.2.2
      have k2 := cm_le (a := r.2.1) (b := r.2.2) (by omega)
      have k3 := ediv_le (x := r.2.1) (y := cm r.2.1 r.2.2) (by omega) (by omega)
      have k4 := ediv_le (x := r.2.2) (y := cm r.2.1 r.2.2) (by omega) (by omega)
      have k5 : 1 ≤ r.2.2 / cm r.2.1 r.2.2 := by
        have := Int.le_ediv_of_mul_le (a := 1) (b := r.2.2) (c := cm r.2.1 r.2.2) (by omega) (by omega)
        exact this
      generalize hs1 : st (st (st s 332 3 (r.2.1 / cm r.2.1 r.2.2)) 332 4 (r.2.2 / cm r.2.1 r.2.2)) 332 1 0 = s1
      have f1 : ∀ b j, ¬ (b = 332 ∧ (j = 1 ∨ j = 3 ∨ j = 4)) → s1 b j = s b j := fun b j z => by rw [← hs1, st_ne (by omega), st_ne (by omega), st_ne (by omega)]
      have w1 : s1 332 1 = 0 := by rw [← hs1, st_self]
      have w3 : s1 332 3 = r.2.1 / cm r.2.1 r.2.2 := by rw [← hs1, st_ne (by omega), st_ne (by omega), st_self]
      have w4 : s1 332 4 = r.2.2 / cm r.2.1 r.2.2 := by rw [← hs1, st_ne (by omega), st_self]
      refine mo s1 r hr (fun b j z => by rw [f1 _ _ (by omega), f _ _ (by omega) (by omega) (by omega)]) (fun s2 f2 v1 v2 v3 => ?_)
      refine h _ _ (fun b j y1 y2 y3 y4 y5 y6 y7 => by rw [f2 b j y5 y6 y7, f1 b j y4, f b j y1 y2 y3]) ⟨⟨?_, by omega, by omega, fun z => by omega⟩, Or.inr ⟨?_, ?_, ?_, ?_⟩⟩
      · rw [v1, f2 _ _ (by omega) (by omega) (by omega), w1]
      · rw [f2 _ _ (by omega) (by omega) (by omega), w4]; omega
      · rw [f2 _ _ (by omega) (by omega) (by omega), w3]; omega
      · rw [v2, f2 _ _ (by omega) (by omega) (by omega), w3]
      · rw [v3, f2 _ _ (by omega) (by omega) (by omega), w4]
    | succ m ih =>
      intro i s i0 e f x
      have e1 : s 332 1 = σ 356 20 := by rw [f _ _ (by omega) (by omega) (by omega), o1]
      have e7 : s (4 + 43 * g) 1 = σ 357 g := by rw [f _ _ (by omega) (by omega) (by omega), hA.2.1.1]
      have e333 : s 333 i = σ 373 i := by rw [f _ _ (by omega) (by omega) (by omega)]; exact (p4 i i0 (by omega)).1
      refine s_X_even_22 ⟨fun _ => inb_i i0 (by omega) (chkK_i (gF g0 (by omega)).1.1 ?_), fun z => by omega⟩
      rw [e7, e333]
      refine X_readLine_ok (by omega) (by omega) (Int.le_refl 0) (by decide) rfl (by rw [show sN 304 = 7 from rfl]; omega) (fun s1 hl hx f1 => br1 ?_) (fun s1 hl f1 => by rw [(p4 i i0 (by omega)).2] at hl; cases hl)
      have fa : ∀ b j, ¬ b = 304 → ¬ (285 ≤ b ∧ b ≤ 303) → ¬ (335 ≤ b ∧ b ≤ 340) → s1 b j = σ b j := fun b j y1 y2 y3 => by rw [f1 b j (by omega), f b j y1 y2 y3]
      have hA1 : GA s1 g := GA_fr (fun b j z => fa b j (by unfold fA at z; omega) (by unfold fA at z; omega) (by unfold fA at z; omega)) hA
      have e71 : s1 357 g = σ 357 g := fa _ _ (by omega) (by omega) (by omega)
      have e81 : s1 358 g = σ 358 g := fa _ _ (by omega) (by omega) (by omega)
      have hpm := hPM i i0 (by omega)
      refine X_dealG (o := oOf (σ 357 g) (σ 373 i)) (back := false) (Or.inr rfl) g0 (by omega) hA1 (by rw [e71]; exact hx) (by rw [e71]; exact hpm.2) rfl (fun s2 h2 f2 => ?_)
      rw [e71, e81, dlG_fr (fun b j y z => fa b j (by omega) (by omega) (by omega))] at h2
      have fb : ∀ b j, ¬ b = 304 → ¬ (285 ≤ b ∧ b ≤ 303) → ¬ (335 ≤ b ∧ b ≤ 340) → s2 b j = σ b j := fun b j y1 y2 y3 => by rw [f2 b j (by omega), fa b j y1 y2 y3]
      have e72 : s2 357 g = σ 357 g := fb _ _ (by omega) (by omega) (by omega)
      have e82 : s2 358 g = σ 358 g := fb _ _ (by omega) (by omega) (by omega)
      have hPI := dlG_PI (back := false) hA hpm.2
      have hA2 : GA s2 g := GA_fr (fun b j z => fb b j (by unfold fA at z; omega) (by unfold fA at z; omega) (by unfold fA at z; omega)) hA
      have hB2 : GB s2 g := GB_fr (by omega) (fun b j z => fb b j (by unfold fB at z; omega) (by unfold fB at z; omega) (by unfold fB at z; omega)) hB
      refine keepPoints_ok g0 (by omega) i0 (by omega) hA2 hB2 (by rw [e72, e82]; exact h2) (by rw [e72, e82]; exact hPI.1) (by rw [e72]; exact hPI.2) (fun s3 x3 f3 => ?_)
      rw [e72] at x3
      rw [w32_id (by omega) (by omega)]
      refine ih (i + 1) s3 (by omega) (by omega) (fun b j y1 y2 y3 => by rw [f3 b j (by omega), fb b j y1 y2 y3]) (fun k p a b u v => ?_)
      by_cases z : k = i
      · rw [z, x3 p u v]
        have : glv s2 g p = glv σ g p := funext fun t => fb _ _ (by omega) (by omega) (by omega)
        rw [this]; rfl
      · rw [f3 _ _ (by omega), f2 _ _ (by omega), f1 _ _ (by omega)]; exact x k p a (by omega) u v
  exact go (σ 356 20).toNat 0 σ (Int.le_refl 0) (by omega) (fun _ _ _ _ _ => rfl) (fun k p a b u v => by omega)
theorem call_evenIs {d : Nat} {σ : Mem} {q : Int} {P : Int → Int → Mem → Prop} (hE : I_even σ) (h : ∀ r, P r r σ) :
    AM2 i_X_evenIs (d + 2) [(2, 0), (0, q)] σ (fun w1 σ1 => AM2 i_M_evenIs (d + 2) [(2, 356), (0, q)] σ1 (fun w2 σ2 => P w1 w2 σ2)) := by
  refine e_X_evenIs fun _ => ?_
  rcases hE.2 with ⟨a, b⟩ | ⟨a, b, c, e⟩
  · exact ⟨fun _ => e_M_evenIs fun _ => ⟨fun _ => h _, fun z => by omega⟩, fun z => absurd a z⟩
  · refine ⟨fun z => by omega, fun _ => X_isNoSide_ok (fun y => br0 ⟨fun z => ?_, fun z => ?_⟩) (fun y => br1 ?_)⟩
    · refine e_M_evenIs fun _ => ⟨fun z => by omega, fun _ => M_in_ok (fun _ _ => br1 ⟨fun _ => ?_, fun w => absurd z w⟩) (fun w => absurd ⟨by omega, by omega⟩ w)⟩
      rw [c, l2iI_id (by omega) (by omega)]; exact h _
    · refine e_M_evenIs fun _ => ⟨fun z => by omega, fun _ => M_in_ok (fun _ _ => br1 ⟨fun w => absurd w z, fun _ => ?_⟩) (fun w => absurd ⟨by omega, by omega⟩ w)⟩
      rw [e, l2iI_id (by omega) (by omega)]; exact h _
    · exact e_M_evenIs fun _ => ⟨fun z => by omega, fun _ => M_in_ok (fun u v => by omega) (fun _ => br0 (h _))⟩
