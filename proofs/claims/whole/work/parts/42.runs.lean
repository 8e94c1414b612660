theorem MR_tk {s s2 : Mem} {n m : Int} {S : RS} {k p t : Int} (hn : n ≤ 7) (hm : m ≤ 8) (p0 : 0 ≤ p) (p1 : p < n) (h1 : MR s n m S) (ht : 0 ≤ t ∧ t < m ∧ 0 < S.1 t) (hg : ∀ q, 0 ≤ q → q < n → 0 ≤ S.2.1 q ∧ S.2.1 q ≤ 3) (hp : S.2.1 p ≤ 2)
    (f : ∀ b j, ¬ (b = 381 ∧ j = t) → ¬ (b = 380 ∧ j = 8 * p + t) → ¬ (b = 382 ∧ j = 3 * p + S.2.1 p) → ¬ (b = 383 ∧ j = 3 * p + S.2.1 p) → ¬ (b = 384 ∧ j = p) → s2 b j = s b j)
    (w1 : s2 381 t = S.1 t - 1) (w2 : s2 383 (3 * p + S.2.1 p) = t) (w3 : s2 382 (3 * p + S.2.1 p) = k) (w4 : s2 384 p = S.2.1 p + 1) (w5 : s2 380 (8 * p + t) = hs S p t + 1) : MR s2 n m (tk S k p t) := by
  obtain ⟨a1, a2, a3, a4⟩ := h1
  have hgp := hg p p0 p1
  have hht := fun q u => hs_tk (S := S) (k := k) (p := p) (t := t) (q := q) (u := u) (by omega) hgp.1
  refine ⟨fun u u0 u1 => ?_, fun q q0 q1 => ?_, fun q i q0 q1 i0 i1 => ?_, fun q u q0 q1 u0 u1 => ?_⟩
  · unfold tk; rw [if_neg (by omega)]
    show s2 381 u = up S.1 t (S.1 t - 1) u
    by_cases y : u = t
    · subst y; rw [up_s, w1]
    · rw [up_n y, f _ _ (by omega) (by omega) (by omega) (by omega) (by omega)]; exact a1 u u0 u1
  · unfold tk; rw [if_neg (by omega)]
    show s2 384 q = up S.2.1 p (S.2.1 p + 1) q
    by_cases y : q = p
    · subst y; rw [up_s, w4]
    · rw [up_n y, f _ _ (by omega) (by omega) (by omega) (by omega) (by omega)]; exact a2 q q0 q1
  · unfold tk at i1 ⊢; rw [if_neg (by omega)] at i1 ⊢
    have i1 : i < up S.2.1 p (S.2.1 p + 1) q := i1
    show s2 383 (3 * q + i) = up2 S.2.2.1 p (S.2.1 p) t q i ∧ s2 382 (3 * q + i) = up2 S.2.2.2 p (S.2.1 p) k q i
    have hgq := hg q q0 q1
    by_cases y : q = p ∧ i = S.2.1 p
    · obtain ⟨rfl, rfl⟩ := y; rw [up2_s, up2_s, w2, w3]; exact ⟨rfl, rfl⟩
    · have i2 : i < S.2.1 q := by
        by_cases z : q = p
        · subst z; rw [up_s] at i1; omega
        · rw [up_n z] at i1; exact i1
      rw [up2_n y, up2_n y, f _ _ (by omega) (by omega) (by omega) (by omega) (by omega), f _ _ (by omega) (by omega) (by omega) (by omega) (by omega)]
      exact a3 q i q0 q1 i0 i2
  · rw [hht]
    by_cases y : q = p ∧ u = t
    · obtain ⟨rfl, rfl⟩ := y; rw [if_pos ⟨rfl, rfl⟩, w5]
    · rw [if_neg y, f _ _ (by omega) (by omega) (by omega) (by omega) (by omega)]; exact a4 q u q0 q1 u0 u1
theorem M_runs_ok {d : Nat} {K : Int → Mem → Prop} {σ : Mem} {g n m R bk : Int} {o am : Int → Int} {back : Bool} {ls : Int → Int → Int} {sz : Int → Int} (g0 : 0 ≤ g) (g5 : g ≤ 5) (hn : 1 ≤ n ∧ n ≤ 7) (hm : 1 ≤ m ∧ m ≤ 8) (hR : 1 ≤ R ∧ R ≤ 3) (e1 : σ 357 g = n) (e0 : σ 358 g = m) (e2 : σ 359 g = R) (hL : LGo n m ls sz) (hX : LM σ g n m ls sz) (ha : ∀ t, 0 ≤ t → t < m → σ 360 (8 * g + t) = am t ∧ 1 ≤ am t ∧ am t ≤ 9) (ho : ∀ i, 0 ≤ i → i < n → σ 379 i = o i) (hP : PM n o) (hb : bk = if back = true then 1 else 0)
    (kk : ∀ s2 : Mem, MR s2 n m (dl n R o back am ls sz) → (∀ b j, ¬ (380 ≤ b ∧ b ≤ 384) → s2 b j = σ b j) → K 0 s2) : AM2 i_M_runs (d + 2) [(2, 356), (0, g), (0, bk)] σ K := by
  have inner : ∀ (r : Int), 0 ≤ r → r < R → ∀ (q : Nat) (i : Int) (S : RS) (s : Mem), 0 ≤ i → i + q = n → MR s n m S → PI n m S → GB2 n r i (whoR o n back r) S → (∀ b j, ¬ (380 ≤ b ∧ b ≤ 384) → s b j = σ b j) →
      (∀ s2 : Mem, MR s2 n m (rnd ls sz (whoR o n back r) q i (r * n + i) S) → (∀ b j, ¬ (380 ≤ b ∧ b ≤ 384) → s2 b j = σ b j) → AW2 i_M_runs (d + 2) 55 [] [(0, (2, 356)), (1, (0, g)), (2, (0, bk)), (3, (0, n)), (4, (0, r * n + n))] s2 K) →
      AW2 i_M_runs (d + 2) 55 [] [(0, (2, 356)), (1, (0, g)), (2, (0, bk)), (3, (0, n)), (4, (0, r * n + i))] s K := by
    intro r r0 r1 q
    induction q with
    | zero =>
      intro i S s i0 e hS hPI hG f cont
      have := cont s hS f
      rw [show n = i by omega] at this ⊢
      exact this
    | succ q ih =>
      intro i S s i0 e hS hPI hG f cont
      have hw := whoR_PM (back := back) (r := r) hP i i0 (by omega)
      have hgo := hG.1 (whoR o n back r i) hw.1.1 hw.1.2
      have hgo2 := hG.2 i (Int.le_refl i) (by omega)
      have hXs : LM s g n m ls sz := ⟨fun p p0 p1 => by rw [f _ _ (by omega)]; exact hX.1 p p0 p1, fun p i p0 p1 i0 i1 => by rw [f _ _ (by omega)]; exact hX.2 p i p0 p1 i0 i1⟩
      have hq0 := Int.mul_nonneg r0 (show 0 ≤ n by omega)
      have hle := lex_le (n := n) (by omega) r1
      have hRn := Int.mul_le_mul hR.2 hn.2 (show 0 ≤ n by omega) (by decide)
      have hdm := lex_dm (n := n) (p := r) i0 (show i < n by omega)
      have step : ∀ p, p = whoR o n back r i → AM2 i_M_firstLeft (d + 1) [(2, 356), (0, g), (0, p)] s (fun w1 σ1 => (w1 = (-2) → AW2 i_M_runs (d + 2) 151 [] [(0, (2, 356)), (1, (0, g)), (2, (0, bk)), (3, (0, n)), (4, (0, r * n + i))] σ1 K) ∧ (¬ w1 = (-2) → inb w1 8 (inb w1 8 (inb (w32 ((w32 (8 * p)) + w1)) 56 (inb (w32 ((w32 (8 * p)) + w1)) 56 (inb p 7 (inb (w32 ((w32 (3 * p)) + ((st (st σ1 381 w1 (w32 ((σ1 381 w1) - 1))) 380 (w32 ((w32 (8 * p)) + w1)) (w32 (((st σ1 381 w1 (w32 ((σ1 381 w1) - 1))) 380 (w32 ((w32 (8 * p)) + w1))) + 1))) 384 p))) 21 (inb p 7 (inb (w32 ((w32 (3 * p)) + ((st (st (st σ1 381 w1 (w32 ((σ1 381 w1) - 1))) 380 (w32 ((w32 (8 * p)) + w1)) (w32 (((st σ1 381 w1 (w32 ((σ1 381 w1) - 1))) 380 (w32 ((w32 (8 * p)) + w1))) + 1))) 382 (w32 ((w32 (3 * p)) + ((st (st σ1 381 w1 (w32 ((σ1 381 w1) - 1))) 380 (w32 ((w32 (8 * p)) + w1)) (w32 (((st σ1 381 w1 (w32 ((σ1 381 w1) - 1))) 380 (w32 ((w32 (8 * p)) + w1))) + 1))) 384 p))) (r * n + i)) 384 p))) 21 (inb p 7 (inb p 7 (AW2 i_M_runs (d + 2) 151 [] [(0, (2, 356)), (1, (0, g)), (2, (0, bk)), (3, (0, n)), (4, (0, r * n + i))] (st (st (st (st (st σ1 381 w1 (w32 ((σ1 381 w1) - 1))) 380 (w32 ((w32 (8 * p)) + w1)) (w32 (((st σ1 381 w1 (w32 ((σ1 381 w1) - 1))) 380 (w32 ((w32 (8 * p)) + w1))) + 1))) 382 (w32 ((w32 (3 * p)) + ((st (st σ1 381 w1 (w32 ((σ1 381 w1) - 1))) 380 (w32 ((w32 (8 * p)) + w1)) (w32 (((st σ1 381 w1 (w32 ((σ1 381 w1) - 1))) 380 (w32 ((w32 (8 * p)) + w1))) + 1))) 384 p))) (r * n + i)) 383 (w32 ((w32 (3 * p)) + ((st (st (st σ1 381 w1 (w32 ((σ1 381 w1) - 1))) 380 (w32 ((w32 (8 * p)) + w1)) (w32 (((st σ1 381 w1 (w32 ((σ1 381 w1) - 1))) 380 (w32 ((w32 (8 * p)) + w1))) + 1))) 382 (w32 ((w32 (3 * p)) + ((st (st σ1 381 w1 (w32 ((σ1 381 w1) - 1))) 380 (w32 ((w32 (8 * p)) + w1)) (w32 (((st σ1 381 w1 (w32 ((σ1 381 w1) - 1))) 380 (w32 ((w32 (8 * p)) + w1))) + 1))) 384 p))) (r * n + i)) 384 p))) w1) 384 p (w32 (((st (st (st (st σ1 381 w1 (w32 ((σ1 381 w1) - 1))) 380 (w32 ((w32 (8 * p)) + w1)) (w32 (((st σ1 381 w1 (w32 ((σ1 381 w1) - 1))) 380 (w32 ((w32 (8 * p)) + w1))) + 1))) 382 (w32 ((w32 (3 * p)) + ((st (st σ1 381 w1 (w32 ((σ1 381 w1) - 1))) 380 (w32 ((w32 (8 * p)) + w1)) (w32 (((st σ1 381 w1 (w32 ((σ1 381 w1) - 1))) 380 (w32 ((w32 (8 * p)) + w1))) + 1))) 384 p))) (r * n + i)) 383 (w32 ((w32 (3 * p)) + ((st (st (st σ1 381 w1 (w32 ((σ1 381 w1) - 1))) 380 (w32 ((w32 (8 * p)) + w1)) (w32 (((st σ1 381 w1 (w32 ((σ1 381 w1) - 1))) 380 (w32 ((w32 (8 * p)) + w1))) + 1))) 382 (w32 ((w32 (3 * p)) + ((st (st σ1 381 w1 (w32 ((σ1 381 w1) - 1))) 380 (w32 ((w32 (8 * p)) + w1)) (w32 (((st σ1 381 w1 (w32 ((σ1 381 w1) - 1))) 380 (w32 ((w32 (8 * p)) + w1))) + 1))) 384 p))) (r * n + i)) 384 p))) w1) 384 p) + 1))) K)))))))))))) := by
        intro p hp
        rw [← hp] at hw hgo hgo2
        refine M_firstLeft_ok g0 g5 hn.2 hm.2 hL hXs hS.1 hw.1.1 hw.1.2 ?_
        have hr := frs_r (S := S) hL hw.1.1 hw.1.2
        have ktr : trn ls sz S (r * n + i) p = tk S (r * n + i) p (frs ls sz S p) := rfl
        have fin : ∀ s2 : Mem, MR s2 n m (tk S (r * n + i) p (frs ls sz S p)) → (∀ b j, ¬ (380 ≤ b ∧ b ≤ 384) → s2 b j = σ b j) → AW2 i_M_runs (d + 2) 151 [] [(0, (2, 356)), (1, (0, g)), (2, (0, bk)), (3, (0, n)), (4, (0, r * n + i))] s2 K := by
          intro s2 h1 h2
          refine s_M_runs_151 ?_
          rw [w32_id (by omega) (by omega)]
          have := ih (i + 1) (tk S (r * n + i) p (frs ls sz S p)) s2 (by omega) (by omega) h1 (tk_PI hPI hr) (by rw [hp]; exact tk_got (whoR_PM hP) i0 (by omega) hG) h2 (fun s3 h3 h4 => cont s3 (by
            rw [show r * n + (i + 1) = r * n + i + 1 by omega, hp] at h3; exact h3) h4)
          rw [show r * n + (i + 1) = r * n + i + 1 by omega] at this
          exact this
        generalize frs ls sz S p = t at *
        unfold nt
        by_cases c : t = -1
        · rw [if_pos c]
          refine ⟨fun _ => fin s ?_ f, fun z => absurd rfl z⟩
          unfold tk; rw [if_pos c]; exact hS
        · rw [if_neg c]
          obtain ⟨t0, t1, t2⟩ := hr.resolve_left c
          refine ⟨fun z => by omega, fun _ => ?_⟩
          have h1 := hS.1 t t0 t1
          have h2 := hS.2.1 p hw.1.1 hw.1.2
          have h4 := hS.2.2.2 p t hw.1.1 hw.1.2 t0 (by omega)
          have hp9 := hPI.1 t t0 t1
          have hhr := hs_r (S := S) (p := p) (t := t) hgo.1
          rw [w32_id (x := 8 * p) (by omega) (by omega), w32_id (x := 8 * p + t) (by omega) (by omega), w32_id (x := 3 * p) (by omega) (by omega), h1]
          (try simp (disch := omega) only [w32_id, w64_id, inb_eq, st_self, st_ne, pt3, ck_g, ck_am, ck_he, ck_sz, ck_ls, ck_lv, ck_pa, ck_kn, sn_am, sn_he, sn_sz, sn_ls, sn_lv, sn_pa, sn_kn, pt_am, pt_he, pt_sz, pt_ls, pt_lv, pt_pa, pt_kn, ck_lr, ck_vr, ck_pr, sn_lr, sn_vr, sn_pr, pt_lr, pt_vr, pt_pr, pt_sh, ck_sh, pt_to, ck_to, sn_to, h2, h4])
          refine fin _ (MR_tk hn.2 hm.2 hw.1.1 hw.1.2 hS ⟨t0, t1, t2⟩ (fun q q0 q1 => by have := hG.1 q q0 q1; omega) (by omega) (fun b j c1 c2 c3 c4 c5 => ?_) ?_ ?_ ?_ ?_ ?_) (fun b j z => ?_)
          · rw [st_ne c5, st_ne c4, st_ne c3, st_ne c2, st_ne c1]
          · (try simp (disch := omega) only [w32_id, w64_id, inb_eq, st_self, st_ne, pt3, ck_g, ck_am, ck_he, ck_sz, ck_ls, ck_lv, ck_pa, ck_kn, sn_am, sn_he, sn_sz, sn_ls, sn_lv, sn_pa, sn_kn, pt_am, pt_he, pt_sz, pt_ls, pt_lv, pt_pa, pt_kn, ck_lr, ck_vr, ck_pr, sn_lr, sn_vr, sn_pr, pt_lr, pt_vr, pt_pr, pt_sh, ck_sh, pt_to, ck_to, sn_to])
          · (try simp (disch := omega) only [w32_id, w64_id, inb_eq, st_self, st_ne, pt3, ck_g, ck_am, ck_he, ck_sz, ck_ls, ck_lv, ck_pa, ck_kn, sn_am, sn_he, sn_sz, sn_ls, sn_lv, sn_pa, sn_kn, pt_am, pt_he, pt_sz, pt_ls, pt_lv, pt_pa, pt_kn, ck_lr, ck_vr, ck_pr, sn_lr, sn_vr, sn_pr, pt_lr, pt_vr, pt_pr, pt_sh, ck_sh, pt_to, ck_to, sn_to])
          · (try simp (disch := omega) only [w32_id, w64_id, inb_eq, st_self, st_ne, pt3, ck_g, ck_am, ck_he, ck_sz, ck_ls, ck_lv, ck_pa, ck_kn, sn_am, sn_he, sn_sz, sn_ls, sn_lv, sn_pa, sn_kn, pt_am, pt_he, pt_sz, pt_ls, pt_lv, pt_pa, pt_kn, ck_lr, ck_vr, ck_pr, sn_lr, sn_vr, sn_pr, pt_lr, pt_vr, pt_pr, pt_sh, ck_sh, pt_to, ck_to, sn_to])
          · (try simp (disch := omega) only [w32_id, w64_id, inb_eq, st_self, st_ne, pt3, ck_g, ck_am, ck_he, ck_sz, ck_ls, ck_lv, ck_pa, ck_kn, sn_am, sn_he, sn_sz, sn_ls, sn_lv, sn_pa, sn_kn, pt_am, pt_he, pt_sz, pt_ls, pt_lv, pt_pa, pt_kn, ck_lr, ck_vr, ck_pr, sn_lr, sn_vr, sn_pr, pt_lr, pt_vr, pt_pr, pt_sh, ck_sh, pt_to, ck_to, sn_to])
          · (try simp (disch := omega) only [w32_id, w64_id, inb_eq, st_self, st_ne, pt3, ck_g, ck_am, ck_he, ck_sz, ck_ls, ck_lv, ck_pa, ck_kn, sn_am, sn_he, sn_sz, sn_ls, sn_lv, sn_pa, sn_kn, pt_am, pt_he, pt_sz, pt_ls, pt_lv, pt_pa, pt_kn, ck_lr, ck_vr, ck_pr, sn_lr, sn_vr, sn_pr, pt_lr, pt_vr, pt_pr, pt_sh, ck_sh, pt_to, ck_to, sn_to])
          · rw [st_ne (by omega), st_ne (by omega), st_ne (by omega), st_ne (by omega), st_ne (by omega), f b j z]
      have at73 : ∀ v, (v = if back = true ∧ r = 1 then 1 else 0) → AW2 i_M_runs (d + 2) 73 [(0, v)] [(0, (2, 356)), (1, (0, g)), (2, (0, bk)), (3, (0, n)), (4, (0, r * n + i))] s K := by
        intro v hv
        refine s_M_runs_73 ?_
        rw [remI_nn (by omega) (by omega) (by omega) (by omega), hdm.2, w32_id (x := n - 1) (by omega) (by omega), w32_id (x := n - 1 - i) (by omega) (by omega)]
        refine ⟨fun c => nzP_i (by omega) (s_M_runs_89 (chkK_i rfl (inb_i i0 (by rw [show sN 379 = 7 from rfl]; omega) ?_))), fun c => nzP_i (by omega) (s_M_runs_89 (chkK_i rfl (inb_i (by omega) (by rw [show sN 379 = 7 from rfl]; omega) ?_)))⟩
        · refine step _ ?_
          rw [f 379 _ (by omega), ho _ (by omega) (by omega)]
          unfold whoR
          by_cases z : back = true ∧ r = 1
          · rw [if_pos z] at hv; omega
          · rw [if_neg z]
        · refine step _ ?_
          rw [f 379 _ (by omega), ho _ (by omega) (by omega)]
          unfold whoR
          by_cases z : back = true ∧ r = 1
          · rw [if_pos z]
          · rw [if_neg z] at hv; omega
      refine s_M_runs_55 (inb_i g0 (by omega) ?_)
      rw [f 359 _ (by omega), e2, w32_id (x := R * n) (by omega) (by omega), divI_nn (by omega) (by omega) (by omega) (by omega), hdm.1]
      refine ⟨fun _ => ⟨fun c => s_M_runs_72 (at73 0 ?_), fun c => nzP_i (by omega) ⟨fun c2 => at73 1 ?_, fun c2 => s_M_runs_72 (at73 0 ?_)⟩⟩, fun z => by omega⟩
      · rw [if_neg]; intro z; rw [if_pos z.1] at hb; omega
      · rw [if_pos]
        refine ⟨?_, by omega⟩
        by_cases z : back = true
        · exact z
        · rw [if_neg z] at hb; exact absurd hb c
      · rw [if_neg]; intro z; omega
  have outer : ∀ (q : Nat) (r : Int) (S : RS) (s : Mem), 0 ≤ r → r + q = R → MR s n m S → PI n m S → (∀ p, 0 ≤ p → p < n → 0 ≤ S.2.1 p ∧ S.2.1 p ≤ r) → (∀ b j, ¬ (380 ≤ b ∧ b ≤ 384) → s b j = σ b j) →
      (∀ s2 : Mem, MR s2 n m (rns ls sz o n back q r (r * n) S) → (∀ b j, ¬ (380 ≤ b ∧ b ≤ 384) → s2 b j = σ b j) → K 0 s2) →
      AW2 i_M_runs (d + 2) 55 [] [(0, (2, 356)), (1, (0, g)), (2, (0, bk)), (3, (0, n)), (4, (0, r * n))] s K := by
    intro q
    induction q with
    | zero =>
      intro r S s r0 e hS hPI hG f cont
      have hRn := Int.mul_le_mul hR.2 hn.2 (show 0 ≤ n by omega) (by decide)
      have hR0 := Int.mul_nonneg (show 0 ≤ R by omega) (show 0 ≤ n by omega)
      refine s_M_runs_55 (inb_i g0 (by omega) ?_)
      rw [f 359 _ (by omega), e2, w32_id (x := R * n) (by omega) (by omega), show r = R by omega]
      exact ⟨fun c => by omega, fun _ => by rw [show r = R by omega] at cont; exact cont s hS f⟩
    | succ q ih =>
      intro r S s r0 e hS hPI hG f cont
      have hG2 := GB2_0 (whoR_PM (back := back) (r := r) hP) hG
      have := inner r r0 (by omega) n.toNat 0 S s (Int.le_refl 0) (by omega) hS hPI hG2 f (fun s2 h1 h2 => by
        rw [show r * n + 0 = r * n by omega] at h1
        have h3 := rnd_PI (r := r) (k := r * n) (S := S) hL (whoR_PM (r := r) (back := back) hP) n.toNat 0 (Int.le_refl 0) (by omega) hPI hG2
        have e4 : (r + 1) * n = r * n + n := by rw [Int.add_mul, Int.one_mul]
        have h5 := ih (r + 1) _ s2 (by omega) (by omega) h1 h3.1 h3.2 h2 (fun s3 h3 h4 => cont s3 (by rw [e4] at h3; exact h3) h4)
        rw [e4] at h5
        exact h5)
      rw [show r * n + 0 = r * n by omega] at this
      exact this
  have l43 : ∀ (q : Nat) (i : Int) (s : Mem), 0 ≤ i → i + q = n → (∀ b j, ¬ (b = 384 ∧ i ≤ j ∧ j < n) → ∀ s0 : Mem, s = s0 → True) → (∀ s2 : Mem, (∀ p, i ≤ p → p < n → s2 384 p = 0) → (∀ b j, ¬ (b = 384 ∧ i ≤ j ∧ j < n) → s2 b j = s b j) → AW2 i_M_runs (d + 2) 55 [] [(0, (2, 356)), (1, (0, g)), (2, (0, bk)), (3, (0, n)), (4, (0, 0))] s2 K) → AW2 i_M_runs (d + 2) 43 [] [(0, (2, 356)), (1, (0, g)), (2, (0, bk)), (3, (0, n)), (4, (0, i))] s K := by
    intro q
    induction q with
    | zero => intro i s i0 e _ c; exact s_M_runs_43 ⟨fun z => by omega, fun _ => c s (fun p _ _ => by omega) (fun _ _ _ => rfl)⟩
    | succ q ih =>
      intro i s i0 e _ c
      refine s_M_runs_43 ⟨fun _ => inb_i i0 (by omega) ?_, fun z => by omega⟩
      rw [w32_id (by omega) (by omega)]
      refine ih (i + 1) _ (by omega) (by omega) (fun _ _ _ _ _ => trivial) (fun s2 x1 x2 => c s2 (fun p p0 p1 => ?_) (fun b j z => ?_))
      · by_cases y : p = i
        · subst y; rw [x2 _ _ (by omega), st_self]
        · exact x1 p (by omega) p1
      · rw [x2 b j (by omega), st_ne (by omega)]
  have l29 : ∀ (q : Nat) (i : Int) (s : Mem), 0 ≤ i → i + q = 8 * n → (∀ s2 : Mem, (∀ p, i ≤ p → p < 8 * n → s2 380 p = 0) → (∀ b j, ¬ (b = 380 ∧ i ≤ j ∧ j < 8 * n) → s2 b j = s b j) → AW2 i_M_runs (d + 2) 43 [] [(0, (2, 356)), (1, (0, g)), (2, (0, bk)), (3, (0, n)), (4, (0, 0))] s2 K) → AW2 i_M_runs (d + 2) 29 [] [(0, (2, 356)), (1, (0, g)), (2, (0, bk)), (3, (0, n)), (4, (0, i))] s K := by
    intro q
    induction q with
    | zero => intro i s i0 e c; refine s_M_runs_29 ?_; (try simp (disch := omega) only [w32_id, w64_id, inb_eq, st_self, st_ne, pt3, ck_g, ck_am, ck_he, ck_sz, ck_ls, ck_lv, ck_pa, ck_kn, sn_am, sn_he, sn_sz, sn_ls, sn_lv, sn_pa, sn_kn, pt_am, pt_he, pt_sz, pt_ls, pt_lv, pt_pa, pt_kn, ck_lr, ck_vr, ck_pr, sn_lr, sn_vr, sn_pr, pt_lr, pt_vr, pt_pr, pt_sh, ck_sh, pt_to, ck_to, sn_to]); exact ⟨fun z => by omega, fun _ => c s (fun p _ _ => by omega) (fun _ _ _ => rfl)⟩
    | succ q ih =>
      intro i s i0 e c
      refine s_M_runs_29 ?_
      (try simp (disch := omega) only [w32_id, w64_id, inb_eq, st_self, st_ne, pt3, ck_g, ck_am, ck_he, ck_sz, ck_ls, ck_lv, ck_pa, ck_kn, sn_am, sn_he, sn_sz, sn_ls, sn_lv, sn_pa, sn_kn, pt_am, pt_he, pt_sz, pt_ls, pt_lv, pt_pa, pt_kn, ck_lr, ck_vr, ck_pr, sn_lr, sn_vr, sn_pr, pt_lr, pt_vr, pt_pr, pt_sh, ck_sh, pt_to, ck_to, sn_to])
      refine ⟨fun _ => ?_, fun z => by omega⟩
      refine ih (i + 1) _ (by omega) (by omega) (fun s2 x1 x2 => c s2 (fun p p0 p1 => ?_) (fun b j z => ?_))
      · by_cases y : p = i
        · subst y; rw [x2 _ _ (by omega), st_self]
        · exact x1 p (by omega) p1
      · rw [x2 b j (by omega), st_ne (by omega)]
  have l7 : ∀ (q : Nat) (i : Int) (s : Mem), 0 ≤ i → i + q = m → (∀ b j, ¬ (380 ≤ b ∧ b ≤ 384) → s b j = σ b j) → (∀ s2 : Mem, (∀ t, i ≤ t → t < m → s2 381 t = am t) → (∀ b j, ¬ (b = 381 ∧ i ≤ j ∧ j < m) → s2 b j = s b j) → AW2 i_M_runs (d + 2) 29 [] [(0, (2, 356)), (1, (0, g)), (2, (0, bk)), (3, (0, n)), (4, (0, 0))] s2 K) → AW2 i_M_runs (d + 2) 7 [] [(0, (2, 356)), (1, (0, g)), (2, (0, bk)), (3, (0, n)), (4, (0, i))] s K := by
    intro q
    induction q with
    | zero =>
      intro i s i0 e f c
      refine s_M_runs_7 (inb_i g0 (by omega) ?_)
      rw [f 358 _ (by omega), e0]
      exact ⟨fun z => by omega, fun _ => c s (fun p _ _ => by omega) (fun _ _ _ => rfl)⟩
    | succ q ih =>
      intro i s i0 e f c
      have hai := ha i i0 (by omega)
      refine s_M_runs_7 (inb_i g0 (by omega) ?_)
      rw [f 358 _ (by omega), e0]
      (try simp (disch := omega) only [w32_id, w64_id, inb_eq, st_self, st_ne, pt3, ck_g, ck_am, ck_he, ck_sz, ck_ls, ck_lv, ck_pa, ck_kn, sn_am, sn_he, sn_sz, sn_ls, sn_lv, sn_pa, sn_kn, pt_am, pt_he, pt_sz, pt_ls, pt_lv, pt_pa, pt_kn, ck_lr, ck_vr, ck_pr, sn_lr, sn_vr, sn_pr, pt_lr, pt_vr, pt_pr, pt_sh, ck_sh, pt_to, ck_to, sn_to])
      rw [f 360 _ (by omega), hai.1]
      refine ⟨fun _ => ?_, fun z => by omega⟩
      refine ih (i + 1) _ (by omega) (by omega) (fun b j z => by rw [st_ne (by omega), f b j z]) (fun s2 x1 x2 => c s2 (fun p p0 p1 => ?_) (fun b j z => ?_))
      · by_cases y : p = i
        · subst y; rw [x2 _ _ (by omega), st_self]
        · exact x1 p (by omega) p1
      · rw [x2 b j (by omega), st_ne (by omega)]
  refine e_M_runs fun _ _ => inb_i g0 (by omega) ?_
  rw [e1]
  refine l7 m.toNat 0 σ (Int.le_refl 0) (by omega) (fun _ _ _ => rfl) (fun s1 a1 f1 => l29 (8 * n).toNat 0 s1 (Int.le_refl 0) (by omega) (fun s2 a2 f2 => l43 n.toNat 0 s2 (Int.le_refl 0) (by omega) (fun _ _ _ _ _ => trivial) (fun s3 a3 f3 => ?_)))
  have ff : ∀ b j, ¬ (380 ≤ b ∧ b ≤ 384) → s3 b j = σ b j := fun b j z => by rw [f3 b j (by omega), f2 b j (by omega), f1 b j (by omega)]
  have := outer R.toNat 0 (S0 am) s3 (Int.le_refl 0) (by omega) ⟨fun t t0 t1 => ?_, fun p p0 p1 => a3 p p0 p1, fun p i _ _ i0 i1 => by have i1 : i < 0 := i1; omega, fun p t p0 p1 t0 t1 => ?_⟩ ⟨fun t t0 t1 => by have := ha t t0 t1; show 0 ≤ am t ∧ am t ≤ 9; omega, fun p i _ _ i0 i1 => by have i1 : i < 0 := i1; omega⟩ (fun p _ _ => ⟨Int.le_refl 0, Int.le_refl 0⟩) ff (fun s4 h4 f4 => kk s4 (by rw [show (0 : Int) * n = 0 by omega] at h4; exact h4) f4)
  · rw [show (0 : Int) * n = 0 by omega] at this
    exact this
  · rw [f3 _ _ (by omega), f2 _ _ (by omega), a1 t t0 t1]; rfl
  · rw [f3 _ _ (by omega), a2 _ (by omega) (by omega)]; rfl
