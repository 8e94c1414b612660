-- ===== rings: the model
theorem M_levelIn_ok {d : Nat} {K : Int → Mem → Prop} {s : Mem} {g p t : Int} (eg : s 356 14 = g) (g0 : 0 ≤ g) (g5 : g ≤ 5) (p0 : 0 ≤ p) (p1 : p < 7) (t0 : 0 ≤ t) (t1 : t < 8) (k : K (s 364 (56 * g + 8 * p + t)) s) : AM2 i_M_levelIn (d + 1) [(2, 356), (0, p), (0, t)] s K := by
  refine e_M_levelIn fun _ _ => ?_
  rw [eg]
  (try simp (disch := omega) only [w32_id, w64_id, inb_eq, st_self, st_ne, pt3, ck_g, ck_am, ck_he, ck_sz, ck_ls, ck_lv, ck_pa, ck_kn, sn_am, sn_he, sn_sz, sn_ls, sn_lv, sn_pa, sn_kn, pt_am, pt_he, pt_sz, pt_ls, pt_lv, pt_pa, pt_kn, ck_lr, ck_vr, ck_pr, sn_lr, sn_vr, sn_pr, pt_lr, pt_vr, pt_pr, pt_sh, ck_sh, pt_to, ck_to, sn_to])
  exact k
theorem M_wishes_ok {d : Nat} {K : Int → Mem → Prop} {s : Mem} {g N m p t u : Int} {lv : Int → Int → Int} (eg : s 356 14 = g) (g0 : 0 ≤ g) (g5 : g ≤ 5) (hN : N ≤ 7) (hm : m ≤ 8) (hv : LvM s g N m lv) (p0 : 0 ≤ p) (p1 : p < N) (t0 : 0 ≤ t) (t1 : t < m) (u0 : 0 ≤ u) (u1 : u < m) (k1 : betL lv p t u = true → K 1 s) (k0 : betL lv p t u = false → K 0 s) : AM2 i_M_wishes (d + 2) [(2, 356), (0, p), (0, t), (0, u)] s K := by
  have h1 := hv p t p0 p1 t0 t1
  have h2 := hv p u p0 p1 u0 u1
  unfold betL at k1 k0
  refine e_M_wishes fun _ _ _ => M_levelIn_ok eg g0 g5 p0 (by omega) t0 (by omega) ?_
  rw [h1]
  refine ⟨fun z => k0 (decide_eq_false (by omega)), fun z => M_levelIn_ok eg g0 g5 p0 (by omega) t0 (by omega) (M_levelIn_ok eg g0 g5 p0 (by omega) u0 (by omega) ?_)⟩
  rw [h1, h2]
  exact ⟨fun y => k1 (decide_eq_true (by omega)), fun y => k0 (decide_eq_false (by omega))⟩
theorem M_findsThings_ok {D : Nat} {g n N m : Int} {lv : Int → Int → Int} {W : Int → Int} {S : RS} (g0 : 0 ≤ g) (g5 : g ≤ 5) (hN : N ≤ 7) (hn : 1 ≤ n ∧ n ≤ N) (hm : 1 ≤ m ∧ m ≤ 8) (hW : ∀ j, 0 ≤ j → j < n → 0 ≤ W j ∧ W j < N) : ∀ (k : Nat) (dep : Int) (gv : Int → Int) (s : Mem) (K : Int → Mem → Prop), 0 ≤ dep → dep + k = n → s 356 14 = g → s 358 g = m → LvM s g N m lv → MRun s N m S → (∀ j, 0 ≤ j → j < n → s 385 j = W j) → (∀ j, 0 ≤ j → j < dep → s 386 j = gv j ∧ 0 ≤ gv j ∧ gv j < m) →
    (∀ r s2, thS (hpS S) (betL lv) m n W k dep gv = some r → (∀ j, 0 ≤ j → j < n → s2 386 j = r j) → (∀ b j, ¬ b = 386 → s2 b j = s b j) → K 1 s2) → (∀ s2 : Mem, thS (hpS S) (betL lv) m n W k dep gv = none → (∀ b j, ¬ (b = 386 ∧ dep ≤ j) → s2 b j = s b j) → K 0 s2) → AM2 i_M_findsThings (D + k + 3) [(2, 356), (0, dep), (0, n)] s K := by
  intro k
  induction k with
  | zero =>
    intro dep gv s K d0 e eg em hv hH hw hgv k1 k0
    have hd : dep = n := by omega
    subst hd
    have w0 := hW 0 (Int.le_refl 0) (by omega)
    have a0 := hgv 0 (Int.le_refl 0) (by omega)
    have an := hgv (dep - 1) (by omega) (by omega)
    refine e_M_findsThings fun _ _ => brT_i rfl ?_
    rw [w32_id (by omega) (by omega), hw 0 (Int.le_refl 0) (by omega), a0.1, an.1]
    unfold thS at k1 k0
    refine inb_i (by omega) (by omega) (M_wishes_ok (N := N) (m := m) (lv := lv) eg g0 g5 hN hm.2 hv w0.1 w0.2 an.2.1 an.2.2 a0.2.1 a0.2.2 (fun z => ?_) (fun z => ?_))
    · exact boolP_i (Or.inr rfl) (k1 gv s (by rw [if_pos z]) (fun j a b => (hgv j a b).1) (fun _ _ _ => rfl))
    · exact boolP_i (Or.inl rfl) (k0 s (by rw [if_neg (by rw [z]; decide)]) (fun _ _ _ => rfl))
  | succ k ih =>
    intro dep gv s K d0 e eg em hv hH hw hgv k1 k0
    have wd := hW dep d0 (by omega)
    have lp : ∀ (q : Nat) (t : Int) (s2 : Mem), 0 ≤ t → t + q = m → (∀ b j, ¬ (b = 386 ∧ dep ≤ j) → s2 b j = s b j) → lpT (thS (hpS S) (betL lv) m n W k (dep + 1)) (okT (hpS S) (betL lv) W gv dep) gv dep q t = thS (hpS S) (betL lv) m n W (k + 1) dep gv → AW2 i_M_findsThings (D + (k + 1) + 3) 22 [] [(0, (2, 356)), (1, (0, dep)), (2, (0, n)), (3, (0, t))] s2 K := by
      intro q
      induction q with
      | zero =>
        intro t s2 t0 et f el
        have el : none = thS (hpS S) (betL lv) m n W (k + 1) dep gv := el
        refine s_M_findsThings_22 ?_
        rw [f 356 14 (by omega), eg, f 358 g (by omega), em]
        exact inb_i g0 (by omega) (brF_i (by omega) (k0 s2 el.symm f))
      | succ q ih2 =>
        intro t s2 t0 et f el
        have hH2 : MRun s2 N m S := MQ_fr (fun b j _ _ => f b j (by omega)) hH
        have hv2 : LvM s2 g N m lv := fun p t p0 p1 t0 t1 => by rw [f _ _ (by omega)]; exact hv p t p0 p1 t0 t1
        have eg2 : s2 356 14 = g := by rw [f _ _ (by omega)]; exact eg
        have nxt : ∀ s3 : Mem, (∀ b j, ¬ (b = 386 ∧ dep ≤ j) → s3 b j = s b j) → lpT (thS (hpS S) (betL lv) m n W k (dep + 1)) (okT (hpS S) (betL lv) W gv dep) gv dep q (t + 1) = thS (hpS S) (betL lv) m n W (k + 1) dep gv → AW2 i_M_findsThings (D + (k + 1) + 3) 77 [] [(0, (2, 356)), (1, (0, dep)), (2, (0, n)), (3, (0, t))] s3 K := by
          intro s3 f3 el3
          refine s_M_findsThings_77 ?_
          rw [w32_id (by omega) (by omega)]
          exact ih2 (t + 1) s3 (by omega) (by omega) f3 el3
        have inn : okT (hpS S) (betL lv) W gv dep t = true → AW2 i_M_findsThings (D + (k + 1) + 3) 57 [] [(0, (2, 356)), (1, (0, dep)), (2, (0, n)), (3, (0, t))] s2 K := by
          intro hok
          rw [lpT_T hok] at el
          refine s_M_findsThings_57 (s_M_findsThings_60 (inb_i d0 (by omega) (brF_i (by decide) ?_)))
          rw [w32_id (by omega) (by omega)]
          refine ih (dep + 1) (up gv dep t) _ _ (by omega) (by omega) (by rw [st_ne (by omega)]; exact eg2) (by rw [st_ne (by omega), f _ _ (by omega)]; exact em) (fun p t p0 p1 t0 t1 => by rw [st_ne (by omega)]; exact hv2 p t p0 p1 t0 t1) (MQ_fr (fun b j _ _ => st_ne (by omega)) hH2) (fun j a b => by rw [st_ne (by omega), f _ _ (by omega)]; exact hw j a b) (fun j a b => ?_) (fun r s3 er x3 f3 => br1 ?_) (fun s3 er f3 => br0 (nxt s3 (fun b j z => by rw [f3 b j (by omega), st_ne (by omega), f b j z]) ?_))
          · by_cases z : j = dep
            · rw [z, st_self, up_s]; exact ⟨rfl, t0, by omega⟩
            · rw [st_ne (by omega), up_n z, f _ _ (by omega)]; exact hgv j a (by omega)
          · rw [er] at el
            exact k1 r s3 el.symm x3 (fun b j z => by rw [f3 b j z, st_ne (by omega), f b j (by omega)])
          · rw [er] at el; exact el
        have out : okT (hpS S) (betL lv) W gv dep t = false → AW2 i_M_findsThings (D + (k + 1) + 3) 59 [] [(0, (2, 356)), (1, (0, dep)), (2, (0, n)), (3, (0, t))] s2 K := by
          intro hok
          rw [lpT_F hok] at el
          refine s_M_findsThings_59 (s_M_findsThings_60 (inb_i d0 (by omega) (brT_i rfl (nxt _ (fun b j z => by rw [st_ne (by omega), f b j z]) el))))
        have h8 := hH2.2.2.2 (W dep) t wd.1 wd.2 t0 (by omega)
        refine s_M_findsThings_22 ?_
        rw [eg2, f 358 g (by omega), em, f 385 dep (by omega), hw dep d0 (by omega), w32_id (x := 8 * W dep) (by omega) (by omega), w32_id (x := 8 * W dep + t) (by omega) (by omega), h8]
        refine inb_i g0 (by omega) (brT_i (by omega) (inb_i d0 (by omega) (inb_i (by omega) (by omega) ⟨fun z => ⟨fun z0 => inn ?_, fun z0 => inb_i d0 (by omega) ?_⟩, fun z => out ?_⟩)))
        · unfold okT hpS; rw [decide_eq_true z, decide_eq_true z0]; rfl
        · have h9 := hgv (dep - 1) (by omega) (by omega)
          rw [w32_id (by omega) (by omega), f 386 (dep - 1) (by omega), h9.1]
          refine inb_i (by omega) (by omega) (M_wishes_ok (N := N) (m := m) (lv := lv) eg2 g0 g5 hN hm.2 hv2 wd.1 wd.2 h9.2.1 h9.2.2 t0 (by omega) (fun y => br1 (inn ?_)) (fun y => br0 (out ?_)))
          · unfold okT hpS; rw [decide_eq_true z, y]; simp
          · unfold okT hpS; rw [y, decide_eq_false z0]; simp
        · unfold okT hpS; rw [decide_eq_false z]; rfl
    refine e_M_findsThings fun _ _ => brF_i (by omega) (lp m.toNat 0 s (Int.le_refl 0) (by omega) (fun _ _ _ => rfl) rfl)
/-- the bits are those that came -/
def SeenW (W : Int → Int) (dep x : Int) : Prop := (0 ≤ x ∧ x < 65536) ∧ ∀ u, 0 ≤ u → u < 7 → bt x u = among W dep u
theorem among_up {W : Int → Int} {dep p u : Int} (d0 : 0 ≤ dep) : among (up W dep p) (dep + 1) u = (among W dep u || decide (u = p)) := by
  cases h : among W dep u with
  | true =>
    have : ¬ fsT (fun j => decide (W j = u)) (fun j => j) dep.toNat 0 = -1 := by unfold among at h; exact of_decide_eq_true h
    rcases fsT_cases (c := fun j => decide (W j = u)) (ls := fun j => j) dep.toNat 0 with ⟨e, _⟩ | ⟨i, i0, i1, e2, c, _⟩
    · exact absurd e this
    · rw [among_T i0 (show i < dep + 1 by omega) (by rw [up_n (by omega)]; exact of_decide_eq_true c)]; rfl
  | false =>
    have h2 : ∀ j, 0 ≤ j → j < dep → ¬ W j = u := fun j a b e => by rw [among_T a b e] at h; cases h
    by_cases c : u = p
    · rw [among_T d0 (show dep < dep + 1 by omega) (by rw [up_s]; exact c.symm), decide_eq_true c]; rfl
    · rw [among_F (fun j a b => ?_), decide_eq_false c]; · rfl
      by_cases z : j = dep
      · rw [z, up_s]; exact fun y => c y.symm
      · rw [up_n z]; exact h2 j a (by omega)
theorem M_findsPeople_ok {D : Nat} {g n N m : Int} {lv : Int → Int → Int} {S : RS} (g0 : 0 ≤ g) (g5 : g ≤ 5) (hN : N ≤ 7) (hn : 1 ≤ n ∧ n ≤ N) (hm : 1 ≤ m ∧ m ≤ 8) : ∀ (k : Nat) (dep x : Int) (W : Int → Int) (s : Mem) (K : Int → Mem → Prop), 0 ≤ dep → dep + k = n → s 356 14 = g → s 357 g = N → s 358 g = m → LvM s g N m lv → MRun s N m S → (∀ j, 0 ≤ j → j < dep → s 385 j = W j ∧ 0 ≤ W j ∧ W j < N) → SeenW W dep x →
    (∀ r s2, ppS (hpS S) (betL lv) N m n k dep W = some r → (∀ j, 0 ≤ j → j < n → s2 385 j = r.1 j ∧ s2 386 j = r.2 j) → (∀ b j, ¬ b = 385 → ¬ b = 386 → s2 b j = s b j) → K 1 s2) → (∀ s2 : Mem, ppS (hpS S) (betL lv) N m n k dep W = none → (∀ b j, ¬ (b = 385 ∧ dep ≤ j) → ¬ b = 386 → s2 b j = s b j) → K 0 s2) → AM2 i_M_findsPeople (D + k + 11) [(2, 356), (0, dep), (0, n), (0, x)] s K := by
  intro k
  induction k with
  | zero =>
    intro dep x W s K d0 e eg eN em hv hH hw hx k1 k0
    have hd : dep = n := by omega
    subst hd
    refine e_M_findsPeople fun _ _ _ => brT_i rfl ?_
    rw [show D + 10 = (D + 7 - dep.toNat) + dep.toNat + 3 by omega]
    refine M_findsThings_ok (lv := lv) (S := S) (W := W) g0 g5 hN hn hm (fun j a b => (hw j a b).2) dep.toNat 0 (fun _ => 0) s _ (Int.le_refl 0) (by omega) eg em hv hH (fun j a b => (hw j a b).1) (fun j a b => by omega) (fun r s2 er x2 f2 => boolP_i (Or.inr rfl) (k1 (W, r) s2 (by unfold ppS; rw [er]) (fun j a b => ⟨by rw [f2 _ _ (by omega)]; exact (hw j a b).1, x2 j a b⟩) (fun b j _ z => f2 b j z))) (fun s2 er f2 => boolP_i (Or.inl rfl) (k0 s2 (by unfold ppS; rw [er]) (fun b j _ z => f2 b j (by omega))))
  | succ k ih =>
    intro dep x W s K d0 e eg eN em hv hH hw hx k1 k0
    have lp : ∀ (q : Nat) (p : Int) (s2 : Mem), 0 ≤ p → p + q = N → (∀ b j, ¬ (b = 385 ∧ dep ≤ j) → ¬ b = 386 → s2 b j = s b j) → lpP (ppS (hpS S) (betL lv) N m n k (dep + 1)) W dep q p = ppS (hpS S) (betL lv) N m n (k + 1) dep W → AW2 i_M_findsPeople (D + (k + 1) + 11) 10 [] [(0, (2, 356)), (1, (0, dep)), (2, (0, n)), (3, (0, x)), (4, (0, p))] s2 K := by
      intro q
      induction q with
      | zero =>
        intro p s2 p0 ep f el
        have el : none = ppS (hpS S) (betL lv) N m n (k + 1) dep W := el
        refine s_M_findsPeople_10 ?_
        rw [f 356 14 (by omega) (by omega), eg, f 357 g (by omega) (by omega), eN]
        exact inb_i g0 (by omega) (brF_i (by omega) (k0 s2 el.symm f))
      | succ q ih2 =>
        intro p s2 p0 ep f el
        have nxt : ∀ s3 : Mem, (∀ b j, ¬ (b = 385 ∧ dep ≤ j) → ¬ b = 386 → s3 b j = s b j) → lpP (ppS (hpS S) (betL lv) N m n k (dep + 1)) W dep q (p + 1) = ppS (hpS S) (betL lv) N m n (k + 1) dep W → AW2 i_M_findsPeople (D + (k + 1) + 11) 10 [] [(0, (2, 356)), (1, (0, dep)), (2, (0, n)), (3, (0, x)), (4, (0, w32 (p + 1)))] s3 K := by
          intro s3 f3 el3
          rw [w32_id (by omega) (by omega)]
          exact ih2 (p + 1) s3 (by omega) (by omega) f3 el3
        have hbt := hx.2 p p0 (by omega)
        have inn : okP W dep p = true → inb dep 7 (AM2 i_M_findsPeople (D + (k + 1) + 10) [(2, 356), (0, w32 (dep + 1)), (0, n), (0, orI x (shlI 1 p))] (st s2 385 dep p) (fun w1 σ1 => (w1 = 0 → AW2 i_M_findsPeople (D + (k + 1) + 11) 10 [] [(0, (2, 356)), (1, (0, dep)), (2, (0, n)), (3, (0, x)), (4, (0, w32 (p + 1)))] σ1 K) ∧ (¬ w1 = 0 → K 1 σ1))) := by
          intro hok
          rw [lpP_T hok] at el
          rw [w32_id (x := dep + 1) (by omega) (by omega)]
          have hor := bit_or (b := x) (t := p) hx.1.1 hx.1.2 p0 (by omega)
          refine inb_i d0 (by omega) (ih (dep + 1) (orI x (shlI 1 p)) (up W dep p) _ _ (by omega) (by omega) (by rw [st_ne (by omega), f _ _ (by omega) (by omega)]; exact eg) (by rw [st_ne (by omega), f _ _ (by omega) (by omega)]; exact eN) (by rw [st_ne (by omega), f _ _ (by omega) (by omega)]; exact em) (fun p t p0 p1 t0 t1 => by rw [st_ne (by omega), f _ _ (by omega) (by omega)]; exact hv p t p0 p1 t0 t1) (MQ_fr (fun b j _ _ => by rw [st_ne (by omega), f _ _ (by omega) (by omega)]) hH) (fun j a b => ?_) ⟨hor.1, fun u u0 u1 => by rw [hor.2 u u0, hx.2 u u0 u1, among_up d0]⟩ (fun r s3 er x3 f3 => br1 ?_) (fun s3 er f3 => br0 (nxt s3 (fun b j z1 z2 => by rw [f3 b j (by omega) z2, st_ne (by omega), f b j z1 z2]) ?_)))
          · by_cases z : j = dep
            · rw [z, st_self, up_s]; exact ⟨rfl, p0, by omega⟩
            · rw [st_ne (by omega), up_n z, f _ _ (by omega) (by omega)]; exact hw j a (by omega)
          · rw [er] at el
            exact k1 r s3 el.symm x3 (fun b j z1 z2 => by rw [f3 b j z1 z2, st_ne (by omega), f b j (by omega) z2])
          · rw [er] at el; exact el
        refine s_M_findsPeople_10 ?_
        rw [f 356 14 (by omega) (by omega), eg, f 357 g (by omega) (by omega), eN, bit_e hx.1.1 (by have := hx.1.2; omega) p0 (by omega), hbt]
        refine inb_i g0 (by omega) (brT_i (by omega) ?_)
        cases ha : among W dep p with
        | true =>
          rw [lpP_F (by unfold okP; rw [ha]; simp)] at el
          exact brF_i (by decide) (nxt s2 f el)
        | false =>
          refine brT_i rfl ⟨fun z => inn ?_, fun z => ?_⟩
          · unfold okP; rw [ha, decide_eq_true z]; rfl
          · rw [f 385 0 (by omega) (by omega), (hw 0 (Int.le_refl 0) (by omega)).1]
            refine ⟨fun y => inn ?_, fun y => nxt s2 f ?_⟩
            · unfold okP; rw [ha, decide_eq_true y]; simp
            · rw [lpP_F (by unfold okP; rw [decide_eq_false z, decide_eq_false y]; rfl)] at el; exact el
    refine e_M_findsPeople fun _ _ _ => brF_i (by omega) (lp N.toNat 0 s (Int.le_refl 0) (by omega) (fun _ _ _ _ => rfl) rfl)
theorem M_findsOne_ok {d : Nat} {K : Int → Mem → Prop} {s : Mem} {g N m : Int} {lv : Int → Int → Int} {S : RS} (g0 : 0 ≤ g) (g5 : g ≤ 5) (hN : 1 ≤ N ∧ N ≤ 7) (hm : 1 ≤ m ∧ m ≤ 8) (eg : s 356 14 = g) (eN : s 357 g = N) (em : s 358 g = m) (hv : LvM s g N m lv) (hH : MRun s N m S) (k1 : ¬ alP (hpS S) (betL lv) S N m = -1 → K 1 (st (st s 385 0 (alP (hpS S) (betL lv) S N m)) 386 0 (alT (hpS S) (betL lv) S m (alP (hpS S) (betL lv) S N m)))) (k0 : alP (hpS S) (betL lv) S N m = -1 → K 0 s) : AM2 i_M_findsOne (d + 3) [(2, 356)] s K := by
  have l3 : ∀ (p t : Int), 0 ≤ p → p < N → 0 ≤ t → t < m → (hpS S p t = true → lfS (betL lv) S m p t = true → K 1 (st (st s 385 0 p) 386 0 t)) → (¬ (hpS S p t = true ∧ lfS (betL lv) S m p t = true) → AW2 i_M_findsOne (d + 3) 11 [] [(0, (2, 356)), (1, (0, p)), (2, (0, t + 1))] s K) → ∀ (q : Nat) (o : Int), 0 ≤ o → o + q = m → decide (¬ fsT (fun o => decide (0 < S.1 o) && betL lv p o t) (fun o => o) q o = -1) = lfS (betL lv) S m p t → AW2 i_M_findsOne (d + 3) 20 [] [(0, (2, 356)), (1, (0, p)), (2, (0, t)), (3, (0, o))] s K := by
    intro p t p0 p1 t0 t1 c1 c0 q
    have h8 := hH.2.2.2 p t p0 p1 t0 (by omega)
    induction q with
    | zero =>
      intro o o0 e el
      have el : decide (¬ (-1 : Int) = -1) = lfS (betL lv) S m p t := el
      refine s_M_findsOne_20 ?_
      rw [eg, em, w32_id (x := t + 1) (by omega) (by omega)]
      refine inb_i g0 (by omega) (brF_i (by omega) (c0 (fun z => ?_)))
      rw [← el] at z; exact absurd z.2 (by decide)
    | succ q ih =>
      intro o o0 e el
      have ho := hH.1 o o0 (by omega)
      refine s_M_findsOne_20 ?_
      rw [eg, em, w32_id (x := t + 1) (by omega) (by omega), w32_id (x := 8 * p) (by omega) (by omega), w32_id (x := 8 * p + t) (by omega) (by omega), h8, ho]
      refine inb_i g0 (by omega) (brT_i (by omega) (inb_i (by omega) (by omega) ⟨fun z => inb_i o0 (by omega) ⟨fun z2 => M_wishes_ok (N := N) (m := m) (lv := lv) eg g0 g5 hN.2 hm.2 hv p0 p1 o0 (by omega) t0 t1 (fun y => br1 (c1 ?_ ?_)) (fun y => br0 ?_), fun z2 => ?_⟩, fun z => c0 (fun y => ?_)⟩))
      · exact decide_eq_true z
      · rw [fsT_T (by rw [decide_eq_true z2, y]; rfl)] at el
        rw [← el]; exact decide_eq_true (by omega)
      · rw [fsT_F (by rw [y]; simp)] at el
        rw [w32_id (by omega) (by omega)]
        exact ih (o + 1) (by omega) (by omega) el
      · rw [fsT_F (by rw [decide_eq_false z2]; rfl)] at el
        rw [w32_id (by omega) (by omega)]
        exact ih (o + 1) (by omega) (by omega) el
      · exact z (of_decide_eq_true y.1)
  have inner : ∀ (p : Int), 0 ≤ p → p < N → (¬ alT (hpS S) (betL lv) S m p = -1 → K 1 (st (st s 385 0 p) 386 0 (alT (hpS S) (betL lv) S m p))) → (alT (hpS S) (betL lv) S m p = -1 → AW2 i_M_findsOne (d + 3) 2 [] [(0, (2, 356)), (1, (0, p + 1))] s K) → ∀ (q : Nat) (t : Int), 0 ≤ t → t + q = m → fsT (fun t => hpS S p t && lfS (betL lv) S m p t) (fun t => t) q t = alT (hpS S) (betL lv) S m p → AW2 i_M_findsOne (d + 3) 11 [] [(0, (2, 356)), (1, (0, p)), (2, (0, t))] s K := by
    intro p p0 p1 c1 c0 q
    induction q with
    | zero =>
      intro t t0 e el
      have el : -1 = alT (hpS S) (betL lv) S m p := el
      refine s_M_findsOne_11 ?_
      rw [eg, em, w32_id (x := p + 1) (by omega) (by omega)]
      exact inb_i g0 (by omega) (brF_i (by omega) (c0 el.symm))
    | succ q ih =>
      intro t t0 e el
      refine s_M_findsOne_11 ?_
      rw [eg, em]
      refine inb_i g0 (by omega) (brT_i (by omega) (l3 p t p0 p1 t0 (by omega) (fun z y => ?_) (fun z => ?_) m.toNat 0 (Int.le_refl 0) (by omega) rfl))
      · rw [fsT_T (by rw [z, y]; rfl)] at el
        have := c1 (by omega)
        rw [← el] at this
        exact this
      · rw [fsT_F (by
          cases h1 : hpS S p t with
          | false => rfl
          | true =>
            cases h2 : lfS (betL lv) S m p t with
            | false => rfl
            | true => exact absurd ⟨h1, h2⟩ z)] at el
        exact ih (t + 1) (by omega) (by omega) el
  have outer : ∀ (q : Nat) (p : Int), 0 ≤ p → p + q = N → fsT (fun p => decide (¬ alT (hpS S) (betL lv) S m p = -1)) (fun p => p) q p = alP (hpS S) (betL lv) S N m → AW2 i_M_findsOne (d + 3) 2 [] [(0, (2, 356)), (1, (0, p))] s K := by
    intro q
    induction q with
    | zero =>
      intro p p0 e el
      have el : -1 = alP (hpS S) (betL lv) S N m := el
      refine s_M_findsOne_2 ?_
      rw [eg, eN]
      exact inb_i g0 (by omega) (brF_i (by omega) (k0 el.symm))
    | succ q ih =>
      intro p p0 e el
      refine s_M_findsOne_2 ?_
      rw [eg, eN]
      refine inb_i g0 (by omega) (brT_i (by omega) (inner p p0 (by omega) (fun z => ?_) (fun z => ?_) m.toNat 0 (Int.le_refl 0) (by omega) rfl))
      · rw [fsT_T (decide_eq_true z)] at el
        have := k1 (by omega)
        rw [← el] at this
        exact this
      · rw [fsT_F (decide_eq_false (fun y => y z))] at el
        exact ih (p + 1) (by omega) (by omega) el
  exact e_M_findsOne (outer N.toNat 0 (Int.le_refl 0) (by omega) rfl)
theorem M_findsRing_ok {d : Nat} {K : Int → Mem → Prop} {s : Mem} {g N m : Int} {lv : Int → Int → Int} {S : RS} (g0 : 0 ≤ g) (g5 : g ≤ 5) (hN : 1 ≤ N ∧ N ≤ 7) (hm : 1 ≤ m ∧ m ≤ 8) (eg : s 356 14 = g) (eN : s 357 g = N) (em : s 358 g = m) (hv : LvM s g N m lv) (hH : MRun s N m S) (k : ∀ s2 : Mem, s2 356 40 = (ringS lv S N m).1 → (∀ i, 0 ≤ i → i < (ringS lv S N m).1 → s2 385 i = (ringS lv S N m).2.1 i ∧ s2 386 i = (ringS lv S N m).2.2 i) → (∀ b j, ¬ (b = 356 ∧ j = 40) → ¬ b = 385 → ¬ b = 386 → s2 b j = s b j) → K 0 s2) : AM2 i_M_findsRing (d + 19) [(2, 356)] s K := by
  have lp : ∀ (q : Nat) (sz : Int) (s2 : Mem), 2 ≤ sz → sz + q = N + 1 → alP (hpS S) (betL lv) S N m = -1 → s2 356 40 = 0 → (∀ b j, ¬ (b = 356 ∧ j = 40) → ¬ b = 385 → ¬ b = 386 → s2 b j = s b j) → rgS (hpS S) (betL lv) N m q sz = ringS lv S N m → AW2 i_M_findsRing (d + 19) 10 [] [(0, (2, 356)), (1, (0, sz))] s2 K := by
    intro q
    induction q with
    | zero =>
      intro sz s2 z2 e ha w2 f el
      have el : (0, fun _ => 0, fun _ => 0) = ringS lv S N m := el
      refine s_M_findsRing_10 ?_
      rw [f 356 14 (by omega) (by omega) (by omega), eg, f 357 g (by omega) (by omega) (by omega), eN]
      refine inb_i g0 (by omega) (brT_i (by omega) (k s2 (by rw [w2, ← el]) (fun i i0 i1 => ?_) f))
      rw [← el] at i1
      have i1 : i < 0 := i1
      omega
    | succ q ih =>
      intro sz s2 z2 e ha w2 f el
      refine s_M_findsRing_10 ?_
      rw [f 356 14 (by omega) (by omega) (by omega), eg, f 357 g (by omega) (by omega) (by omega), eN]
      refine inb_i g0 (by omega) (brF_i (by omega) (brT_i w2 ?_))
      unfold rgS at el
      rw [show d + 18 = (d + 7 - sz.toNat) + sz.toNat + 11 by omega]
      refine M_findsPeople_ok (lv := lv) (S := S) g0 g5 hN.2 (by omega) hm sz.toNat 0 0 (fun _ => 0) s2 _ (Int.le_refl 0) (by omega) (by rw [f _ _ (by omega) (by omega) (by omega)]; exact eg) (by rw [f _ _ (by omega) (by omega) (by omega)]; exact eN) (by rw [f _ _ (by omega) (by omega) (by omega)]; exact em) (fun p t p0 p1 t0 t1 => by rw [f _ _ (by omega) (by omega) (by omega)]; exact hv p t p0 p1 t0 t1) (MQ_fr (fun b j _ _ => f _ _ (by omega) (by omega) (by omega)) hH) (fun j a b => by omega) ⟨⟨Int.le_refl 0, by decide⟩, fun u _ _ => by rw [bit_0, among_F (fun j a b => by omega)]⟩ (fun r s3 er x3 f3 => br1 ?_) (fun s3 er f3 => br0 ?_)
      · rw [er] at el
        have el : (sz, r.1, r.2) = ringS lv S N m := el
        have f4 : ∀ b j, ¬ (b = 356 ∧ j = 40) → ¬ b = 385 → ¬ b = 386 → st s3 356 40 sz b j = s b j := fun b j y1 y2 y3 => by rw [st_ne (by omega), f3 b j y2 y3, f b j y1 y2 y3]
        rw [w32_id (by omega) (by omega)]
        have fin : K 0 (st s3 356 40 sz) := by
          refine k _ (by rw [st_self, ← el]) (fun i i0 i1 => ?_) f4
          rw [← el] at i1 ⊢
          rw [st_ne (by omega), st_ne (by omega)]
          exact x3 i i0 i1
        refine s_M_findsRing_10 ?_
        rw [f4 356 14 (by omega) (by omega) (by omega), eg, f4 357 g (by omega) (by omega) (by omega), eN]
        exact inb_i g0 (by omega) ⟨fun _ => fin, fun _ => brF_i (by rw [st_self]; omega) fin⟩
      · rw [er] at el
        rw [w32_id (by omega) (by omega), show d + 7 - sz.toNat + sz.toNat + 11 + 1 = d + 19 by omega]
        exact ih (sz + 1) _ (by omega) (by omega) ha (by rw [st_self]) (fun b j y1 y2 y3 => by rw [st_ne (by omega), f3 b j (by omega) y3, f b j y1 y2 y3]) el
  refine e_M_findsRing ?_
  refine M_findsOne_ok (S := S) (lv := lv) g0 g5 hN hm eg eN em hv hH (fun z => br1 ?_) (fun z => br0 ?_)
  · have e1 : ringS lv S N m = (1, fun _ => alP (hpS S) (betL lv) S N m, fun _ => alT (hpS S) (betL lv) S m (alP (hpS S) (betL lv) S N m)) := if_neg z
    generalize hs : st (st (st s 385 0 (alP (hpS S) (betL lv) S N m)) 386 0 (alT (hpS S) (betL lv) S m (alP (hpS S) (betL lv) S N m))) 356 40 1 = s2
    have f2 : ∀ b j, ¬ (b = 356 ∧ j = 40) → ¬ b = 385 → ¬ b = 386 → s2 b j = s b j := fun b j y1 y2 y3 => by rw [← hs, st_ne (by omega), st_ne (by omega), st_ne (by omega)]
    have w2 : s2 356 40 = 1 := by rw [← hs, st_self]
    have fin : K 0 s2 := by
      refine k s2 (by rw [w2, e1]) (fun i i0 i1 => ?_) f2
      rw [e1] at i1 ⊢
      have i1 : i < 1 := i1
      rw [show i = 0 by omega, ← hs, st_ne (by omega), st_ne (by omega), st_self, st_ne (by omega), st_self]
      exact ⟨rfl, rfl⟩
    refine s_M_findsRing_10 ?_
    rw [f2 356 14 (by omega) (by omega) (by omega), eg, f2 357 g (by omega) (by omega) (by omega), eN]
    exact inb_i g0 (by omega) ⟨fun _ => fin, fun _ => brF_i (by omega) fin⟩
  · have e1 : ringS lv S N m = rgS (hpS S) (betL lv) N m (N - 1).toNat 2 := if_pos z
    exact lp (N - 1).toNat 2 _ (by decide) (by omega) z (by rw [st_self]) (fun b j y1 y2 y3 => by rw [st_ne (by omega)]) e1.symm
