-- ===== a whole run: the class
theorem fill_I {d : Nat} {K : Int → Mem → Prop} {b v : Int} (hk : sK b = 100) (hn : sN b ≤ 1000) : ∀ (m : Nat) (σ : Mem) (k : Int), 0 ≤ k → k + (m : Int) = sN b → (∀ σ2 : Mem, (∀ i, k ≤ i → i < sN b → σ2 b i = v) → (∀ x j, ¬ (x = b ∧ k ≤ j ∧ j < sN b) → σ2 x j = σ x j) → K 0 σ2) → AW2 i_Arrays_fill_I (d + 1) 5 [] [(0, (2, b)), (1, (0, v)), (2, (0, k)), (3, (0, sN b))] σ K := by
  intro m
  induction m with
  | zero => intro σ k k0 e h; exact s_Arrays_fill_I_5 ⟨fun c => absurd c (by omega), fun _ => h σ (fun i a c => absurd a (by omega)) (fun _ _ _ => rfl)⟩
  | succ m ih =>
    intro σ k k0 e h
    refine s_Arrays_fill_I_5 ⟨fun c => chkK_i hk (inb_i k0 c ?_), fun c => absurd c (by omega)⟩
    rw [w32_id (by omega) (by omega)]
    refine ih _ (k + 1) (by omega) (by omega) (fun σ2 h1 h2 => h σ2 (fun i a c2 => ?_) (fun x j q => ?_))
    · by_cases z : i = k
      · subst z; rw [h2 b i (by omega), st_self]
      · exact h1 i (by omega) c2
    · rw [h2 x j (by omega), st_ne (by omega)]
theorem Fill_I_ok {d : Nat} {K : Int → Mem → Prop} {σ : Mem} {b v : Int} (hk : sK b = 100) (h0 : 0 ≤ sN b) (hn : sN b ≤ 1000) (h : ∀ σ2 : Mem, (∀ i, 0 ≤ i → i < sN b → σ2 b i = v) → (∀ x j, ¬ (x = b ∧ 0 ≤ j ∧ j < sN b) → σ2 x j = σ x j) → K 0 σ2) : AM2 i_Arrays_fill_I (d + 1) [(2, b), (0, v)] σ K :=
  e_Arrays_fill_I fun _ => ⟨by rw [hk]; exact ⟨by decide, by decide⟩, fill_I hk hn (sN b).toNat σ 0 (Int.le_refl 0) (by omega) h⟩
theorem X_deal_ok {d : Nat} {K : Int → Mem → Prop} {σ : Mem} {g h n m R bk : Int} {o am : Int → Int} {back : Bool} {ls : Int → Int → Int} {sz : Int → Int} (hh : h = 263 ∨ h = 285) (g0 : 0 ≤ g) (g5 : g ≤ 5) (hn : 1 ≤ n ∧ n ≤ 7) (hm : 1 ≤ m ∧ m ≤ 8) (hR : 1 ≤ R ∧ R ≤ 3) (e1 : σ (4 + 43 * g) 1 = n) (e0 : σ (4 + 43 * g) 0 = m) (e2 : σ (4 + 43 * g) 2 = R) (hL : LGo n m ls sz) (hX : LX σ g n m ls sz) (ha : ∀ t, 0 ≤ t → t < m → σ (5 + 43 * g) t = am t ∧ 1 ≤ am t ∧ am t ≤ 9) (ho : ∀ i, 0 ≤ i → i < n → σ 304 i = o i) (hP : PM n o) (hb : bk = if back = true then 1 else 0)
    (kk : ∀ s2 : Mem, HR s2 h n m (dl n R o back am ls sz) → (∀ b j, ¬ (h ≤ b ∧ b ≤ h + 18) → s2 b j = σ b j) → K 0 s2) : AM2 i_Hand_deal (d + 3) [(2, h), (2, 4 + 43 * g), (2, 304), (0, bk)] σ K := by
  have inner : ∀ (r tf : Int) (K2 : Prop), 0 ≤ r → r < R → (tf = if back = true ∧ r = 1 then 1 else 0) → ∀ (q : Nat) (i k : Int) (S : RS) (s : Mem), 0 ≤ i → i + q = n → 0 ≤ k → k ≤ 7 * r + i → HR s h n m S → PI n m S → GB2 n r i (whoR o n back r) S → (∀ b j, ¬ (h ≤ b ∧ b ≤ h + 18) → s b j = σ b j) →
      (∀ s2 : Mem, HR s2 h n m (rnd ls sz (whoR o n back r) q i k S) → (∀ b j, ¬ (h ≤ b ∧ b ≤ h + 18) → s2 b j = σ b j) → AW2 i_Hand_deal (d + 3) 24 [] [(0, (2, h)), (1, (2, 4 + 43 * g)), (2, (2, 304)), (3, (0, bk)), (4, (0, k + q)), (5, (0, r + 1))] s2 K) →
      AW2 i_Hand_deal (d + 3) 41 [] [(0, (2, h)), (1, (2, 4 + 43 * g)), (2, (2, 304)), (3, (0, bk)), (4, (0, k)), (5, (0, r)), (6, (0, tf)), (7, (0, i))] s K := by
    intro r tf K2 r0 r1 htf q
    induction q with
    | zero =>
      intro i k S s i0 e k0 k1 hS hPI hG f cont
      refine s_Hand_deal_41 ?_
      rw [f (4 + 43 * g) 1 (by omega), e1]
      (try simp (disch := omega) only [w32_id, w64_id, inb_eq, st_self, st_ne, pt3, ck_g, ck_am, ck_he, ck_sz, ck_ls, ck_lv, ck_pa, ck_kn, sn_am, sn_he, sn_sz, sn_ls, sn_lv, sn_pa, sn_kn, pt_am, pt_he, pt_sz, pt_ls, pt_lv, pt_pa, pt_kn, ck_lr, ck_vr, ck_pr, sn_lr, sn_vr, sn_pr, pt_lr, pt_vr, pt_pr, pt_sh, ck_sh, pt_to, ck_to, sn_to, ck_h, ck_hl, ck_hg, ck_ht, ck_hm, ck_tr, ck_mr, sn_hl, sn_hg, sn_ht, sn_hm, sn_tr, sn_mr, pt_hl, pt_hg, pt_ht, pt_hm, pt_tr, pt_mr])
      refine ⟨fun c => by omega, fun _ => ?_⟩
      have := cont s hS f
      rw [show k + ((0 : Nat) : Int) = k by omega] at this
      exact this
    | succ q ih =>
      intro i k S s i0 e k0 k1 hS hPI hG f cont
      have hw := whoR_PM (back := back) (r := r) hP i i0 (by omega)
      have hgo := hG.1 (whoR o n back r i) hw.1.1 hw.1.2
      have hgo2 := hG.2 i (Int.le_refl i) (by omega)
      have hXs : LX s g n m ls sz := ⟨fun p p0 p1 => by rw [f _ _ (by omega)]; exact hX.1 p p0 p1, fun p i p0 p1 i0 i1 => by rw [f _ _ (by omega)]; exact hX.2 p i p0 p1 i0 i1⟩
      have step : ∀ p, p = whoR o n back r i → AM2 i_Hand_take (d + 2) [(2, h), (2, 4 + 43 * g), (0, p), (0, k)] s (fun w1 σ1 => AW2 i_Hand_deal (d + 3) 41 [] [(0, (2, h)), (1, (2, 4 + 43 * g)), (2, (2, 304)), (3, (0, bk)), (4, (0, k + 1)), (5, (0, r)), (6, (0, tf)), (7, (0, i + 1))] σ1 K) := by
        intro p hp
        rw [hp]
        refine X_take_ok (k := k) hh g0 g5 hn.2 hm.2 hL hXs hS hPI hw.1.1 hw.1.2 (by omega) (fun s2 h1 h2 => ?_)
        refine ih (i + 1) (k + 1) _ s2 (by omega) (by omega) (by omega) (by omega) h1 (tk_PI hPI (frs_r hL hw.1.1 hw.1.2)) (tk_got (whoR_PM hP) i0 (by omega) hG) (fun b j c => by rw [h2 b j c, f b j c]) (fun s3 h3 h4 => ?_)
        have := cont s3 h3 h4
        rw [show k + ((q + 1 : Nat) : Int) = k + 1 + (q : Int) by omega] at this
        exact this
      refine s_Hand_deal_41 ?_
      rw [f (4 + 43 * g) 1 (by omega), e1]
      rw [show sN 304 = 7 from rfl]
      (try simp (disch := omega) only [w32_id, w64_id, inb_eq, st_self, st_ne, pt3, ck_g, ck_am, ck_he, ck_sz, ck_ls, ck_lv, ck_pa, ck_kn, sn_am, sn_he, sn_sz, sn_ls, sn_lv, sn_pa, sn_kn, pt_am, pt_he, pt_sz, pt_ls, pt_lv, pt_pa, pt_kn, ck_lr, ck_vr, ck_pr, sn_lr, sn_vr, sn_pr, pt_lr, pt_vr, pt_pr, pt_sh, ck_sh, pt_to, ck_to, sn_to, ck_h, ck_hl, ck_hg, ck_ht, ck_hm, ck_tr, ck_mr, sn_hl, sn_hg, sn_ht, sn_hm, sn_tr, sn_mr, pt_hl, pt_hg, pt_ht, pt_hm, pt_tr, pt_mr])
      refine ⟨fun _ => ⟨fun c => chkK_i rfl ?_, fun c => chkK_i rfl ?_⟩, fun z => by omega⟩
      · refine step _ ?_
        rw [f 304 _ (by omega), ho _ (by omega) (by omega)]
        unfold whoR
        by_cases z : back = true ∧ r = 1
        · rw [if_pos z] at htf; omega
        · rw [if_neg z]
      · refine step _ ?_
        rw [f 304 _ (by omega), ho _ (by omega) (by omega)]
        unfold whoR
        by_cases z : back = true ∧ r = 1
        · rw [if_pos z]
        · rw [if_neg z] at htf; omega
  have outer : ∀ (q : Nat) (r k : Int) (S : RS) (s : Mem), 0 ≤ r → r + q = R → 0 ≤ k → k ≤ 7 * r → HR s h n m S → PI n m S → (∀ p, 0 ≤ p → p < n → 0 ≤ S.2.1 p ∧ S.2.1 p ≤ r) → (∀ b j, ¬ (h ≤ b ∧ b ≤ h + 18) → s b j = σ b j) →
      (∀ s2 : Mem, HR s2 h n m (rns ls sz o n back q r k S) → (∀ b j, ¬ (h ≤ b ∧ b ≤ h + 18) → s2 b j = σ b j) → K 0 s2) →
      AW2 i_Hand_deal (d + 3) 24 [] [(0, (2, h)), (1, (2, 4 + 43 * g)), (2, (2, 304)), (3, (0, bk)), (4, (0, k)), (5, (0, r))] s K := by
    intro q
    induction q with
    | zero =>
      intro r k S s r0 e k0 k1 hS hPI hG f cont
      refine s_Hand_deal_24 ?_
      rw [f (4 + 43 * g) 2 (by omega), e2]
      (try simp (disch := omega) only [w32_id, w64_id, inb_eq, st_self, st_ne, pt3, ck_g, ck_am, ck_he, ck_sz, ck_ls, ck_lv, ck_pa, ck_kn, sn_am, sn_he, sn_sz, sn_ls, sn_lv, sn_pa, sn_kn, pt_am, pt_he, pt_sz, pt_ls, pt_lv, pt_pa, pt_kn, ck_lr, ck_vr, ck_pr, sn_lr, sn_vr, sn_pr, pt_lr, pt_vr, pt_pr, pt_sh, ck_sh, pt_to, ck_to, sn_to, ck_h, ck_hl, ck_hg, ck_ht, ck_hm, ck_tr, ck_mr, sn_hl, sn_hg, sn_ht, sn_hm, sn_tr, sn_mr, pt_hl, pt_hg, pt_ht, pt_hm, pt_tr, pt_mr])
      exact ⟨fun c => by omega, fun _ => cont s hS f⟩
    | succ q ih =>
      intro r k S s r0 e k0 k1 hS hPI hG f cont
      have hG2 := GB2_0 (whoR_PM (back := back) (r := r) hP) hG
      have go : ∀ tf, (tf = if back = true ∧ r = 1 then 1 else 0) → AW2 i_Hand_deal (d + 3) 41 [] [(0, (2, h)), (1, (2, 4 + 43 * g)), (2, (2, 304)), (3, (0, bk)), (4, (0, k)), (5, (0, r)), (6, (0, tf)), (7, (0, 0))] s K := fun tf htf =>
        inner r tf True r0 (by omega) htf n.toNat 0 k S s (Int.le_refl 0) (by omega) k0 (by omega) hS hPI hG2 f (fun s2 h1 h2 => by
          have h3 := rnd_PI (r := r) (k := k) (S := S) hL (whoR_PM (r := r) (back := back) hP) n.toNat 0 (Int.le_refl 0) (by omega) hPI hG2
          rw [show k + (n.toNat : Int) = k + n by omega]
          exact ih (r + 1) (k + n) _ s2 (by omega) (by omega) (by omega) (by omega) h1 h3.1 h3.2 h2 cont)
      refine s_Hand_deal_24 ?_
      rw [f (4 + 43 * g) 2 (by omega), e2, remI_nn r0 (by omega) (by decide) (by decide)]
      (try simp (disch := omega) only [w32_id, w64_id, inb_eq, st_self, st_ne, pt3, ck_g, ck_am, ck_he, ck_sz, ck_ls, ck_lv, ck_pa, ck_kn, sn_am, sn_he, sn_sz, sn_ls, sn_lv, sn_pa, sn_kn, pt_am, pt_he, pt_sz, pt_ls, pt_lv, pt_pa, pt_kn, ck_lr, ck_vr, ck_pr, sn_lr, sn_vr, sn_pr, pt_lr, pt_vr, pt_pr, pt_sh, ck_sh, pt_to, ck_to, sn_to, ck_h, ck_hl, ck_hg, ck_ht, ck_hm, ck_tr, ck_mr, sn_hl, sn_hg, sn_ht, sn_hm, sn_tr, sn_mr, pt_hl, pt_hg, pt_ht, pt_hm, pt_tr, pt_mr])
      refine ⟨fun _ => ⟨fun c => go 0 ?_, fun c => ⟨fun c2 => go 1 ?_, fun c2 => go 0 ?_⟩⟩, fun z => by omega⟩
      · rw [if_neg]; intro z; rw [if_pos z.1] at hb; omega
      · rw [if_pos]
        refine ⟨?_, by omega⟩
        by_cases z : back = true
        · exact z
        · rw [if_neg z] at hb; exact absurd hb c
      · rw [if_neg]; intro z; omega
  have hop := bit_ones (n := m) (by omega) (by omega)
  refine e_Hand_deal fun _ => ?_
  (try simp (disch := omega) only [w32_id, w64_id, inb_eq, st_self, st_ne, pt3, ck_g, ck_am, ck_he, ck_sz, ck_ls, ck_lv, ck_pa, ck_kn, sn_am, sn_he, sn_sz, sn_ls, sn_lv, sn_pa, sn_kn, pt_am, pt_he, pt_sz, pt_ls, pt_lv, pt_pa, pt_kn, ck_lr, ck_vr, ck_pr, sn_lr, sn_vr, sn_pr, pt_lr, pt_vr, pt_pr, pt_sh, ck_sh, pt_to, ck_to, sn_to, ck_h, ck_hl, ck_hg, ck_ht, ck_hm, ck_tr, ck_mr, sn_hl, sn_hg, sn_ht, sn_hm, sn_tr, sn_mr, pt_hl, pt_hg, pt_ht, pt_hm, pt_tr, pt_mr])
  refine ⟨⟨by decide, by decide, by decide, by decide, by decide⟩, ?_⟩
  refine Fill_I_ok (hF hh).1.2.2.2.1 (by rw [sn_hg hh]; decide) (by rw [sn_hg hh]; decide) (fun s1 x1 x2 => ?_)
  rw [sn_hg hh] at x1 x2
  rw [x2 (4 + 43 * g) 0 (by omega), cpy_at, if_neg (by omega), e0]
  (try simp (disch := omega) only [w32_id, w64_id, inb_eq, st_self, st_ne, pt3, ck_g, ck_am, ck_he, ck_sz, ck_ls, ck_lv, ck_pa, ck_kn, sn_am, sn_he, sn_sz, sn_ls, sn_lv, sn_pa, sn_kn, pt_am, pt_he, pt_sz, pt_ls, pt_lv, pt_pa, pt_kn, ck_lr, ck_vr, ck_pr, sn_lr, sn_vr, sn_pr, pt_lr, pt_vr, pt_pr, pt_sh, ck_sh, pt_to, ck_to, sn_to, ck_h, ck_hl, ck_hg, ck_ht, ck_hm, ck_tr, ck_mr, sn_hl, sn_hg, sn_ht, sn_hm, sn_tr, sn_mr, pt_hl, pt_hg, pt_ht, pt_hm, pt_tr, pt_mr])
  refine outer R.toNat 0 0 (S0 am) _ (Int.le_refl 0) (by omega) (Int.le_refl 0) (Int.le_refl 0) ⟨fun t t0 t1 => ?_, fun p p0 p1 => ?_, fun p i _ _ i0 i1 => by have i1 : i < 0 := i1; omega, ?_, fun t t0 t1 => ?_⟩ ⟨fun t t0 t1 => by have := ha t t0 t1; show 0 ≤ am t ∧ am t ≤ 9; omega, fun p i _ _ i0 i1 => by have i1 : i < 0 := i1; omega⟩ (fun p _ _ => ⟨Int.le_refl 0, Int.le_refl 0⟩) (fun b j c => ?_) kk
  · rw [st_ne (by omega), x2 _ _ (by omega), cpy_at, if_pos (by omega), show 0 + (t - 0) = t by omega]; exact (ha t t0 t1).1
  · rw [st_ne (by omega), x1 p p0 (by omega)]; rfl
  · rw [st_self]; have := shl1_r hm.1 hm.2; omega
  · rw [st_self, hop.2 t t0 (by omega)]
    simp only [decide_eq_decide]
    show t < m ↔ t < m ∧ 0 < am t
    exact ⟨fun z => ⟨z, by have := ha t t0 z; omega⟩, fun z => z.1⟩
  · rw [st_ne (by omega), x2 _ _ (by omega), cpy_at, if_neg (by omega)]
-- ===== .. the model
def hs (S : RS) (p t : Int) : Int := sm (fun i => if S.2.2.1 p i = t then 1 else 0) (S.2.1 p).toNat 0 0
def nt (r : Int) : Int := if r = -1 then -2 else r
def MR (σ : Mem) (n m : Int) (S : RS) : Prop :=
  (∀ t, 0 ≤ t → t < m → σ 381 t = S.1 t) ∧ (∀ p, 0 ≤ p → p < n → σ 384 p = S.2.1 p) ∧
  (∀ p i, 0 ≤ p → p < n → 0 ≤ i → i < S.2.1 p → σ 383 (3 * p + i) = S.2.2.1 p i ∧ σ 382 (3 * p + i) = S.2.2.2 p i) ∧
  ∀ p t, 0 ≤ p → p < n → 0 ≤ t → t < 8 → σ 380 (8 * p + t) = hs S p t
def LM (s : Mem) (g n m : Int) (ls : Int → Int → Int) (sz : Int → Int) : Prop := (∀ p, 0 ≤ p → p < n → s 362 (7 * g + p) = sz p) ∧ ∀ p i, 0 ≤ p → p < n → 0 ≤ i → i < sz p → s 363 (56 * g + 8 * p + i) = ls p i
theorem hs_tk {S : RS} {k p t q u : Int} (ht : ¬ t = -1) (hg : 0 ≤ S.2.1 p) : hs (tk S k p t) q u = if q = p ∧ u = t then hs S q u + 1 else hs S q u := by
  unfold tk
  rw [if_neg ht]
  unfold hs
  show sm (fun i => if up2 S.2.2.1 p (S.2.1 p) t q i = u then 1 else 0) (up S.2.1 p (S.2.1 p + 1) q).toNat 0 0 = _
  by_cases c : q = p
  · subst c
    rw [up_s, show (S.2.1 q + 1).toNat = (S.2.1 q).toNat + 1 by omega, sm_snoc, sm_congr (f' := fun i => if S.2.2.1 q i = u then 1 else 0) _ 0 0 (fun j j0 j1 => by
      show (if up2 S.2.2.1 q (S.2.1 q) t q j = u then (1 : Int) else 0) = _
      rw [up2_n (by omega)])]
    rw [show (0 : Int) + ((S.2.1 q).toNat : Int) = S.2.1 q by omega, up2_s]
    by_cases z : u = t
    · rw [if_pos z.symm, if_pos ⟨rfl, z⟩]
    · rw [if_neg (fun y => z y.symm), if_neg (fun y => z y.2)]; omega
  · rw [up_n c, if_neg (fun y => c y.1), sm_congr (f' := fun i => if S.2.2.1 q i = u then 1 else 0) _ 0 0 (fun j j0 j1 => by
      show (if up2 S.2.2.1 p (S.2.1 p) t q j = u then (1 : Int) else 0) = _
      rw [up2_n (fun y => c y.1)])]
theorem hs_r {S : RS} {p t : Int} (h : 0 ≤ S.2.1 p) : 0 ≤ hs S p t ∧ hs S p t ≤ S.2.1 p := by
  unfold hs
  have := sm_le (f := fun i => if S.2.2.1 p i = t then 1 else 0) (lo := 0) (hi := 1) (S.2.1 p).toNat 0 0 (fun j _ _ => by (try dsimp only); split <;> omega)
  omega
theorem M_firstLeft_ok {d : Nat} {K : Int → Mem → Prop} {s : Mem} {g n m p : Int} {ls : Int → Int → Int} {sz : Int → Int} {S : RS} (g0 : 0 ≤ g) (g5 : g ≤ 5) (hn : n ≤ 7) (hm : m ≤ 8) (hL : LGo n m ls sz) (hX : LM s g n m ls sz) (hS : ∀ t, 0 ≤ t → t < m → s 381 t = S.1 t) (p0 : 0 ≤ p) (p1 : p < n) (k : K (nt (frs ls sz S p)) s) : AM2 i_M_firstLeft (d + 1) [(2, 356), (0, g), (0, p)] s K := by
  have hs := hL.1 p p0 p1
  have hx := hX.1 p p0 p1
  unfold frs at k
  have go : ∀ (q : Nat) (i : Int), 0 ≤ i → i + q = sz p → K (nt (fsT (fun x => decide (0 < S.1 x)) (ls p) q i)) s → AW2 i_M_firstLeft (d + 1) 2 [] [(0, (2, 356)), (1, (0, g)), (2, (0, p)), (3, (0, i))] s K := by
    intro q
    induction q with
    | zero =>
      intro i i0 e h
      refine s_M_firstLeft_2 ?_
      (try simp (disch := omega) only [w32_id, w64_id, inb_eq, st_self, st_ne, pt3, ck_g, ck_am, ck_he, ck_sz, ck_ls, ck_lv, ck_pa, ck_kn, sn_am, sn_he, sn_sz, sn_ls, sn_lv, sn_pa, sn_kn, pt_am, pt_he, pt_sz, pt_ls, pt_lv, pt_pa, pt_kn, ck_lr, ck_vr, ck_pr, sn_lr, sn_vr, sn_pr, pt_lr, pt_vr, pt_pr, pt_sh, ck_sh, pt_to, ck_to, sn_to, hx])
      exact ⟨fun c => by omega, fun _ => h⟩
    | succ q ih =>
      intro i i0 e h
      have h1 := hX.2 p i p0 p1 i0 (by omega)
      have h2 := hL.2 p i p0 p1 i0 (by omega)
      have h3 := hS _ h2.1 h2.2
      refine s_M_firstLeft_2 ?_
      (try simp (disch := omega) only [w32_id, w64_id, inb_eq, st_self, st_ne, pt3, ck_g, ck_am, ck_he, ck_sz, ck_ls, ck_lv, ck_pa, ck_kn, sn_am, sn_he, sn_sz, sn_ls, sn_lv, sn_pa, sn_kn, pt_am, pt_he, pt_sz, pt_ls, pt_lv, pt_pa, pt_kn, ck_lr, ck_vr, ck_pr, sn_lr, sn_vr, sn_pr, pt_lr, pt_vr, pt_pr, pt_sh, ck_sh, pt_to, ck_to, sn_to, hx, h1, h3])
      refine ⟨fun _ => ⟨fun c => ?_, fun c => ?_⟩, fun c => by omega⟩
      · rw [fsT_T (decide_eq_true c)] at h
        unfold nt at h
        rw [if_neg (by omega)] at h
        exact h
      · rw [fsT_F (decide_eq_false c)] at h
        exact ih (i + 1) (by omega) (by omega) h
  exact e_M_firstLeft fun _ _ => go _ 0 (Int.le_refl 0) (by omega) k
