-- ===== shares over all orders: the class
def hp (S : RS) (p y : Int) (i : Nat) : Int := sm (fun j => if S.2.2.1 p j = y then 1 else 0) i 0 0
theorem hp_s {S : RS} {p y : Int} (i : Nat) : hp S p y (i + 1) = hp S p y i + (if S.2.2.1 p i = y then 1 else 0) := by
  unfold hp
  rw [sm_snoc]
  show _ + (if S.2.2.1 p (0 + (i : Int)) = y then (1 : Int) else 0) = _
  rw [show (0 : Int) + i = i by omega]
theorem hp_r {S : RS} {p y : Int} (i : Nat) : 0 ≤ hp S p y i ∧ hp S p y i ≤ i := by
  have := sm_le (f := fun j => if S.2.2.1 p j = y then 1 else 0) (lo := 0) (hi := 1) i 0 0 (fun j _ _ => by
    show 0 ≤ (if S.2.2.1 p j = y then (1 : Int) else 0) ∧ (if S.2.2.1 p j = y then (1 : Int) else 0) ≤ 1
    split <;> omega)
  unfold hp
  omega
/-- a hand added -/
def adS (S : RS) (F : Int → Int) : Int → Int := fun x => F x + hs S (x / 8) (x % 8)
theorem adS_at {S : RS} {F : Int → Int} {p t : Int} (t0 : 0 ≤ t) (t8 : t < 8) : adS S F (8 * p + t) = F (8 * p + t) + hs S p t := by
  unfold adS
  rw [show (8 * p + t) / 8 = p by omega, show (8 * p + t) % 8 = t by omega]
def FBc (n c : Int) (F : Int → Int) : Prop := ∀ p t, 0 ≤ p → p < n → 0 ≤ t → t < 8 → 0 ≤ F (8 * p + t) ∧ F (8 * p + t) ≤ c
theorem hs_r3 {S : RS} {p t : Int} (h : 0 ≤ S.2.1 p ∧ S.2.1 p ≤ 3) : 0 ≤ hs S p t ∧ hs S p t ≤ 3 := by
  have := hp_r (S := S) (p := p) (y := t) (S.2.1 p).toNat
  unfold hp at this
  unfold hs
  omega
theorem FBc_ad {n c : Int} {S : RS} {F : Int → Int} (hg : ∀ p, 0 ≤ p → p < n → 0 ≤ S.2.1 p ∧ S.2.1 p ≤ 3) (h : FBc n c F) : FBc n (c + 3) (adS S F) := by
  intro p t p0 p1 t0 t1
  rw [adS_at t0 t1]
  have h1 := h p t p0 p1 t0 t1
  have h2 := hs_r3 (t := t) (hg p p0 p1)
  omega
theorem X_addHand_ok {d : Nat} {K : Int → Mem → Prop} {s : Mem} {g h k n m c : Int} {S : RS} {F : Int → Int} (hh : h = 263 ∨ h = 285) (g0 : 0 ≤ g) (g5 : g ≤ 5) (k0 : 0 ≤ k) (k7 : k < 7) (en : s (4 + 43 * g) 1 = n) (n7 : 0 ≤ n ∧ n ≤ 7) (m8 : m ≤ 8) (hS : HR s h n m S) (hP : PI n m S) (hg : ∀ p, 0 ≤ p → p < n → 0 ≤ S.2.1 p ∧ S.2.1 p ≤ 3) (hT : TP s (34 + 43 * g + 2 * k) n m F) (hF : FBc n c F) (hc : c ≤ 100000)
    (q : ∀ s2 : Mem, TP s2 (34 + 43 * g + 2 * k) n m (adS S F) → (∀ b j, ¬ b = 34 + 43 * g + 2 * k → s2 b j = s b j) → K 0 s2) : AM2 i_Shares_addHand (d + 1) [(2, 33 + 43 * g + 2 * k), (2, 4 + 43 * g), (2, h)] s K := by
  have ckg := fun {P : Prop} => ck_g (P := P) g0 g5
  obtain ⟨H1, H2, H3, H4⟩ := hS
  have l8 : ∀ (u i : Nat) (p : Int) (s1 : Mem), 0 ≤ p → p < n → (i : Int) + u = S.2.1 p → (∀ x y, 0 ≤ x → x < n → 0 ≤ y → y < m → s1 (34 + 43 * g + 2 * k) (8 * x + y) = F (8 * x + y) + (if x < p then hs S x y else if x = p then hp S p y i else 0)) → (∀ b j, ¬ b = 34 + 43 * g + 2 * k → s1 b j = s b j) →
      (∀ s2 : Mem, (∀ x y, 0 ≤ x → x < n → 0 ≤ y → y < m → s2 (34 + 43 * g + 2 * k) (8 * x + y) = F (8 * x + y) + (if x < p + 1 then hs S x y else 0)) → (∀ b j, ¬ b = 34 + 43 * g + 2 * k → s2 b j = s b j) → AW2 i_Shares_addHand (d + 1) 2 [] [(0, (2, 33 + 43 * g + 2 * k)), (1, (2, 4 + 43 * g)), (2, (2, h)), (3, (0, p + 1))] s2 K) → AW2 i_Shares_addHand (d + 1) 8 [] [(0, (2, 33 + 43 * g + 2 * k)), (1, (2, 4 + 43 * g)), (2, (2, h)), (3, (0, p)), (4, (0, (i : Int)))] s1 K := by
    intro u
    induction u with
    | zero =>
      intro i p s1 p0 p1 e r f next
      have ei : (S.2.1 p).toNat = i := by omega
      refine s_Shares_addHand_8 ?_
      (try simp (disch := omega) only [w32_id, w64_id, inb_eq, st_self, st_ne, pt3, ck_g, ck_am, ck_he, ck_sz, ck_ls, ck_lv, ck_pa, ck_kn, sn_am, sn_he, sn_sz, sn_ls, sn_lv, sn_pa, sn_kn, pt_am, pt_he, pt_sz, pt_ls, pt_lv, pt_pa, pt_kn, ck_lr, ck_vr, ck_pr, sn_lr, sn_vr, sn_pr, pt_lr, pt_vr, pt_pr, pt_sh, ck_sh, pt_to, ck_to, sn_to, ck_h, ck_hl, ck_hg, ck_ht, ck_hm, ck_tr, ck_mr, sn_hl, sn_hg, sn_ht, sn_hm, sn_tr, sn_mr, pt_hl, pt_hg, pt_ht, pt_hm, pt_tr, pt_mr])
      rw [f (h + 2) p (by omega), H2 p p0 p1]
      refine brF_i (by omega) (next s1 (fun x y x0 x1 y0 y1 => ?_) f)
      rw [r x y x0 x1 y0 y1]
      by_cases c1 : x < p
      · rw [if_pos c1, if_pos (by omega)]
      · rw [if_neg c1]
        by_cases c2 : x = p
        · rw [if_pos c2, if_pos (by omega), c2]
          show _ = F (8 * p + y) + sm _ (S.2.1 p).toNat 0 0
          rw [ei]; rfl
        · rw [if_neg c2, if_neg (by omega)]
    | succ u ih =>
      intro i p s1 p0 p1 e r f next
      have hg1 := hg p p0 p1
      have h3 := (H3 p i p0 p1 (by omega) (by omega)).1
      have hp3 := hP.2 p i p0 p1 (by omega) (by omega)
      have hv := hF p (S.2.2.1 p i) p0 p1 hp3.1 (by omega)
      have hq := hp_r (S := S) (p := p) (y := S.2.2.1 p i) i
      have hr := r p (S.2.2.1 p i) p0 p1 hp3.1 hp3.2
      rw [if_neg (by omega), if_pos rfl] at hr
      refine s_Shares_addHand_8 ?_
      (try simp (disch := omega) only [w32_id, w64_id, inb_eq, st_self, st_ne, pt3, ck_g, ck_am, ck_he, ck_sz, ck_ls, ck_lv, ck_pa, ck_kn, sn_am, sn_he, sn_sz, sn_ls, sn_lv, sn_pa, sn_kn, pt_am, pt_he, pt_sz, pt_ls, pt_lv, pt_pa, pt_kn, ck_lr, ck_vr, ck_pr, sn_lr, sn_vr, sn_pr, pt_lr, pt_vr, pt_pr, pt_sh, ck_sh, pt_to, ck_to, sn_to, ck_h, ck_hl, ck_hg, ck_ht, ck_hm, ck_tr, ck_mr, sn_hl, sn_hg, sn_ht, sn_hm, sn_tr, sn_mr, pt_hl, pt_hg, pt_ht, pt_hm, pt_tr, pt_mr])
      rw [f (h + 2) p (by omega), H2 p p0 p1, f (h + 12 + p) i (by omega), h3]
      refine brT_i (by omega) ?_
      (try simp (disch := omega) only [w32_id, w64_id, inb_eq, st_self, st_ne, pt3, ck_g, ck_am, ck_he, ck_sz, ck_ls, ck_lv, ck_pa, ck_kn, sn_am, sn_he, sn_sz, sn_ls, sn_lv, sn_pa, sn_kn, pt_am, pt_he, pt_sz, pt_ls, pt_lv, pt_pa, pt_kn, ck_lr, ck_vr, ck_pr, sn_lr, sn_vr, sn_pr, pt_lr, pt_vr, pt_pr, pt_sh, ck_sh, pt_to, ck_to, sn_to, ck_h, ck_hl, ck_hg, ck_ht, ck_hm, ck_tr, ck_mr, sn_hl, sn_hg, sn_ht, sn_hm, sn_tr, sn_mr, pt_hl, pt_hg, pt_ht, pt_hm, pt_tr, pt_mr])
      rw [show p * 8 + S.2.2.1 p i = 8 * p + S.2.2.1 p i by omega, hr]
      try rw [w64_id (by omega) (by omega)]
      refine ih (i + 1) p _ p0 p1 (by omega) (fun x y x0 x1 y0 y1 => ?_) (fun b j z => by rw [st_ne (by omega)]; exact f b j z) next
      by_cases z : x = p ∧ y = S.2.2.1 p i
      · rw [z.1, z.2, st_self, if_neg (by omega), if_pos rfl, hp_s, if_pos rfl]; omega
      · rw [st_ne (by omega), r x y x0 x1 y0 y1, hp_s]
        by_cases c1 : x < p
        · rw [if_pos c1, if_pos c1]
        · rw [if_neg c1, if_neg c1]
          by_cases c2 : x = p
          · rw [if_pos c2, if_pos c2, if_neg (show ¬ S.2.2.1 p i = y from fun w => z ⟨c2, w.symm⟩)]; omega
          · rw [if_neg c2, if_neg c2]
  have l2 : ∀ (u : Nat) (p : Int) (s1 : Mem), 0 ≤ p → p + u = n → (∀ x y, 0 ≤ x → x < n → 0 ≤ y → y < m → s1 (34 + 43 * g + 2 * k) (8 * x + y) = F (8 * x + y) + (if x < p then hs S x y else 0)) → (∀ b j, ¬ b = 34 + 43 * g + 2 * k → s1 b j = s b j) → AW2 i_Shares_addHand (d + 1) 2 [] [(0, (2, 33 + 43 * g + 2 * k)), (1, (2, 4 + 43 * g)), (2, (2, h)), (3, (0, p))] s1 K := by
    intro u
    induction u with
    | zero =>
      intro p s1 p0 e r f
      refine s_Shares_addHand_2 ?_
      rw [ckg, f (4 + 43 * g) 1 (by omega), en]
      refine brF_i (by omega) (q s1 (fun x y x0 x1 y0 y1 => ?_) f)
      rw [r x y x0 x1 y0 y1, if_pos (by omega), adS_at y0 (by omega)]
    | succ u ih =>
      intro p s1 p0 e r f
      have hg1 := hg p p0 (by omega)
      refine s_Shares_addHand_2 ?_
      rw [ckg, f (4 + 43 * g) 1 (by omega), en]
      refine brT_i (by omega) (l8 (S.2.1 p).toNat 0 p s1 p0 (by omega) (by omega) (fun x y x0 x1 y0 y1 => ?_) f (fun s2 y1 y2 => ih (p + 1) s2 (by omega) (by omega) y1 y2))
      rw [r x y x0 x1 y0 y1]
      by_cases c1 : x < p
      · rw [if_pos c1, if_pos c1]
      · rw [if_neg c1, if_neg c1]
        show _ = _ + (if x = p then (0 : Int) else 0)
        split <;> rfl
  exact e_Shares_addHand (l2 n.toNat 0 s (Int.le_refl 0) (by omega) (fun x y x0 x1 y0 y1 => by rw [if_neg (by omega), hT x y x0 x1 y0 y1]; omega) (fun _ _ _ => rfl))
