-- ===== what is left is taken by those that have nothing: the class
def cntE (n : Int) (E : Int → Int) (t : Int) : Int := sm (fun v => if E v = t then 1 else 0) n.toNat 0 0
def rsF (n : Int) (am : Int → Int) (ls : Int → Int → Int) (sz : Int → Int) : Nat → Int → (Int → Int) → Int → Int
  | 0, _, E => E
  | q + 1, p, E => rsF n am ls sz q (p + 1) (if E p < 0 then up E p (fsT (fun t => decide (cntE n E t < am t)) (ls p) (sz p).toNat 0) else E)
theorem X_leftOf_ok {d : Nat} {K : Int → Mem → Prop} {s : Mem} {g n m : Int} {E am : Int → Int} (g0 : 0 ≤ g) (g5 : g ≤ 5) (eN : s (4 + 43 * g) 1 = n) (eM : s (4 + 43 * g) 0 = m) (n7 : 0 ≤ n ∧ n ≤ 7) (m8 : 0 ≤ m ∧ m ≤ 8) (hE : ∀ o, 0 ≤ o → o < n → s 313 o = E o) (ha : ∀ t, 0 ≤ t → t < m → s (5 + 43 * g) t = am t)
    (k : ∀ b, 0 ≤ b → b < 256 → (∀ t, 0 ≤ t → t < m → bt b t = decide (cntE n E t < am t)) → K b s) : AM2 i_Trade_leftOf (d + 1) [(2, 311), (2, 4 + 43 * g)] s K := by
  have ckg := fun {P : Prop} => ck_g (P := P) g0 g5
  have l4 : ∀ (q : Nat) (t b : Int), 0 ≤ t → t + q = m → (0 ≤ b ∧ b < 65536) → (∀ u, 0 ≤ u → u < 16 → bt b u = (decide (u < t) && decide (cntE n E u < am u))) → AW2 i_Trade_leftOf (d + 1) 4 [] [(0, (2, 311)), (1, (2, 4 + 43 * g)), (2, (0, b)), (3, (0, t))] s K := by
    intro q
    induction q with
    | zero =>
      intro t b t0 e hb hbt
      refine s_Trade_leftOf_4 ?_
      rw [ckg, eM]
      refine brF_i (by omega) (k b hb.1 (bit_256 hb.1 hb.2 (fun u u0 u1 => ?_)) (fun u u0 u1 => ?_))
      · rw [hbt u (by omega) u1, decide_eq_false (by omega)]; rfl
      · rw [hbt u u0 (by omega), decide_eq_true (show u < t by omega)]; rfl
    | succ q ih =>
      intro t b t0 e hb hbt
      refine s_Trade_leftOf_4 ?_
      rw [ckg, eM]
      refine brT_i (by omega) ?_
      have l12 : ∀ (v : Nat) (o c : Int), 0 ≤ o → o + v = n → (0 ≤ c ∧ c ≤ o) → sm (fun v => if E v = t then 1 else 0) v o c = cntE n E t → AW2 i_Trade_leftOf (d + 1) 12 [] [(0, (2, 311)), (1, (2, 4 + 43 * g)), (2, (0, b)), (3, (0, t)), (4, (0, c)), (5, (0, o))] s K := by
        intro v
        induction v with
        | zero =>
          intro o c o0 e2 hc ec
          have ec : c = cntE n E t := ec
          refine s_Trade_leftOf_12 ?_
          rw [ckg, eN]
          refine brF_i (by omega) ?_
          (try simp (disch := omega) only [w32_id, w64_id, inb_eq, st_self, st_ne, pt3, ck_g, ck_am, ck_he, ck_sz, ck_ls, ck_lv, ck_pa, ck_kn, sn_am, sn_he, sn_sz, sn_ls, sn_lv, sn_pa, sn_kn, pt_am, pt_he, pt_sz, pt_ls, pt_lv, pt_pa, pt_kn, ck_lr, ck_vr, ck_pr, sn_lr, sn_vr, sn_pr, pt_lr, pt_vr, pt_pr, pt_sh, ck_sh, pt_to, ck_to, sn_to])
          rw [ha t t0 (by omega), ec]
          refine ⟨fun c2 => ?_, fun c2 => ?_⟩
          · have ho := bit_or (b := b) (t := t) hb.1 hb.2 t0 (by omega)
            refine ih (t + 1) _ (by omega) (by omega) ho.1 (fun u u0 u1 => ?_)
            rw [ho.2 u u0, hbt u u0 u1]
            by_cases z : u = t
            · rw [z, decide_eq_true (show t < t + 1 by omega), decide_eq_true c2, decide_eq_true (rfl : t = t), Bool.or_true]; rfl
            · rw [decide_eq_false z, Bool.or_false]
              by_cases y : u < t
              · rw [decide_eq_true y, decide_eq_true (show u < t + 1 by omega)]
              · rw [decide_eq_false y, decide_eq_false (show ¬ u < t + 1 by omega)]
          · refine ih (t + 1) b (by omega) (by omega) hb (fun u u0 u1 => ?_)
            rw [hbt u u0 u1]
            by_cases z : u = t
            · rw [z, decide_eq_false c2, Bool.and_false, Bool.and_false]
            · by_cases y : u < t
              · rw [decide_eq_true y, decide_eq_true (show u < t + 1 by omega)]
              · rw [decide_eq_false y, decide_eq_false (show ¬ u < t + 1 by omega)]
        | succ v ihv =>
          intro o c o0 e2 hc ec
          have ec : sm (fun v => if E v = t then 1 else 0) v (o + 1) (c + (if E o = t then 1 else 0)) = cntE n E t := ec
          refine s_Trade_leftOf_12 ?_
          rw [ckg, eN, hE o o0 (by omega), w32_id (x := o + 1) (by omega) (by omega), w32_id (x := c + 1) (by omega) (by omega), w32_id (x := c + 0) (by omega) (by omega)]
          refine brT_i (by omega) (inb_i o0 (by omega) ⟨fun y => ?_, fun y => ?_⟩)
          · rw [if_pos y] at ec; exact ihv (o + 1) (c + 1) (by omega) (by omega) (by omega) ec
          · rw [if_neg y] at ec; exact ihv (o + 1) (c + 0) (by omega) (by omega) (by omega) ec
      exact l12 n.toNat 0 0 (Int.le_refl 0) (by omega) ⟨Int.le_refl 0, Int.le_refl 0⟩ rfl
  exact e_Trade_leftOf (l4 m.toNat 0 0 (Int.le_refl 0) (by omega) (by decide) (fun u u0 u1 => by rw [bit_0, decide_eq_false (by omega)]; rfl))
theorem X_takeRest_ok {d : Nat} {K : Int → Mem → Prop} {s : Mem} {g n m : Int} {ls : Int → Int → Int} {sz E am : Int → Int} (g0 : 0 ≤ g) (g5 : g ≤ 5) (hL : LGo n m ls sz) (hX : LX s g n m ls sz) (eN : s (4 + 43 * g) 1 = n) (eM : s (4 + 43 * g) 0 = m) (n7 : 0 ≤ n ∧ n ≤ 7) (m8 : 0 ≤ m ∧ m ≤ 8) (hE : ∀ o, 0 ≤ o → o < n → s 313 o = E o) (ha : ∀ t, 0 ≤ t → t < m → s (5 + 43 * g) t = am t)
    (k : ∀ s2 : Mem, (∀ o, 0 ≤ o → o < n → s2 313 o = rsF n am ls sz n.toNat 0 E o) → (∀ b j, ¬ b = 313 → s2 b j = s b j) → K 0 s2) : AM2 i_Trade_takeRest (d + 2) [(2, 311), (2, 4 + 43 * g)] s K := by
  have ckg := fun {P : Prop} => ck_g (P := P) g0 g5
  have l2 : ∀ (q : Nat) (p : Int) (E2 : Int → Int) (s1 : Mem), 0 ≤ p → p + q = n → (∀ o, 0 ≤ o → o < n → s1 313 o = E2 o) → (∀ b j, ¬ b = 313 → s1 b j = s b j) → rsF n am ls sz q p E2 = rsF n am ls sz n.toNat 0 E → AW2 i_Trade_takeRest (d + 2) 2 [] [(0, (2, 311)), (1, (2, 4 + 43 * g)), (2, (0, p))] s1 K := by
    intro q
    induction q with
    | zero =>
      intro p E2 s1 p0 e h f ee
      have ee : E2 = rsF n am ls sz n.toNat 0 E := ee
      refine s_Trade_takeRest_2 ?_
      rw [ckg, f (4 + 43 * g) 1 (by omega), eN]
      exact brF_i (by omega) (k s1 (fun o o0 o1 => by rw [← ee]; exact h o o0 o1) f)
    | succ q ih =>
      intro p E2 s1 p0 e h f ee
      have e1 : rsF n am ls sz (q + 1) p E2 = rsF n am ls sz q (p + 1) (if E2 p < 0 then up E2 p (fsT (fun t => decide (cntE n E2 t < am t)) (ls p) (sz p).toNat 0) else E2) := rfl
      rw [e1] at ee
      have hs := hL.1 p p0 (by omega)
      have es := hX.1 p p0 (by omega)
      refine s_Trade_takeRest_2 ?_
      rw [ckg, f (4 + 43 * g) 1 (by omega), eN, h p p0 (by omega), w32_id (x := p + 1) (by omega) (by omega)]
      refine brT_i (by omega) (inb_i p0 (by omega) ⟨fun c => ?_, fun c => ?_⟩)
      · rw [if_pos c] at ee
        refine X_leftOf_ok (d := d) (n := n) (m := m) (E := E2) (am := am) g0 g5 (by rw [f _ _ (by omega)]; exact eN) (by rw [f _ _ (by omega)]; exact eM) n7 m8 h (fun t t0 t1 => by rw [f _ _ (by omega)]; exact ha t t0 t1) (fun b b0 b1 hb => ?_)
        rw [ckg]
        refine X_firstOf_ok g0 g5 p0 (by omega) (by rw [f _ _ (by omega), es]; exact hs) b0 b1 (fun i i0 i1 => ?_) ?_
        · rw [f _ _ (by omega), es] at i1
          have := hL.2 p i p0 (by omega) i0 i1
          rw [f _ _ (by omega), hX.2 p i p0 (by omega) i0 i1]
          omega
        · rw [f (7 + 43 * g) p (by omega), es, fsT_congr (c' := fun t => decide (cntE n E2 t < am t)) (ls' := ls p) (sz p).toNat 0 (fun j j0 j1 => by
            have := hL.2 p j p0 (by omega) j0 (by omega)
            have e1 : s1 (9 + 43 * g + p) j = ls p j := by rw [f _ _ (by omega)]; exact hX.2 p j p0 (by omega) j0 (by omega)
            exact ⟨e1, by rw [e1]; exact hb _ this.1 this.2⟩)]
          refine inb_i p0 (by omega) (ih (p + 1) _ _ (by omega) (by omega) (fun o o0 o1 => ?_) (fun b j z => by rw [st_ne (by omega)]; exact f b j z) ee)
          by_cases z : o = p
          · rw [z, st_self, up_s]
          · rw [st_ne (by omega), up_n z]; exact h o o0 o1
      · rw [if_neg c] at ee
        exact ih (p + 1) E2 s1 (by omega) (by omega) h f ee
  exact e_Trade_takeRest (l2 n.toNat 0 E s (Int.le_refl 0) (by omega) hE (fun _ _ _ => rfl) rfl)
