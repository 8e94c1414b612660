-- ===== parted: the model parts a table
theorem M_most_ok {d : Nat} {K : Int → Mem → Prop} {s : Mem} {g n m rest : Int} {am T : Int → Int} (g0 : 0 ≤ g) (g5 : g ≤ 5) (eN : s 357 g = n) (eM : s 358 g = m) (n7 : 1 ≤ n ∧ n ≤ 7) (m8 : 1 ≤ m ∧ m ≤ 8) (hPT : PT n m am T rest) (hT : TP s 398 n m T) (hat : ∀ t, 0 ≤ t → t < m → s 360 (8 * g + t) = am t ∧ 1 ≤ am t ∧ am t ≤ 9) (ha : ∀ x, 0 ≤ x → x < n → 0 ≤ s 402 x ∧ s 402 x < m) (hu : ∀ t, 0 ≤ t → t < m → s 403 t = cntE n (s 402) t)
    (k : K (moF n m am T (s 402) rest) s) : AM2 i_M_most (d + 2) [(2, 356), (0, g), (0, rest)] s K := by
  have hF : FB n m T := hPT.2.1
  have hr := hPT.1
  have l41 : ∀ (q : Nat) (t lo : Int), 0 ≤ t → t + q = m → lo ≤ 60 → mnf (moG n am T (s 402) rest) q t lo = moF n m am T (s 402) rest → AW2 i_M_most (d + 2) 41 [] [(0, (2, 356)), (1, (0, g)), (2, (0, rest)), (3, (0, lo)), (4, (0, t))] s K := by
    intro q
    induction q with
    | zero =>
      intro t lo t0 e hlo er
      have er : lo = moF n m am T (s 402) rest := er
      rw [← er] at k
      refine s_M_most_41 (inb_i g0 (by omega) ?_)
      rw [eM]
      exact brF_i (by omega) k
    | succ q ih =>
      intro t lo t0 e hlo er
      have er : mnf (moG n am T (s 402) rest) q (t + 1) (minI lo (moG n am T (s 402) rest t)) = moF n m am T (s 402) rest := er
      have h1 := hat t t0 (by omega)
      have h2 := cnt_r (s 402) t (show 0 ≤ n by omega)
      have h3 := hPT.2.2.2 t t0 (by omega)
      have h4 := colS_r (n := n) (m := m) (t := t) (F := T) (by omega) hF t0 (by omega)
      have h5 := mul_b (a := am t) (b := rest) (A := 9) (C := 60) (by omega) h1.2.2 hr.1 hr.2
      refine s_M_most_41 (inb_i g0 (by omega) ?_)
      rw [eM, w32_id (x := 8 * g) (by omega) (by omega), w32_id (x := 8 * g + t) (by omega) (by omega), h1.1, hu t t0 (by omega), w32_id (x := am t - cntE n (s 402) t) (by omega) (by omega), w32_id (x := t + 1) (by omega) (by omega), w32_id (x := am t * rest) (by omega) (by omega)]
      refine brT_i (by omega) (inb_i (by omega) (by omega) (inb_i t0 (by omega) ⟨fun c => inb_i (by omega) (by omega) (M_colS_ok (d := d) (n := n) (m := m) (F := T) g0 g5 eN n7 t0 (by omega) m8.2 hT hF (nzP_i (by omega) ?_)), fun c => ?_⟩))
      · rw [w32_id (x := am t * rest - colS n T t) (by omega) (by omega), divI_nn (by omega) (by omega) c (by omega)]
        have eg : moG n am T (s 402) rest t = (am t * rest - colS n T t) / (am t - cntE n (s 402) t) := by unfold moG; rw [if_pos c]
        rw [eg] at er
        refine ⟨fun y => ?_, fun y => ?_⟩
        · rw [show minI lo ((am t * rest - colS n T t) / (am t - cntE n (s 402) t)) = (am t * rest - colS n T t) / (am t - cntE n (s 402) t) by unfold minI; rw [if_pos y]] at er
          exact ih (t + 1) _ (by omega) (by omega) (by omega) er
        · rw [show minI lo ((am t * rest - colS n T t) / (am t - cntE n (s 402) t)) = lo by unfold minI; rw [if_neg y]] at er
          exact ih (t + 1) _ (by omega) (by omega) hlo er
      · have eg : moG n am T (s 402) rest t = 60 := by unfold moG; rw [if_neg c]
        rw [eg, show minI lo 60 = lo by unfold minI; rw [if_neg (by omega)]] at er
        exact ⟨fun y => by omega, fun y => ih (t + 1) lo (by omega) (by omega) hlo er⟩
  have l4 : ∀ (q : Nat) (p lo : Int), 0 ≤ p → p + q = n → lo ≤ 60 → mnf (fun p => T (8 * p + s 402 p)) q p lo = mnf (fun p => T (8 * p + s 402 p)) n.toNat 0 rest → AW2 i_M_most (d + 2) 4 [] [(0, (2, 356)), (1, (0, g)), (2, (0, rest)), (3, (0, lo)), (4, (0, p))] s K := by
    intro q
    induction q with
    | zero =>
      intro p lo p0 e hlo er
      have er : lo = mnf (fun p => T (8 * p + s 402 p)) n.toNat 0 rest := er
      refine s_M_most_4 (inb_i g0 (by omega) ?_)
      rw [eN]
      exact brF_i (by omega) (l41 m.toNat 0 lo (Int.le_refl 0) (by omega) hlo (by rw [er]; rfl))
    | succ q ih =>
      intro p lo p0 e hlo er
      have er : mnf (fun p => T (8 * p + s 402 p)) q (p + 1) (minI lo (T (8 * p + s 402 p))) = mnf (fun p => T (8 * p + s 402 p)) n.toNat 0 rest := er
      have hap := ha p p0 (by omega)
      refine s_M_most_4 (inb_i g0 (by omega) ?_)
      rw [eN, w32_id (x := 8 * p) (by omega) (by omega), w32_id (x := 8 * p + s 402 p) (by omega) (by omega), hT p _ p0 (by omega) hap.1 hap.2, w32_id (x := p + 1) (by omega) (by omega)]
      refine brT_i (by omega) (inb_i p0 (by omega) (inb_i (by omega) (by omega) ⟨fun y => inb_i p0 (by omega) (inb_i (by omega) (by omega) ?_), fun y => ?_⟩))
      · rw [show minI lo (T (8 * p + s 402 p)) = T (8 * p + s 402 p) by unfold minI; rw [if_pos y]] at er
        exact ih (p + 1) _ (by omega) (by omega) (by omega) er
      · rw [show minI lo (T (8 * p + s 402 p)) = lo by unfold minI; rw [if_neg y]] at er
        exact ih (p + 1) _ (by omega) (by omega) hlo er
  exact e_M_most fun _ _ => l4 n.toNat 0 rest (Int.le_refl 0) (by omega) hr.2 rfl
def ansP (l : List (Int × Int)) (i w : Int) : Int := if i = -1 then (l.length : Int) else if i < (l.length : Int) then (if w = 0 then (l.getD i.toNat (0, 0)).1 else (l.getD i.toNat (0, 0)).2) else -1
theorem getD_mid {a b : List (Int × Int)} {e d : Int × Int} : (a ++ e :: b).getD a.length d = e := by
  rw [List.getD_eq_getElem?_getD, List.getElem?_append_right (Nat.le_refl _), Nat.sub_self]; rfl
theorem M_part_ok {d : Nat} {K : Int → Mem → Prop} {s : Mem} {g n m i w : Int} {am T : Int → Int} {l : List (Int × Int)} (g0 : 0 ≤ g) (g5 : g ≤ 5) (eN : s 357 g = n) (eM : s 358 g = m) (n7 : 1 ≤ n ∧ n ≤ 7) (m8 : 1 ≤ m ∧ m ≤ 8) (hat : ∀ t, 0 ≤ t → t < m → s 360 (8 * g + t) = am t ∧ 1 ≤ am t ∧ am t ≤ 9) (hi : -1 ≤ i) (hw : w = 0 ∨ w = 1) (hPT : PT n m am T 60) (hT : TP s 398 n m T) (hl : PtL n m am l T 60)
    (k : ∀ s2 : Mem, (∀ b j, ¬ b = 398 → ¬ (402 ≤ b ∧ b ≤ 404) → s2 b j = s b j) → K (ansP l i w) s2) : AW2 i_M_parted (d + 9) 49 [] [(0, (2, 356)), (1, (0, g)), (2, (0, i)), (3, (0, w)), (4, (0, 60)), (5, (0, 0))] s K := by
  have l49 : ∀ (l2 pre : List (Int × Int)) (T' : Int → Int) (rest : Int) (s1 : Mem), l = pre ++ l2 → (pre.length : Int) + rest ≤ 60 → (i = -1 ∨ (pre.length : Int) ≤ i) → PT n m am T' rest → TP s1 398 n m T' → PtL n m am l2 T' rest → (∀ b j, ¬ b = 398 → ¬ (402 ≤ b ∧ b ≤ 404) → s1 b j = s b j) → AW2 i_M_parted (d + 9) 49 [] [(0, (2, 356)), (1, (0, g)), (2, (0, i)), (3, (0, w)), (4, (0, rest)), (5, (0, (pre.length : Int)))] s1 K := by
    intro l2
    induction l2 with
    | nil =>
      intro pre T' rest s1 el hlen hpi hP hT1 hL f
      have hL : rest = 0 := hL
      rw [List.append_nil] at el
      have hk := k s1 f
      unfold ansP at hk
      rw [el] at hk
      refine s_M_parted_49 (brF_i (by omega) ⟨fun c => ?_, fun c => ?_⟩)
      · rw [if_pos c] at hk; exact hk
      · rw [if_neg c, if_neg (by omega)] at hk; exact hk
    | cons e l2 ih =>
      intro pre T' rest s1 el hlen hpi hP hT1 hL f
      obtain ⟨r0, a', hPk', ee, hL2⟩ := hL
      have hr := hP.1
      have hF : FB n m T' := hP.2.1
      refine s_M_parted_49 (brT_i r0 ?_)
      -- found, and taken off
      have found : ∀ s2 : Mem, TP s2 398 n m T' → (∀ t, 0 ≤ t → t < m → s2 403 t = 0 ∧ s2 404 t = ndF n am T' rest t) → (∀ b j, ¬ b = 398 → ¬ (402 ≤ b ∧ b ≤ 404) → s2 b j = s b j) → AM2 i_M_finds (d + 8) [(2, 356), (0, g), (0, 0)] s2 (fun _ σ2 => AM2 i_M_most (d + 8) [(2, 356), (0, g), (0, rest)] σ2 (fun w3 σ3 => AW2 i_M_parted (d + 9) 101 [] [(0, (2, 356)), (1, (0, g)), (2, (0, i)), (3, (0, w)), (4, (0, rest)), (5, (0, (pre.length : Int))), (6, (0, w3)), (7, (0, 0)), (8, (0, 0))] σ3 K)) := fun s2 hT2 h2 f2 => by
        have hndb : ∀ t, 0 ≤ t → t < m → -540 ≤ ndF n am T' rest t ∧ ndF n am T' rest t ≤ 9 := fun t t0 t1 => by
          have h1 := hat t t0 t1
          have h3 := hP.2.2.2 t t0 t1
          have h4 := colS_r (n := n) (m := m) (t := t) (F := T') (by omega) hF t0 t1
          have h5 := mul_b (a := am t) (b := rest) (A := 9) (C := 60) (by omega) h1.2.2 hr.1 hr.2
          have h6 : am t * (rest - 1) = am t * rest - am t := by rw [Int.mul_sub, Int.mul_one]
          unfold ndF
          omega
        have ed : d + 8 = d + (7 - n.toNat) + n.toNat + 1 := by omega
        have hfi := M_finds_ok (T := T') (am := am) g0 g5 n7 m8 n.toNat (d := d + (7 - n.toNat)) (K := fun _ σ2 => AM2 i_M_most (d + 8) [(2, 356), (0, g), (0, rest)] σ2 (fun w3 σ3 => AW2 i_M_parted (d + 9) 101 [] [(0, (2, 356)), (1, (0, g)), (2, (0, i)), (3, (0, w)), (4, (0, rest)), (5, (0, (pre.length : Int))), (6, (0, w3)), (7, (0, 0)), (8, (0, 0))] σ3 K)) s2 0 am (ndF n am T' rest) (Int.le_refl 0) (by omega) (by rw [f2 _ _ (by omega) (by omega)]; exact eN) (by rw [f2 _ _ (by omega) (by omega)]; exact eM) (fun t t0 t1 => by rw [f2 _ _ (by omega) (by omega)]; exact hat t t0 t1) (fun x t x0 x1 t0 t1 => hT2 x t x0 x1 t0 t1) (fun t t0 t1 => by
          have h1 := hat t t0 t1
          have h3 := hndb t t0 t1
          refine ⟨by rw [(h2 t t0 t1).1]; omega, by rw [(h2 t t0 t1).2]; omega, ⟨by omega, by omega⟩, by omega, h3.2⟩) (fun a s3 hPk y1 y2 f3 => ?_) (fun hnc => ?_)
        · rw [← ed] at hfi
          exact hfi
        · have hend := PkR_end n.toNat 0 am _ a (fun t t0 t1 => by have := hat t t0 t1; omega) hPk
          have hpk : ∀ x, 0 ≤ x → x < n → 0 ≤ a x ∧ a x < m ∧ 0 < T' (8 * x + a x) := fun x x0 x1 => hend.1 x x0 (by omega)
          have hoff := PT_off (by omega) (by omega) m8.2 (fun t t0 t1 => (hat t t0 t1).2) hP r0 hPk
          have haa : ∀ x, 0 ≤ x → x < n → a x = a' x := fun x x0 x1 => PkR_u n.toNat 0 am _ a a' hPk hPk' x x0 (by omega)
          have h402 : ∀ x, 0 ≤ x → x < n → s3 402 x = a x := fun x x0 x1 => y1 x x0 x1
          have ecn : ∀ t, cntE n (s3 402) t = cntE n a t := fun t => sm_congr _ _ _ (fun j j0 j1 => by rw [h402 j j0 (by omega)])
          have hmo := moF_congr (m := m) (am := am) (T := T') (rest := rest) h402
          have hmo2 := moF_congr (m := m) (am := am) (T := T') (rest := rest) haa
          have f3' : ∀ b j, ¬ b = 398 → ¬ (402 ≤ b ∧ b ≤ 404) → s3 b j = s b j := fun b j z1 z2 => by rw [f3 b j (by omega) (by omega)]; exact f2 b j z1 z2
          have hT3 : TP s3 398 n m T' := fun x t x0 x1 t0 t1 => by rw [f3 _ _ (by omega) (by omega)]; exact hT2 x t x0 x1 t0 t1
          refine M_most_ok (d := d + 6) (n := n) (m := m) (am := am) (T := T') g0 g5 (by rw [f3' _ _ (by omega) (by omega)]; exact eN) (by rw [f3' _ _ (by omega) (by omega)]; exact eM) n7 m8 hP hT3 (fun t t0 t1 => by rw [f3' _ _ (by omega) (by omega)]; exact hat t t0 t1) (fun x x0 x1 => by rw [h402 x x0 x1]; exact ⟨(hpk x x0 x1).1, (hpk x x0 x1).2.1⟩) (fun t t0 t1 => ?_) ?_
          · rw [y2 t t0 t1, ecn]
            show am t - am t + cntE n a t = _
            omega
          · rw [hmo]
            rw [← hmo2, ← offF_congr haa] at hL2
            rw [← hmo2, ← nbr_congr (f := a) n.toNat 0 0 (fun j j0 j1 => haa j j0 (by omega))] at ee
            generalize moF n m am T' a rest = v at *
            have l101 : ∀ (q : Nat) (p c : Int) (s4 : Mem), 0 ≤ p → p + q = n → (∀ x t, 0 ≤ x → x < n → 0 ≤ t → t < m → s4 398 (8 * x + t) = if x < p then offF n a v T' (8 * x + t) else T' (8 * x + t)) → (∀ b j, ¬ b = 398 → s4 b j = s3 b j) → (0 ≤ c ∧ c < ((10 ^ p.toNat : Nat) : Int)) → nbr a q p c = nbr a n.toNat 0 0 → AW2 i_M_parted (d + 9) 101 [] [(0, (2, 356)), (1, (0, g)), (2, (0, i)), (3, (0, w)), (4, (0, rest)), (5, (0, (pre.length : Int))), (6, (0, v)), (7, (0, c)), (8, (0, p))] s4 K := by
              intro q
              induction q with
              | zero =>
                intro p c s4 p0 e2 h4 f4 hc ec
                have ec : c = nbr a n.toNat 0 0 := ec
                have f5 : ∀ b j, ¬ b = 398 → ¬ (402 ≤ b ∧ b ≤ 404) → s4 b j = s b j := fun b j z1 z2 => by rw [f4 b j z1]; exact f3' b j z1 z2
                refine s_M_parted_101 (inb_i g0 (by omega) ?_)
                rw [f5 357 g (by omega) (by omega), eN]
                refine brF_i (by omega) ⟨fun ci => ?_, fun ci => ?_⟩
                · have hk := k s4 f5
                  unfold ansP at hk
                  rw [if_neg (by omega), el, if_pos (by rw [List.length_append, List.length_cons]; omega), show i.toNat = pre.length by omega, getD_mid, ee] at hk
                  refine ⟨fun cw => ?_, fun cw => ?_⟩
                  · rw [if_pos cw] at hk; rw [ec]; exact hk
                  · rw [if_neg cw] at hk; exact hk
                · rw [w32_id (x := rest - v) (by omega) (by omega), w32_id (x := (pre.length : Int) + 1) (by omega) (by omega)]
                  have el2 : (pre.length : Int) + 1 = ((pre ++ [e]).length : Int) := by rw [List.length_append, List.length_singleton]; omega
                  rw [el2]
                  refine ih (pre ++ [e]) (offF n a v T') (rest - v) s4 (by rw [el, List.append_assoc]; rfl) (by rw [← el2]; omega) (by rw [← el2]; omega) hoff.2 (fun x t x0 x1 t0 t1 => by rw [h4 x t x0 x1 t0 t1, if_pos (by omega)]) hL2 f5
              | succ q ihq =>
                intro p c s4 p0 e2 h4 f4 hc ec
                have ec : nbr a q (p + 1) (c * 10 + a p) = nbr a n.toNat 0 0 := ec
                have hx := hpk p p0 (by omega)
                have hTv := hP.2.1 p (a p) p0 (by omega) hx.1 hx.2.1
                have hv2 := h4 p (a p) p0 (by omega) hx.1 hx.2.1
                rw [if_neg (by omega)] at hv2
                have e402 : s4 402 p = a p := by rw [f4 _ _ (by omega)]; exact h402 p p0 (by omega)
                have h10 := p10 (k := p.toNat) (by omega)
                refine s_M_parted_101 (inb_i g0 (by omega) ?_)
                rw [f4 357 g (by omega), f3' 357 g (by omega) (by omega), eN, e402, w32_id (x := 8 * p) (by omega) (by omega), w32_id (x := 8 * p + a p) (by omega) (by omega), hv2, w32_id (x := T' (8 * p + a p) - v) (by omega) (by omega), show st s4 398 (8 * p + a p) (T' (8 * p + a p) - v) 402 p = a p by rw [st_ne (by omega)]; exact e402, w32_id (x := 10 * c) (by omega) (by omega), w32_id (x := 10 * c + a p) (by omega) (by omega), w32_id (x := p + 1) (by omega) (by omega), show 10 * c + a p = c * 10 + a p by omega]
                refine brT_i (by omega) (inb_i p0 (by omega) (inb_i (by omega) (by omega) (inb_i (by omega) (by omega) (inb_i p0 (by omega) ?_))))
                refine ihq (p + 1) _ _ (by omega) (by omega) (fun x t x0 x1 t0 t1 => ?_) (fun b j z => by rw [st_ne (by omega)]; exact f4 b j z) ?_ ec
                · by_cases y : x = p ∧ t = a p
                  · rw [y.1, y.2, st_self, if_pos (by omega), offF_at p0 (by omega) hx.1 (by omega), if_pos rfl]
                  · rw [st_ne (by omega), h4 x t x0 x1 t0 t1]
                    by_cases z : x < p
                    · rw [if_pos z, if_pos (by omega)]
                    · rw [if_neg z]
                      by_cases w : x = p
                      · rw [if_pos (by omega), offF_at x0 x1 t0 (by omega), if_neg (fun u => y ⟨w, by rw [w] at u; exact u.symm⟩)]; omega
                      · rw [if_neg (by omega)]
                · rw [show (p + 1).toNat = p.toNat + 1 by omega, Nat.pow_succ]
                  generalize 10 ^ p.toNat = z at *
                  omega
            exact l101 n.toNat 0 0 s3 (Int.le_refl 0) (by omega) (fun x t x0 x1 t0 t1 => by rw [if_neg (by omega)]; exact hT3 x t x0 x1 t0 t1) (fun _ _ _ => rfl) (by decide) rfl
        · exfalso
          exact hnc (HC_Cm (by omega) n.toNat 0 am (ndF n am T' rest) (fun t t0 t1 => by
            have h1 := hat t t0 t1
            have h2 := hP.2.2.2 t t0 t1
            have h3 : am t * (rest - 1) = am t * rest - am t := by rw [Int.mul_sub, Int.mul_one]
            unfold ndF
            omega) (PT_HC (by omega) (by omega) (fun t t0 t1 => (hat t t0 t1).2) hP r0))
      have l53 : ∀ (q : Nat) (t : Int) (s2 : Mem), 0 ≤ t → t + q = m → (∀ v, 0 ≤ v → v < t → s2 403 v = 0 ∧ s2 404 v = ndF n am T' rest v) → (∀ b j, ¬ (403 ≤ b ∧ b ≤ 404) → s2 b j = s1 b j) → AW2 i_M_parted (d + 9) 53 [] [(0, (2, 356)), (1, (0, g)), (2, (0, i)), (3, (0, w)), (4, (0, rest)), (5, (0, (pre.length : Int))), (6, (0, t))] s2 K := by
        intro q
        induction q with
        | zero =>
          intro t s2 t0 e2 h2 f2
          refine s_M_parted_53 (inb_i g0 (by omega) ?_)
          rw [f2 358 g (by omega), f 358 g (by omega) (by omega), eM]
          exact brF_i (by omega) (found s2 (fun x v x0 x1 v0 v1 => by rw [f2 _ _ (by omega)]; exact hT1 x v x0 x1 v0 v1) (fun v v0 v1 => h2 v v0 (by omega)) (fun b j z1 z2 => by rw [f2 b j (by omega)]; exact f b j z1 z2))
        | succ q ihq =>
          intro t s2 t0 e2 h2 f2
          have h1 := hat t t0 (by omega)
          have h4 := colS_r (n := n) (m := m) (t := t) (F := T') (by omega) hF t0 (by omega)
          have h5 := mul_b (a := am t) (b := rest - 1) (A := 9) (C := 60) (by omega) h1.2.2 (by omega) (by omega)
          refine s_M_parted_53 (inb_i g0 (by omega) ?_)
          rw [f2 358 g (by omega), f 358 g (by omega) (by omega), eM]
          refine brT_i (by omega) (inb_i t0 (by omega) (M_colS_ok (d := d + 7) (n := n) (m := m) (F := T') g0 g5 (by rw [st_ne (by omega), f2 _ _ (by omega), f _ _ (by omega) (by omega)]; exact eN) n7 t0 (by omega) m8.2 (fun x v x0 x1 v0 v1 => by rw [st_ne (by omega), f2 _ _ (by omega)]; exact hT1 x v x0 x1 v0 v1) hF ?_))
          rw [w32_id (x := 8 * g) (by omega) (by omega), w32_id (x := 8 * g + t) (by omega) (by omega), st_ne (by omega), f2 360 _ (by omega), f 360 _ (by omega) (by omega), h1.1, w32_id (x := rest - 1) (by omega) (by omega), w32_id (x := am t * (rest - 1)) (by omega) (by omega), w32_id (x := colS n T' t - am t * (rest - 1)) (by omega) (by omega), w32_id (x := t + 1) (by omega) (by omega)]
          refine inb_i (by omega) (by omega) (inb_i t0 (by omega) (ihq (t + 1) _ (by omega) (by omega) (fun v v0 v1 => ?_) (fun b j z => by rw [st_ne (by omega), st_ne (by omega)]; exact f2 b j z)))
          by_cases y : v = t
          · rw [y]; exact ⟨by rw [st_ne (by omega), st_self], st_self _ _ _ _⟩
          · rw [st_ne (by omega), st_ne (by omega), st_ne (by omega), st_ne (by omega)]; exact h2 v v0 (by omega)
      exact l53 m.toNat 0 s1 (Int.le_refl 0) (by omega) (fun v a b => by omega) (fun _ _ _ => rfl)
  exact l49 l [] T 60 s rfl (by decide) (by rw [List.length_nil]; omega) hPT hT hl (fun _ _ _ _ => rfl)
