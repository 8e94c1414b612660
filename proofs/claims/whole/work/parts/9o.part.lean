-- ===== parted: the class parts a table
def PtS (s : Mem) (l : List (Int × Int)) : Prop := s 316 2 = (l.length : Int) ∧ l.length ≤ 60 ∧ ∀ i, 0 ≤ i → i < (l.length : Int) → s 317 i = (l.getD i.toNat (0, 0)).1 ∧ s 318 i = (l.getD i.toNat (0, 0)).2
theorem getD_app {l : List (Int × Int)} {e d : Int × Int} {i : Nat} : (l ++ [e]).getD i d = if i < l.length then l.getD i d else if i = l.length then e else d := by
  rw [List.getD_eq_getElem?_getD, List.getD_eq_getElem?_getD]
  by_cases c : i < l.length
  · rw [if_pos c, List.getElem?_append_left c]
  · rw [if_neg c, List.getElem?_append_right (by omega)]
    by_cases y : i = l.length
    · rw [if_pos y, y, Nat.sub_self]; rfl
    · rw [if_neg y]
      have : ([e] : List (Int × Int))[i - l.length]? = none := by
        rw [List.getElem?_eq_none]
        rw [List.length_singleton]; omega
      rw [this]; rfl
theorem X_split_ok {d : Nat} {K : Int → Mem → Prop} {s : Mem} {g n m : Int} {am T : Int → Int} (g0 : 0 ≤ g) (g5 : g ≤ 5) (eN : s (4 + 43 * g) 1 = n) (eM : s (4 + 43 * g) 0 = m) (n7 : 1 ≤ n ∧ n ≤ 7) (m8 : 1 ≤ m ∧ m ≤ 8) (ha : ∀ t, 0 ≤ t → t < m → s (5 + 43 * g) t = am t ∧ 1 ≤ am t ∧ am t ≤ 9) (hp : ∀ p t, 0 ≤ p → p < n → 0 ≤ t → t < m → s (25 + 43 * g + p) t = T (8 * p + t)) (hT : PT n m am T 60) (hc : s 316 3 = 4 + 43 * g → ∃ l, PtL n m am l T 60 ∧ PtS s l) (hm : -1 ≤ s 316 3)
    (k : ∀ l s2, PtL n m am l T 60 → PtS s2 l → s2 316 3 = 4 + 43 * g → (∀ b j, ¬ (316 ≤ b ∧ b ≤ 331) → s2 b j = s b j) → K 0 s2) : AM2 i_Parting_split (d + 4) [(2, 316), (2, 4 + 43 * g)] s K := by
  have ckg := fun {P : Prop} => ck_g (P := P) g0 g5
  have l32 : ∀ (N : Nat) (T' : Int → Int) (rest : Int) (pre : List (Int × Int)) (s1 : Mem), rest ≤ N → (pre.length : Int) + rest ≤ 60 → PT n m am T' rest → (∀ l2, PtL n m am l2 T' rest → PtL n m am (pre ++ l2) T 60) → PtS s1 pre → PX s1 n m T' → (∀ b j, ¬ (316 ≤ b ∧ b ≤ 331) → s1 b j = s b j) → AW2 i_Parting_split (d + 4) 32 [] [(0, (2, 316)), (1, (2, 4 + 43 * g)), (2, (0, rest)), (3, (0, (pre.length : Int)))] s1 K := by
    intro N
    induction N with
    | zero => ?_
    | succ N ih => ?_
    all_goals
      intro T' rest pre s1 hN hlen hPT hl hS hX f
      have hr := hPT.1
      have done : rest = 0 → K 0 (st s1 316 3 (4 + 43 * g)) := fun z => by
        have h1 := hl [] z
        rw [List.append_nil] at h1
        refine k pre _ h1 ⟨by rw [st_ne (by omega)]; exact hS.1, hS.2.1, fun i i0 i1 => by rw [st_ne (by omega), st_ne (by omega)]; exact hS.2.2 i i0 i1⟩ (st_self _ _ _ _) (fun b j z => by rw [st_ne (by omega)]; exact f b j z)
    · exact s_Parting_split_32 ⟨fun _ => brF_i (by omega) (done (by omega)), fun _ => done (by omega)⟩
    · by_cases c : 0 < rest
      · have hCm := HC_Cm (T := T') (by omega) n.toNat 0 am (ndF n am T' rest) (fun t t0 t1 => by
          have h1 := ha t t0 t1
          have h2 := hPT.2.2.2 t t0 t1
          have h3 : am t * (rest - 1) = am t * rest - am t := by rw [Int.mul_sub, Int.mul_one]
          unfold ndF
          omega) (PT_HC (by omega) (by omega) (fun t t0 t1 => (ha t t0 t1).2) hPT c)
        have hMu : MuE m (ndF n am T' rest) (fun t => maxI 0 (ndF n am T' rest t)) := fun t _ _ => by
          have := max0 (ndF n am T' rest t)
          show _ = maxI 0 (ndF n am T' rest t) ∨ (_ ∧ maxI 0 (ndF n am T' rest t) ≤ 0)
          omega
        refine s_Parting_split_32 (brT_i (by omega) (brT_i c ?_))
        refine X_measure_ok (d := d + 2) (n := n) (m := m) (am := am) (T := T') (rest := rest) g0 g5 (by rw [f _ _ (by omega)]; exact eN) (by rw [f _ _ (by omega)]; exact eM) n7 m8 (fun t t0 t1 => by rw [f _ _ (by omega)]; exact ha t t0 t1) hX hPT (fun s2 hA2 h2 f2 => ?_)
        refine X_pickFirst_ok (d := d) (n := n) (m := m) (T := T') (fr := am) (mu := fun t => maxI 0 (ndF n am T' rest t)) g0 g5 (by rw [f2 _ _ (by omega) (by omega), f _ _ (by omega)]; exact eN) (by rw [f2 _ _ (by omega) (by omega), f _ _ (by omega)]; exact eM) n7 m8 hA2 (fun t t0 t1 => ?_) (Cm_mu _ _ _ _ _ hMu hCm) (fun s3 hPk h3 f3 => br1 ?_)
        · have h1 := ha t t0 t1
          have h4 := hPT.2.2.2 t t0 t1
          have h5 : am t * (rest - 1) = am t * rest - am t := by rw [Int.mul_sub, Int.mul_one]
          have h6 := max0 (ndF n am T' rest t)
          have h7 : ndF n am T' rest t ≤ am t := by unfold ndF; omega
          exact ⟨(h2 t t0 t1).1, (h2 t t0 t1).2.1, ⟨by omega, by omega⟩, ⟨by show -1 ≤ maxI 0 (ndF n am T' rest t); omega, by show maxI 0 (ndF n am T' rest t) ≤ 9; omega⟩, by show maxI 0 (ndF n am T' rest t) ≤ am t; omega⟩
        · have hPk2 := PkR_mu _ _ _ _ _ _ (MuE_s hMu) hPk
          have hoff := PT_off (by omega) (by omega) m8.2 (fun t t0 t1 => (ha t t0 t1).2) hPT c hPk2
          have hend := PkR_end n.toNat 0 am _ (s3 328) (fun t t0 t1 => by have := ha t t0 t1; omega) hPk2
          have hpk : ∀ x, 0 ≤ x → x < n → 0 ≤ s3 328 x ∧ s3 328 x < m ∧ 0 < T' (8 * x + s3 328 x) := fun x x0 x1 => hend.1 x x0 (by omega)
          refine X_mostOff_ok (d := d + 2) (n := n) (m := m) (am := am) (T := T') (rest := rest) g0 g5 (by rw [f3 _ _ (by omega), f2 _ _ (by omega) (by omega), f _ _ (by omega)]; exact eN) (by rw [f3 _ _ (by omega), f2 _ _ (by omega) (by omega), f _ _ (by omega)]; exact eM) n7 m8 hr (fun p t p0 p1 t0 t1 => by rw [f3 _ _ (by omega), f2 _ _ (by omega) (by omega)]; exact hX p t p0 p1 t0 t1) (fun x x0 x1 => ⟨(hpk x x0 x1).1, (hpk x x0 x1).2.1⟩) (fun t t0 t1 => ⟨h3 t t0 t1, ?_⟩) (fun t t0 t1 => ?_) (fun v hv => ?_)
          · have := cnt_r (s3 328) t (show 0 ≤ n by omega)
            have := ha t t0 t1
            omega
          · have h1 := ha t t0 t1
            have h4 := hPT.2.2.2 t t0 t1
            have h5 := mul_b (a := am t) (b := rest) (A := 9) (C := 60) (by omega) h1.2.2 hr.1 hr.2
            have h6 : 0 ≤ colS n T' t := sm_nn _ _ (fun p p0 p1 => (hPT.2.1 p t p0 (by omega) t0 t1).1)
            exact ⟨by rw [f3 _ _ (by omega)]; exact (h2 t t0 t1).2.2, by omega, by omega⟩
          · rw [hv]
            have hS3 : PtS s3 pre := ⟨by rw [f3 _ _ (by omega), f2 _ _ (by omega) (by omega)]; exact hS.1, hS.2.1, fun i i0 i1 => by rw [f3 _ _ (by omega), f2 _ _ (by omega) (by omega), f3 _ _ (by omega), f2 _ _ (by omega) (by omega)]; exact hS.2.2 i i0 i1⟩
            have hPt : ∀ l2, PtL n m am l2 (offF n (s3 328) (moF n m am T' (s3 328) rest) T') (rest - moF n m am T' (s3 328) rest) → PtL n m am ((pre ++ [(nbr (s3 328) n.toNat 0 0, moF n m am T' (s3 328) rest)]) ++ l2) T 60 := fun l2 h2 => by
              rw [List.append_assoc]
              exact hl _ ⟨c, s3 328, hPk2, rfl, h2⟩
            generalize moF n m am T' (s3 328) rest = v at *
            -- it is taken off
            have l54 : ∀ (q : Nat) (p : Int) (s4 : Mem), 0 ≤ p → p + q = n → (∀ x t, 0 ≤ x → x < n → 0 ≤ t → t < m → s4 (320 + x) t = if x < p then offF n (s3 328) v T' (8 * x + t) else T' (8 * x + t)) → (∀ b j, ¬ (320 ≤ b ∧ b ≤ 326) → s4 b j = s3 b j) → AW2 i_Parting_split (d + 4) 54 [] [(0, (2, 316)), (1, (2, 4 + 43 * g)), (2, (0, rest)), (3, (0, (pre.length : Int))), (4, (0, v)), (5, (0, p))] s4 K := by
              intro q
              induction q with
              | zero =>
                intro p s4 p0 e h4 f4
                have f328 : s4 328 = s3 328 := funext fun j => f4 _ _ (by omega)
                have e2 : s4 316 2 = (pre.length : Int) := by rw [f4 _ _ (by omega)]; exact hS3.1
                refine s_Parting_split_54 ?_
                rw [ckg, ckg, f4 (4 + 43 * g) 1 (by omega), f3 (4 + 43 * g) 1 (by omega), f2 (4 + 43 * g) 1 (by omega) (by omega), f (4 + 43 * g) 1 (by omega), eN]
                refine brF_i (by omega) (X_numberOf_ok (d := d + 2) rfl (by omega) (by rw [show sN 328 = 7 from rfl]; omega) (by decide) (by decide) (fun i i0 i1 => by have := hpk i i0 i1; rw [f4 328 i (by omega)]; omega) (by decide) ?_)
                have en : nbr (fun i => s4 328 i + 0) n.toNat 0 0 = nbr (s3 328) n.toNat 0 0 := nbr_congr _ _ _ (fun j j0 j1 => by show s4 328 j + 0 = s3 328 j; rw [f4 328 j (by omega)]; omega)
                rw [en, e2]
                generalize nbr (s3 328) n.toNat 0 0 = nb at *
                rw [show st s4 317 (pre.length : Int) nb 316 2 = (pre.length : Int) by rw [st_ne (by omega)]; exact e2]
                rw [show st (st s4 317 (pre.length : Int) nb) 318 (pre.length : Int) v 316 2 = (pre.length : Int) by rw [st_ne (by omega), st_ne (by omega)]; exact e2]
                rw [w32_id (x := rest - v) (by omega) (by omega), w32_id (x := (pre.length : Int) + 1) (by omega) (by omega)]
                refine inb_i (by omega) (by omega) (inb_i (by omega) (by omega) ?_)
                have el : (pre.length : Int) + 1 = ((pre ++ [(nb, v)]).length : Int) := by rw [List.length_append, List.length_singleton]; omega
                rw [el]
                refine ih (offF n (s3 328) v T') (rest - v) (pre ++ [(nb, v)]) _ (by omega) (by rw [← el]; omega) hoff.2 hPt ⟨by rw [st_self], by rw [List.length_append, List.length_singleton]; omega, fun i i0 i1 => ?_⟩ (fun x t x0 x1 t0 t1 => ?_) (fun b j z => ?_)
                · rw [getD_app]
                  rw [← el] at i1
                  by_cases y : i.toNat < pre.length
                  · rw [if_pos y]
                    have := hS3.2.2 i i0 (by omega)
                    rw [st_ne (by omega), st_ne (by omega), st_ne (by omega), f4 _ _ (by omega), st_ne (by omega), st_ne (by omega), st_ne (by omega), f4 _ _ (by omega)]
                    exact this
                  · rw [if_neg y, if_pos (show i.toNat = pre.length by omega), show i = (pre.length : Int) by omega]
                    exact ⟨by rw [st_ne (by omega), st_ne (by omega), st_self], by rw [st_ne (by omega), st_self]⟩
                · rw [st_ne (by omega), st_ne (by omega), st_ne (by omega), h4 x t x0 x1 t0 t1, if_pos (by omega)]
                · rw [st_ne (by omega), st_ne (by omega), st_ne (by omega), f4 b j (by omega), f3 b j (by omega), f2 b j (by omega) (by omega)]; exact f b j z
              | succ q ihq =>
                intro p s4 p0 e h4 f4
                have hx := hpk p p0 (by omega)
                have hv2 := h4 p (s3 328 p) p0 (by omega) hx.1 hx.2.1
                have hTv := hPT.2.1 p (s3 328 p) p0 (by omega) hx.1 hx.2.1
                rw [if_neg (by omega)] at hv2
                refine s_Parting_split_54 ?_
                rw [ckg, f4 (4 + 43 * g) 1 (by omega), f3 (4 + 43 * g) 1 (by omega), f2 (4 + 43 * g) 1 (by omega) (by omega), f (4 + 43 * g) 1 (by omega), eN, pt_rw p0 (by omega), ck_rw p0 (by omega), sn_rw p0 (by omega), ck_rw p0 (by omega), f4 328 p (by omega), hv2, w32_id (x := T' (8 * p + s3 328 p) - v) (by omega) (by omega), w32_id (x := p + 1) (by omega) (by omega)]
                refine brT_i (by omega) (inb_i p0 (by omega) (inb_i p0 (by omega) (inb_i hx.1 (by omega) (inb_i hx.1 (by omega) ?_))))
                refine ihq (p + 1) _ (by omega) (by omega) (fun x t x0 x1 t0 t1 => ?_) (fun b j z => by rw [st_ne (by omega)]; exact f4 b j z)
                by_cases y : x = p ∧ t = s3 328 p
                · rw [y.1, y.2, st_self, if_pos (by omega), offF_at p0 (by omega) hx.1 (by omega), if_pos rfl]
                · rw [st_ne (by omega), h4 x t x0 x1 t0 t1]
                  by_cases z : x < p
                  · rw [if_pos z, if_pos (by omega)]
                  · rw [if_neg z]
                    by_cases w : x = p
                    · rw [if_pos (by omega), offF_at x0 x1 t0 (by omega), if_neg (fun u => y ⟨w, by rw [w] at u; exact u.symm⟩)]; omega
                    · rw [if_neg (by omega)]
            exact l54 n.toNat 0 s3 (Int.le_refl 0) (by omega) (fun x t x0 x1 t0 t1 => by rw [if_neg (by omega), f3 _ _ (by omega), f2 _ _ (by omega) (by omega)]; exact hX x t x0 x1 t0 t1) (fun _ _ _ => rfl)
      · exact s_Parting_split_32 ⟨fun _ => brF_i c (done (by omega)), fun _ => done (by omega)⟩
  have l7 : ∀ (q : Nat) (p : Int) (s1 : Mem), 0 ≤ p → p + q = n → (∀ x t, 0 ≤ x → x < p → 0 ≤ t → t < m → s1 (320 + x) t = T (8 * x + t)) → (∀ b j, ¬ (320 ≤ b ∧ b ≤ 326) → s1 b j = s b j) → AW2 i_Parting_split (d + 4) 7 [] [(0, (2, 316)), (1, (2, 4 + 43 * g)), (2, (0, p))] s1 K := by
    intro q
    induction q with
    | zero =>
      intro p s1 p0 e h1 f
      refine s_Parting_split_7 ?_
      rw [ckg, f (4 + 43 * g) 1 (by omega), eN]
      exact brF_i (by omega) (l32 60 T 60 [] _ (by decide) (by decide) hT (fun l2 h => h) ⟨st_self _ _ _ _, by decide, fun i a b => by rw [List.length_nil] at b; omega⟩ (fun x t x0 x1 t0 t1 => by rw [st_ne (by omega)]; exact h1 x t x0 (by omega) t0 t1) (fun b j z => by rw [st_ne (by omega)]; exact f b j (by omega)))
    | succ q ih =>
      intro p s1 p0 e h1 f
      refine s_Parting_split_7 ?_
      rw [ckg, f (4 + 43 * g) 1 (by omega), eN, pt_pa g0 g5, ck_pa g0 g5, sn_pa g0 g5, pt_pr g0 g5 p0 (by omega), ck_pr g0 g5 p0 (by omega), sn_pr g0 g5 p0 (by omega), pt_rw p0 (by omega), ck_rw p0 (by omega), sn_rw p0 (by omega), w32_id (x := p + 1) (by omega) (by omega)]
      refine brT_i (by omega) ?_
      rw [ckg]
      refine inb_i p0 (by omega) (inb_i p0 (by omega) ?_)
      rw [cpP_eq (by omega)]
      refine ih (p + 1) _ (by omega) (by omega) (fun x t x0 x1 t0 t1 => ?_) (fun b j z => by rw [cpy_at, if_neg (by omega)]; exact f b j z)
      rw [cpy_at]
      by_cases y : x = p
      · rw [y, if_pos (by omega), show (0 : Int) + (t - 0) = t by omega, f _ _ (by omega)]; exact hp p t p0 (by omega) t0 t1
      · rw [if_neg (by omega)]; exact h1 x t x0 (by omega) t0 t1
  refine e_Parting_split ⟨⟨hm, by omega⟩, fun z => ?_, fun _ => l7 n.toNat 0 s (Int.le_refl 0) (by omega) (fun x t x0 x1 => by omega) (fun _ _ _ => rfl)⟩
  obtain ⟨l, h1, h2⟩ := hc z
  exact k l s h1 h2 z (fun _ _ _ => rfl)
