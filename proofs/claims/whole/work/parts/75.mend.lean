theorem sm_from {f : Int → Int} (q : Nat) (a : Int) : sm f q 0 a = a + sm f q 0 0 := sm_acc q 0 a
theorem X_mend_ok {d : Nat} {K : Int → Mem → Prop} {σ s : Mem} {g k : Int} {F : Int → Int} (g0 : 0 ≤ g) (g5 : g ≤ 5) (k0 : 0 ≤ k) (k7 : k < 7) (hA : GA σ g) (hB : GB σ g) (f0 : ∀ b j, ¬ b = 34 + 43 * g + 2 * k → s b j = σ b j) (hT : TP s (34 + 43 * g + 2 * k) (σ 357 g) (σ 358 g) F) (hF : FB (σ 357 g) (σ 358 g) F)
    (q : ∀ s2 : Mem, TP s2 (34 + 43 * g + 2 * k) (σ 357 g) (σ 358 g) (mendG σ g F) → (∀ b j, ¬ b = 34 + 43 * g + 2 * k → s2 b j = σ b j) → K 0 s2) : AM2 i_Shares_mend (d + 2) [(2, 33 + 43 * g + 2 * k), (2, 4 + 43 * g)] s K := by
  have ckg := fun {P : Prop} => ck_g (P := P) g0 g5
  have ck := fun {P : Prop} => ck_sh (P := P) g0 g5 k0 k7
  have hdrop := fun {K : Int → Mem → Prop} {s : Mem} {p : Int} {F : Int → Int} => X_drop_ok (d := d) (K := K) (s := s) (p := p) (F := F) g0 g5 k0 k7 hA hB
  have hn := hA.1
  obtain ⟨en, em, eR⟩ := hA.2.1
  have hsz := hA.2.2.2.1
  have hls := hA.2.2.2.2
  have ham := hA.2.2.1
  unfold mendG at q
  generalize hN : σ 357 g = n at *
  generalize hM : σ 358 g = m at *
  generalize hR : σ 359 g = R at *
  -- the columns
  have l85 : ∀ (i : Nat) (t o : Int) (F : Int → Int) (s1 : Mem), (i : Int) ≤ n → 0 ≤ t → t < m → o = colS n F t - 60 * gam σ g t → TP s1 (34 + 43 * g + 2 * k) n m F → FB n m F → (∀ b j, ¬ b = 34 + 43 * g + 2 * k → s1 b j = σ b j) → (∀ s2 : Mem, TP s2 (34 + 43 * g + 2 * k) n m (cutC n (gam σ g) t i F) → (∀ b j, ¬ b = 34 + 43 * g + 2 * k → s2 b j = σ b j) → AW2 i_Shares_mend (d + 2) 49 [] [(0, (2, 33 + 43 * g + 2 * k)), (1, (2, 4 + 43 * g)), (2, (0, t + 1))] s2 K) → AW2 i_Shares_mend (d + 2) 85 [] [(0, (2, 33 + 43 * g + 2 * k)), (1, (2, 4 + 43 * g)), (2, (0, t)), (3, (1, o)), (5, (0, (i : Int) - 1))] s1 K := by
    intro i
    induction i with
    | zero =>
      intro t o F s1 e t0 t1 eo h hf f next
      refine s_Shares_mend_85 (brT_i (by omega) ?_)
      rw [w32_id (x := t + 1) (by omega) (by omega)]
      exact next s1 h f
    | succ i ih =>
      intro t o F s1 e t0 t1 eo h hf f next
      have hc := colS_r (n := n) (m := m) (t := t) (F := F) (by omega) hf t0 t1
      have hm := (ham t t0 t1).2
      have eg : gam σ g t = σ 360 (8 * g + t) := rfl
      have hv := hf i t (by omega) (by omega) t0 t1
      refine s_Shares_mend_85 (brF_i (by omega) ⟨fun c => ?_, fun c => ?_⟩)
      · rw [ck, show ((i + 1 : Nat) : Int) - 1 = i by omega]
        refine X_cut_ok (d := d) g0 g5 k0 k7 (by omega) (by omega) t0 (by omega) c (by omega) (h i t (by omega) (by omega) t0 t1) hv.1 hv.2 ?_
        have hr := minI_r c hv.1
        rw [w64_id (x := o - minI o (F (8 * (i : Int) + t))) (by omega) (by omega), w32_id (x := (i : Int) + -1) (by omega) (by omega), show (i : Int) + -1 = (i : Int) - 1 by omega]
        have ht := TP_less (o := o) (p := (i : Int)) (by omega) t0 t1 h
        rw [if_pos c] at ht
        refine ih t _ (lessF F (8 * (i : Int) + t) o) _ (by omega) t0 t1 ?_ ht (FB_less hf) (fun b j z => by rw [st_ne (by omega)]; exact f b j z) (fun s2 y1 y2 => next s2 ?_ y2)
        · rw [colS_less (by omega) (by omega), if_pos c]; omega
        · show TP s2 _ n m (cutC n (gam σ g) t i (lessF F (8 * (i : Int) + t) (colS n F t - 60 * gam σ g t)))
          rw [← eo]; exact y1
      · rw [w32_id (x := t + 1) (by omega) (by omega)]
        refine next s1 ?_ f
        rw [cutC_stop _ _ (by rw [← eo]; exact c)]; exact h
  have l49 : ∀ (u : Nat) (t : Int) (F : Int → Int) (s1 : Mem), 0 ≤ t → t + u = m → TP s1 (34 + 43 * g + 2 * k) n m F → FB n m F → (∀ b j, ¬ b = 34 + 43 * g + 2 * k → s1 b j = σ b j) → (∀ s2 : Mem, TP s2 (34 + 43 * g + 2 * k) n m (mCols n (gam σ g) u t F) → (∀ b j, ¬ b = 34 + 43 * g + 2 * k → s2 b j = σ b j) → K 0 s2) → AW2 i_Shares_mend (d + 2) 49 [] [(0, (2, 33 + 43 * g + 2 * k)), (1, (2, 4 + 43 * g)), (2, (0, t))] s1 K := by
    intro u
    induction u with
    | zero =>
      intro t F s1 t0 e h hf f next
      refine s_Shares_mend_49 ?_
      rw [ckg, f (4 + 43 * g) 0 (by omega), em]
      exact brF_i (by omega) (next s1 h f)
    | succ u ih =>
      intro t F s1 t0 e h hf f next
      have hm := ham t t0 (by omega)
      have eg : gam σ g t = σ 360 (8 * g + t) := rfl
      refine s_Shares_mend_49 ?_
      rw [ckg, f (4 + 43 * g) 0 (by omega), em]
      refine brT_i (by omega) ?_
      (try simp (disch := omega) only [w32_id, w64_id, inb_eq, st_self, st_ne, pt3, ck_g, ck_am, ck_he, ck_sz, ck_ls, ck_lv, ck_pa, ck_kn, sn_am, sn_he, sn_sz, sn_ls, sn_lv, sn_pa, sn_kn, pt_am, pt_he, pt_sz, pt_ls, pt_lv, pt_pa, pt_kn, ck_lr, ck_vr, ck_pr, sn_lr, sn_vr, sn_pr, pt_lr, pt_vr, pt_pr, pt_sh, ck_sh, pt_to, ck_to, sn_to])
      rw [f (5 + 43 * g) t (by omega), hm.1, ← eg, w32_id (x := -60 * gam σ g t) (by omega) (by omega)]
      -- the sum over the column
      have l63 : ∀ (v : Nat) (p a : Int), 0 ≤ p → p + v = n → -540 ≤ a → a ≤ p * 60 → sm (fun p => F (8 * p + t)) v p a = colS n F t - 60 * gam σ g t → AW2 i_Shares_mend (d + 2) 63 [] [(0, (2, 33 + 43 * g + 2 * k)), (1, (2, 4 + 43 * g)), (2, (0, t)), (3, (1, a)), (5, (0, p))] s1 K := by
        intro v
        induction v with
        | zero =>
          intro p a p0 e2 a0 a1 ea
          have ea : a = colS n F t - 60 * gam σ g t := ea
          refine s_Shares_mend_63 ?_
          rw [ckg, f (4 + 43 * g) 1 (by omega), en, ckg, w32_id (x := n - 1) (by omega) (by omega)]
          refine brF_i (by omega) ?_
          have := l85 n.toNat t a F s1 (by omega) t0 (by omega) ea h hf f (fun s2 y1 y2 => ih (t + 1) _ s2 (by omega) (by omega) y1 (FB_cutC _ _ hf) y2 next)
          rw [show ((n.toNat : Nat) : Int) = n by omega] at this
          exact this
        | succ v ihv =>
          intro p a p0 e2 a0 a1 ea
          have hfv := hf p t p0 (by omega) t0 (by omega)
          refine s_Shares_mend_63 ?_
          rw [ckg, f (4 + 43 * g) 1 (by omega), en]
          refine brT_i (by omega) ?_
          (try simp (disch := omega) only [w32_id, w64_id, inb_eq, st_self, st_ne, pt3, ck_g, ck_am, ck_he, ck_sz, ck_ls, ck_lv, ck_pa, ck_kn, sn_am, sn_he, sn_sz, sn_ls, sn_lv, sn_pa, sn_kn, pt_am, pt_he, pt_sz, pt_ls, pt_lv, pt_pa, pt_kn, ck_lr, ck_vr, ck_pr, sn_lr, sn_vr, sn_pr, pt_lr, pt_vr, pt_pr, pt_sh, ck_sh, pt_to, ck_to, sn_to])
          rw [show p * 8 + t = 8 * p + t by omega, h p t p0 (by omega) t0 (by omega), w64_id (by omega) (by omega)]
          exact ihv (p + 1) _ (by omega) (by omega) (by omega) (by omega) ea
      refine l63 n.toNat 0 _ (Int.le_refl 0) (by omega) (by omega) (by omega) ?_
      rw [sm_from]
      unfold colS
      omega
  -- the rows
  have l24 : ∀ (i : Nat) (p o : Int) (F : Int → Int) (s1 : Mem), 0 ≤ p → p < n → (i : Int) ≤ gsz σ g p → o = rowS m F p - 60 * R → TP s1 (34 + 43 * g + 2 * k) n m F → FB n m F → (∀ b j, ¬ b = 34 + 43 * g + 2 * k → s1 b j = σ b j) → (∀ s2 : Mem, TP s2 (34 + 43 * g + 2 * k) n m (cutR m R (gls σ g) p i F) → (∀ b j, ¬ b = 34 + 43 * g + 2 * k → s2 b j = σ b j) → AW2 i_Shares_mend (d + 2) 2 [] [(0, (2, 33 + 43 * g + 2 * k)), (1, (2, 4 + 43 * g)), (2, (0, p + 1))] s2 K) → AW2 i_Shares_mend (d + 2) 24 [] [(0, (2, 33 + 43 * g + 2 * k)), (1, (2, 4 + 43 * g)), (2, (0, p)), (3, (1, o)), (5, (0, (i : Int) - 1))] s1 K := by
    intro i
    induction i with
    | zero =>
      intro p o F s1 p0 p1 e eo h hf f next
      refine s_Shares_mend_24 (brT_i (by omega) ?_)
      rw [w32_id (x := p + 1) (by omega) (by omega)]
      exact next s1 h f
    | succ i ih =>
      intro p o F s1 p0 p1 e eo h hf f next
      have hs := hsz p p0 p1
      have es : gsz σ g p = σ 362 (7 * g + p) := rfl
      have hl := hls p i p0 p1 (by omega) (by omega)
      have el : gls σ g p i = σ 363 (56 * g + 8 * p + i) := rfl
      rw [← el] at hl
      have hc := rowS_r (n := n) (m := m) (p := p) (F := F) (by omega) hf p0 p1
      have hv := hf p _ p0 p1 hl.2.1 hl.2.2
      refine s_Shares_mend_24 (brF_i (by omega) ⟨fun c => ?_, fun c => ?_⟩)
      · rw [show ((i + 1 : Nat) : Int) - 1 = i by omega]
        (try simp (disch := omega) only [w32_id, w64_id, inb_eq, st_self, st_ne, pt3, ck_g, ck_am, ck_he, ck_sz, ck_ls, ck_lv, ck_pa, ck_kn, sn_am, sn_he, sn_sz, sn_ls, sn_lv, sn_pa, sn_kn, pt_am, pt_he, pt_sz, pt_ls, pt_lv, pt_pa, pt_kn, ck_lr, ck_vr, ck_pr, sn_lr, sn_vr, sn_pr, pt_lr, pt_vr, pt_pr, pt_sh, ck_sh, pt_to, ck_to, sn_to])
        rw [f (9 + 43 * g + p) i (by omega), hl.1]
        refine X_cut_ok (d := d) g0 g5 k0 k7 p0 (by omega) hl.2.1 (by omega) c (by omega) (h p _ p0 p1 hl.2.1 hl.2.2) hv.1 hv.2 ?_
        have hr := minI_r c hv.1
        try rw [w64_id (x := o - minI o (F (8 * p + gls σ g p i))) (by omega) (by omega)]
        try rw [w32_id (x := (i : Int) + -1) (by omega) (by omega)]
        rw [show (i : Int) + -1 = (i : Int) - 1 by omega]
        have ht := TP_less (o := o) (p := p) (t := gls σ g p i) (by omega) hl.2.1 hl.2.2 h
        rw [if_pos c] at ht
        refine ih p _ (lessF F (8 * p + gls σ g p i) o) _ p0 p1 (by omega) ?_ ht (FB_less hf) (fun b j z => by rw [st_ne (by omega)]; exact f b j z) (fun s2 y1 y2 => next s2 ?_ y2)
        · rw [rowS_less (n := n) (by omega) hl.2.1 hl.2.2, if_pos c]; omega
        · show TP s2 _ n m (cutR m R (gls σ g) p i (lessF F (8 * p + gls σ g p i) (rowS m F p - 60 * R)))
          rw [← eo]; exact y1
      · rw [w32_id (x := p + 1) (by omega) (by omega)]
        refine next s1 ?_ f
        rw [cutR_stop _ _ (by rw [← eo]; exact c)]; exact h
  have l2 : ∀ (u : Nat) (p : Int) (F : Int → Int) (s1 : Mem), 0 ≤ p → p + u = n → TP s1 (34 + 43 * g + 2 * k) n m F → FB n m F → (∀ b j, ¬ b = 34 + 43 * g + 2 * k → s1 b j = σ b j) → (∀ s2 : Mem, TP s2 (34 + 43 * g + 2 * k) n m (mRows m R (glv2 σ g) (gls σ g) (gsz σ g) u p F) → (∀ b j, ¬ b = 34 + 43 * g + 2 * k → s2 b j = σ b j) → AW2 i_Shares_mend (d + 2) 49 [] [(0, (2, 33 + 43 * g + 2 * k)), (1, (2, 4 + 43 * g)), (2, (0, 0))] s2 K) → AW2 i_Shares_mend (d + 2) 2 [] [(0, (2, 33 + 43 * g + 2 * k)), (1, (2, 4 + 43 * g)), (2, (0, p))] s1 K := by
    intro u
    induction u with
    | zero =>
      intro p F s1 p0 e h hf f next
      refine s_Shares_mend_2 ?_
      rw [ckg, f (4 + 43 * g) 1 (by omega), en]
      exact brF_i (by omega) (next s1 h f)
    | succ u ih =>
      intro p F s1 p0 e h hf f next
      have hs := hsz p p0 (by omega)
      have es : gsz σ g p = σ 362 (7 * g + p) := rfl
      have hf2 := FB_drop (n := n) (p := p) (lv := glv σ g) (by omega) hf
      have hc := rowS_r (n := n) (m := m) (p := p) (by omega) hf2 p0 (by omega)
      refine s_Shares_mend_2 ?_
      rw [ckg, f (4 + 43 * g) 1 (by omega), en]
      refine brT_i (by omega) ?_
      rw [ck]
      refine hdrop p0 (by omega) f h hf (fun s2 y1 y2 => ?_)
      (try simp (disch := omega) only [w32_id, w64_id, inb_eq, st_self, st_ne, pt3, ck_g, ck_am, ck_he, ck_sz, ck_ls, ck_lv, ck_pa, ck_kn, sn_am, sn_he, sn_sz, sn_ls, sn_lv, sn_pa, sn_kn, pt_am, pt_he, pt_sz, pt_ls, pt_lv, pt_pa, pt_kn, ck_lr, ck_vr, ck_pr, sn_lr, sn_vr, sn_pr, pt_lr, pt_vr, pt_pr, pt_sh, ck_sh, pt_to, ck_to, sn_to])
      rw [y2 (4 + 43 * g) 2 (by omega), eR, y2 (7 + 43 * g) p (by omega), hs.1, ← es, w32_id (x := 60 * R) (by omega) (by omega), w64_id (by omega) (by omega), w32_id (x := gsz σ g p - 1) (by omega) (by omega)]
      have := l24 (gsz σ g p).toNat p _ _ s2 p0 (by omega) (by omega) rfl y1 hf2 y2 (fun s3 w1 w2 => ih (p + 1) _ s3 (by omega) (by omega) w1 (FB_cutR _ _ hf2) w2 next)
      rw [show (((gsz σ g p).toNat : Nat) : Int) = gsz σ g p by omega] at this
      exact this
  exact e_Shares_mend (l2 n.toNat 0 F s (Int.le_refl 0) (by omega) hT hF f0 (fun s2 y1 y2 => l49 m.toNat 0 _ s2 (Int.le_refl 0) (by omega) y1 (FB_mRows (by omega) _ _ _ hF) y2 q))
