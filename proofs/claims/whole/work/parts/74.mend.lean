-- ===== the class mends
theorem rowS_less {n m p t o : Int} {F : Int → Int} (m8 : m ≤ 8) (t0 : 0 ≤ t) (t1 : t < m) : rowS m (lessF F (8 * p + t) o) p = rowS m F p - (if 0 < o then minI o (F (8 * p + t)) else 0) := by
  unfold lessF
  by_cases c : 0 < o
  · rw [if_pos c, if_pos c]
    unfold rowS
    rw [sm_set (f := fun u => up F (8 * p + t) (F (8 * p + t) - minI o (F (8 * p + t))) (8 * p + u)) (f' := fun u => F (8 * p + u)) (d := t) m.toNat 0 0 t0 (by omega) (fun j _ _ e => by
      show up F (8 * p + t) _ (8 * p + j) = F (8 * p + j)
      rw [up_n (by omega)])]
    show _ + up F (8 * p + t) (F (8 * p + t) - minI o (F (8 * p + t))) (8 * p + t) - F (8 * p + t) = _
    rw [up_s]; omega
  · rw [if_neg c, if_neg c]; omega
theorem colS_less {n p t o : Int} {F : Int → Int} (p0 : 0 ≤ p) (p1 : p < n) : colS n (lessF F (8 * p + t) o) t = colS n F t - (if 0 < o then minI o (F (8 * p + t)) else 0) := by
  unfold lessF
  by_cases c : 0 < o
  · rw [if_pos c, if_pos c]
    unfold colS
    rw [sm_set (f := fun u => up F (8 * p + t) (F (8 * p + t) - minI o (F (8 * p + t))) (8 * u + t)) (f' := fun u => F (8 * u + t)) (d := p) n.toNat 0 0 p0 (by omega) (fun j _ _ e => by
      show up F (8 * p + t) _ (8 * j + t) = F (8 * j + t)
      rw [up_n (by omega)])]
    show _ + up F (8 * p + t) (F (8 * p + t) - minI o (F (8 * p + t))) (8 * p + t) - F (8 * p + t) = _
    rw [up_s]; omega
  · rw [if_neg c, if_neg c]; omega
theorem lessF_0 {F : Int → Int} {k o : Int} (h : ¬ 0 < o) : lessF F k o = F := by unfold lessF; rw [if_neg h]
theorem cutR_stop {m R p : Int} {ls : Int → Int → Int} : ∀ (i : Nat) (F : Int → Int), ¬ 0 < rowS m F p - 60 * R → cutR m R ls p i F = F
  | 0, _, _ => rfl
  | i + 1, F, h => by
    show cutR m R ls p i (lessF F _ _) = F
    rw [lessF_0 h]; exact cutR_stop i F h
theorem cutC_stop {n t : Int} {am : Int → Int} : ∀ (i : Nat) (F : Int → Int), ¬ 0 < colS n F t - 60 * am t → cutC n am t i F = F
  | 0, _, _ => rfl
  | i + 1, F, h => by
    show cutC n am t i (lessF F _ _) = F
    rw [lessF_0 h]; exact cutC_stop i F h
theorem X_cut_ok {d : Nat} {K : Int → Mem → Prop} {s : Mem} {g k p t o v : Int} (g0 : 0 ≤ g) (g5 : g ≤ 5) (k0 : 0 ≤ k) (k7 : k < 7) (p0 : 0 ≤ p) (p7 : p < 7) (t0 : 0 ≤ t) (t8 : t < 8) (o0 : 0 < o) (o1 : o ≤ 100000) (hv : s (34 + 43 * g + 2 * k) (8 * p + t) = v) (v0 : 0 ≤ v) (v1 : v ≤ 60) (q : K (minI o v) (st s (34 + 43 * g + 2 * k) (8 * p + t) (v - minI o v))) : AM2 i_Shares_cut (d + 1) [(2, 33 + 43 * g + 2 * k), (0, p), (0, t), (1, o)] s K := by
  have hm := minI_r o0 v0
  refine e_Shares_cut fun _ _ _ => ?_
  (try simp (disch := omega) only [w32_id, w64_id, inb_eq, st_self, st_ne, pt3, ck_g, ck_am, ck_he, ck_sz, ck_ls, ck_lv, ck_pa, ck_kn, sn_am, sn_he, sn_sz, sn_ls, sn_lv, sn_pa, sn_kn, pt_am, pt_he, pt_sz, pt_ls, pt_lv, pt_pa, pt_kn, ck_lr, ck_vr, ck_pr, sn_lr, sn_vr, sn_pr, pt_lr, pt_vr, pt_pr, pt_sh, ck_sh, pt_to, ck_to, sn_to])
  rw [show p * 8 + t = 8 * p + t by omega, hv, w64_id (by omega) (by omega)]
  exact q
theorem X_drop_ok {d : Nat} {K : Int → Mem → Prop} {σ s : Mem} {g k p : Int} {F : Int → Int} (g0 : 0 ≤ g) (g5 : g ≤ 5) (k0 : 0 ≤ k) (k7 : k < 7) (hA : GA σ g) (hB : GB σ g) (p0 : 0 ≤ p) (p1 : p < σ 357 g) (f0 : ∀ b j, ¬ b = 34 + 43 * g + 2 * k → s b j = σ b j) (hT : TP s (34 + 43 * g + 2 * k) (σ 357 g) (σ 358 g) F) (hF : FB (σ 357 g) (σ 358 g) F)
    (q : ∀ s2 : Mem, TP s2 (34 + 43 * g + 2 * k) (σ 357 g) (σ 358 g) (dropF (σ 358 g) (glv σ g) p F) → (∀ b j, ¬ b = 34 + 43 * g + 2 * k → s2 b j = σ b j) → K (rowS (σ 358 g) (dropF (σ 358 g) (glv σ g) p F) p) s2) : AM2 i_Shares_dropUnlisted (d + 1) [(2, 33 + 43 * g + 2 * k), (2, 4 + 43 * g), (0, p)] s K := by
  have ckg := fun {P : Prop} => ck_g (P := P) g0 g5
  have hn := hA.1
  have em := hA.2.1.2.1
  have hlv := fun t t0 t1 => (hB.2 p t p0 p1 t0 t1).1
  have hF2 := FB_drop (p := p) (lv := glv σ g) (by omega) hF
  generalize hN : σ 357 g = n at *
  generalize hM : σ 358 g = m at *
  have lp : ∀ (u : Nat) (t a : Int) (s1 : Mem), 0 ≤ t → t + u = m → 0 ≤ a → a ≤ t * 60 → (∀ x y, 0 ≤ x → x < n → 0 ≤ y → y < m → s1 (34 + 43 * g + 2 * k) (8 * x + y) = if x = p ∧ y < t ∧ glv σ g p y < 0 then 0 else F (8 * x + y)) → (∀ b j, ¬ b = 34 + 43 * g + 2 * k → s1 b j = σ b j) → sm (fun y => dropF m (glv σ g) p F (8 * p + y)) u t a = rowS m (dropF m (glv σ g) p F) p → AW2 i_Shares_dropUnlisted (d + 1) 4 [] [(0, (2, 33 + 43 * g + 2 * k)), (1, (2, 4 + 43 * g)), (2, (0, p)), (3, (1, a)), (5, (0, t))] s1 K := by
    intro u
    induction u with
    | zero =>
      intro t a s1 t0 e a0 a1 h f ea
      refine s_Shares_dropUnlisted_4 ?_
      rw [ckg, f (4 + 43 * g) 0 (by omega), em]
      have ea : a = rowS m (dropF m (glv σ g) p F) p := ea
      refine brF_i (by omega) ?_
      rw [ea]
      refine q s1 (fun x y x0 x1 y0 y1 => ?_) f
      rw [h x y x0 x1 y0 y1, dropF_at y0 (by omega)]
      by_cases z : x = p ∧ glv σ g p y < 0
      · rw [if_pos ⟨z.1, by omega, z.2⟩, if_pos ⟨z.1, y1, z.2⟩]
      · rw [if_neg (fun w => z ⟨w.1, w.2.2⟩), if_neg (fun w => z ⟨w.1, w.2.2⟩)]
    | succ u ih =>
      intro t a s1 t0 e a0 a1 h f ea
      have hd := hF2 p t p0 p1 t0 (by omega)
      have ed := dropF_at (m := m) (p := p) (p' := p) (t := t) (lv := glv σ g) (F := F) t0 (by omega)
      have ht := h p t p0 p1 t0 (by omega)
      refine s_Shares_dropUnlisted_4 ?_
      rw [ckg, f (4 + 43 * g) 0 (by omega), em]
      refine brT_i (by omega) ?_
      (try simp (disch := omega) only [w32_id, w64_id, inb_eq, st_self, st_ne, pt3, ck_g, ck_am, ck_he, ck_sz, ck_ls, ck_lv, ck_pa, ck_kn, sn_am, sn_he, sn_sz, sn_ls, sn_lv, sn_pa, sn_kn, pt_am, pt_he, pt_sz, pt_ls, pt_lv, pt_pa, pt_kn, ck_lr, ck_vr, ck_pr, sn_lr, sn_vr, sn_pr, pt_lr, pt_vr, pt_pr, pt_sh, ck_sh, pt_to, ck_to, sn_to])
      rw [f (17 + 43 * g + p) t (by omega), hlv t t0 (by omega), show p * 8 + t = 8 * p + t by omega]
      refine ⟨fun c => ?_, fun c => ?_⟩
      · have c2 : glv σ g p t < 0 := c
        rw [if_pos ⟨rfl, by omega, c2⟩] at ed
        rw [show a + 0 = a by omega] 
        refine ih (t + 1) _ _ (by omega) (by omega) (by omega) (by omega) (fun x y x0 x1 y0 y1 => ?_) (fun b j z => by rw [st_ne (by omega)]; exact f b j z) ?_
        · by_cases z : x = p ∧ y = t
          · rw [z.1, z.2, st_self, if_pos ⟨rfl, by omega, c2⟩]
          · rw [st_ne (by omega), h x y x0 x1 y0 y1]
            by_cases w : x = p ∧ y < t ∧ glv σ g p y < 0
            · rw [if_pos w, if_pos ⟨w.1, by omega, w.2.2⟩]
            · rw [if_neg w, if_neg (fun v => w ⟨v.1, by omega, v.2.2⟩)]
        · rw [← ea]
          show _ = sm (fun y => dropF m (glv σ g) p F (8 * p + y)) u (t + 1) (a + dropF m (glv σ g) p F (8 * p + t))
          rw [ed]; congr 1; omega
      · have c2 : ¬ glv σ g p t < 0 := c
        rw [if_neg (fun w => c2 w.2.2)] at ed
        rw [if_neg (fun w => c2 w.2.2)] at ht
        rw [ht, ← ed]
        rw [w64_id (by omega) (by omega)]
        refine ih (t + 1) _ _ (by omega) (by omega) (by omega) (by omega) (fun x y x0 x1 y0 y1 => ?_) f ea
        rw [h x y x0 x1 y0 y1]
        by_cases w : x = p ∧ y < t ∧ glv σ g p y < 0
        · rw [if_pos w, if_pos ⟨w.1, by omega, w.2.2⟩]
        · rw [if_neg w, if_neg (fun v => w ⟨v.1, by
            by_cases z : y = t
            · exact absurd (z ▸ v.2.2) c2
            · omega, v.2.2⟩)]
  exact e_Shares_dropUnlisted fun _ => lp m.toNat 0 0 s (Int.le_refl 0) (by omega) (Int.le_refl 0) (by omega) (fun x y x0 x1 y0 y1 => by rw [if_neg (fun w => by omega)]; exact hT x y x0 x1 y0 y1) f0 rfl
