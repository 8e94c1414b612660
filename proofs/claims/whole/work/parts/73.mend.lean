-- ===== the model mends
/-- a giving's table mended -/
def mendG (σ : Mem) (g : Int) (F : Int → Int) : Int → Int := mendF (σ 357 g) (σ 358 g) (σ 359 g) (glv σ g) (gls σ g) (gsz σ g) (gam σ g) F
theorem M_mends_ok {d : Nat} {K : Int → Mem → Prop} {σ : Mem} {g : Int} {F : Int → Int} (g0 : 0 ≤ g) (g5 : g ≤ 5) (hA : GA σ g) (hT : TP σ 398 (σ 357 g) (σ 358 g) F) (hF : FB (σ 357 g) (σ 358 g) F)
    (k : ∀ s2 : Mem, TP s2 398 (σ 357 g) (σ 358 g) (mendG σ g F) → (∀ b j, ¬ b = 398 → s2 b j = σ b j) → K 0 s2) : AM2 i_M_mends (d + 2) [(2, 356), (0, g)] σ K := by
  have hn := hA.1
  have hsz := fun p p0 p1 => (hA.2.2.2.1 p p0 p1).2
  have hls := fun p i p0 p1 i0 i1 => (hA.2.2.2.2 p i p0 p1 i0 i1).2
  have ham := fun t t0 t1 => (hA.2.2.1 t t0 t1).2
  unfold mendG at k
  generalize hN : σ 357 g = n at *
  generalize hM : σ 358 g = m at *
  generalize hR : σ 359 g = R at *
  -- the columns
  have l110 : ∀ (i : Nat) (t : Int) (F : Int → Int) (s1 : Mem), (i : Int) ≤ n → 0 ≤ t → t < m → TP s1 398 n m F → FB n m F → (∀ b j, ¬ b = 398 → s1 b j = σ b j) → (∀ s2 : Mem, TP s2 398 n m (cutC n (gam σ g) t i F) → (∀ b j, ¬ b = 398 → s2 b j = σ b j) → AW2 i_M_mends (d + 2) 97 [] [(0, (2, 356)), (1, (0, g)), (2, (0, t + 1))] s2 K) → AW2 i_M_mends (d + 2) 110 [] [(0, (2, 356)), (1, (0, g)), (2, (0, t)), (3, (0, (i : Int) - 1))] s1 K := by
    intro i
    induction i with
    | zero =>
      intro t F s1 e t0 t1 h hf f next
      refine s_M_mends_110 (brT_i (by omega) ?_)
      rw [w32_id (x := t + 1) (by omega) (by omega)]
      exact next s1 h f
    | succ i ih =>
      intro t F s1 e t0 t1 h hf f next
      have hc := colS_r (n := n) (m := m) (t := t) (F := F) (by omega) hf t0 t1
      have hm := ham t t0 t1
      have hv := hf i t (by omega) (by omega) t0 t1
      refine s_M_mends_110 (brF_i (by omega) ?_)
      refine M_colS_ok (d := d) (n := n) (m := m) (F := F) g0 g5 (by rw [f _ _ (by decide)]; exact hN) (by omega) t0 t1 (by omega) h hf ?_
      rw [f 360 _ (by decide), w32_id (x := 8 * g) (by omega) (by omega), w32_id (x := 8 * g + t) (by omega) (by omega), show ((i + 1 : Nat) : Int) - 1 = i by omega, w32_id (x := 8 * (i : Int)) (by omega) (by omega), w32_id (x := 8 * (i : Int) + t) (by omega) (by omega), w32_id (x := 60 * σ 360 (8 * g + t)) (by omega) (by omega), w32_id (x := colS n F t - 60 * σ 360 (8 * g + t)) (by omega) (by omega), w32_id (x := (i : Int) + -1) (by omega) (by omega)]
      refine inb_i (by omega) (by omega) (M_less_ok (v := F (8 * (i : Int) + t)) (by omega) (by omega) (h i t (by omega) (by omega) t0 t1) hv.1 hv.2 (by omega) (by omega) ?_)
      rw [show (i : Int) + -1 = (i : Int) - 1 by omega]
      exact ih t _ _ (by omega) t0 t1 (TP_less (by omega) t0 t1 h) (FB_less hf) (fun b j z => by rw [st_ne (by omega)]; exact f b j z) next
  have l97 : ∀ (q : Nat) (t : Int) (F : Int → Int) (s1 : Mem), 0 ≤ t → t + q = m → TP s1 398 n m F → FB n m F → (∀ b j, ¬ b = 398 → s1 b j = σ b j) → (∀ s2 : Mem, TP s2 398 n m (mCols n (gam σ g) q t F) → (∀ b j, ¬ b = 398 → s2 b j = σ b j) → K 0 s2) → AW2 i_M_mends (d + 2) 97 [] [(0, (2, 356)), (1, (0, g)), (2, (0, t))] s1 K := by
    intro q
    induction q with
    | zero =>
      intro t F s1 t0 e h hf f next
      refine s_M_mends_97 (inb_i g0 (by omega) ?_)
      rw [f 358 g (by decide), hM]
      exact brF_i (by omega) (next s1 h f)
    | succ q ih =>
      intro t F s1 t0 e h hf f next
      refine s_M_mends_97 (inb_i g0 (by omega) ?_)
      rw [f 358 g (by decide), hM, f 357 g (by decide), hN, w32_id (x := n - 1) (by omega) (by omega)]
      refine brT_i (by omega) (inb_i g0 (by omega) ?_)
      have := l110 n.toNat t F s1 (by omega) t0 (by omega) h hf f (fun s2 y1 y2 => ih (t + 1) _ s2 (by omega) (by omega) y1 (FB_cutC _ _ hf) y2 next)
      rw [show ((n.toNat : Nat) : Int) = n by omega] at this
      exact this
  -- the rows
  have l60 : ∀ (i : Nat) (p : Int) (F : Int → Int) (s1 : Mem), 0 ≤ p → p < n → (i : Int) ≤ gsz σ g p → TP s1 398 n m F → FB n m F → (∀ b j, ¬ b = 398 → s1 b j = σ b j) → (∀ s2 : Mem, TP s2 398 n m (cutR m R (gls σ g) p i F) → (∀ b j, ¬ b = 398 → s2 b j = σ b j) → AW2 i_M_mends (d + 2) 2 [] [(0, (2, 356)), (1, (0, g)), (2, (0, p + 1))] s2 K) → AW2 i_M_mends (d + 2) 60 [] [(0, (2, 356)), (1, (0, g)), (2, (0, p)), (3, (0, (i : Int) - 1))] s1 K := by
    intro i
    induction i with
    | zero =>
      intro p F s1 p0 p1 e h hf f next
      refine s_M_mends_60 (brT_i (by omega) ?_)
      rw [w32_id (x := p + 1) (by omega) (by omega)]
      exact next s1 h f
    | succ i ih =>
      intro p F s1 p0 p1 e h hf f next
      have hs := hsz p p0 p1
      have e2 : ((i + 1 : Nat) : Int) ≤ σ 362 (7 * g + p) := e
      have hl := hls p i p0 p1 (by omega) (by omega)
      have hc := rowS_r (n := n) (m := m) (p := p) (F := F) (by omega) hf p0 p1
      have hv := hf p _ p0 p1 hl.1 hl.2
      refine s_M_mends_60 (brF_i (by omega) ?_)
      rw [show ((i + 1 : Nat) : Int) - 1 = i by omega, w32_id (x := 56 * g) (by omega) (by omega), w32_id (x := 8 * p) (by omega) (by omega), w32_id (x := 56 * g + 8 * p) (by omega) (by omega), w32_id (x := 56 * g + 8 * p + i) (by omega) (by omega), f 363 _ (by decide)]
      refine inb_i (by omega) (by omega) (M_rowS_ok (d := d) (n := n) (m := m) (F := F) g0 g5 (by rw [f _ _ (by decide)]; exact hM) (by omega) p0 p1 (by omega) h hf (inb_i g0 (by omega) ?_))
      rw [f 359 g (by decide), hR, w32_id (x := 60 * R) (by omega) (by omega), w32_id (x := rowS m F p - 60 * R) (by omega) (by omega), w32_id (x := 8 * p + σ 363 (56 * g + 8 * p + i)) (by omega) (by omega), w32_id (x := (i : Int) + -1) (by omega) (by omega)]
      refine M_less_ok (v := F (8 * p + σ 363 (56 * g + 8 * p + i))) (by omega) (by omega) (h p _ p0 p1 hl.1 hl.2) hv.1 hv.2 (by omega) (by omega) ?_
      rw [show (i : Int) + -1 = (i : Int) - 1 by omega]
      exact ih p _ _ p0 p1 (by omega) (TP_less (by omega) hl.1 hl.2 h) (FB_less hf) (fun b j z => by rw [st_ne (by omega)]; exact f b j z) next
  have l10 : ∀ (q : Nat) (t p : Int) (F : Int → Int) (s1 : Mem), 0 ≤ t → t + q = m → 0 ≤ p → p < n → (∀ a b, 0 ≤ a → a < n → 0 ≤ b → b < m → s1 398 (8 * a + b) = if a = p ∧ b < t ∧ glv σ g p b < 0 then 0 else F (8 * a + b)) → (∀ b j, ¬ b = 398 → s1 b j = σ b j) → (∀ s2 : Mem, TP s2 398 n m (dropF m (glv σ g) p F) → (∀ b j, ¬ b = 398 → s2 b j = σ b j) → AW2 i_M_mends (d + 2) 60 [] [(0, (2, 356)), (1, (0, g)), (2, (0, p)), (3, (0, gsz σ g p - 1))] s2 K) → AW2 i_M_mends (d + 2) 10 [] [(0, (2, 356)), (1, (0, g)), (2, (0, p)), (3, (0, t))] s1 K := by
    intro q
    induction q with
    | zero =>
      intro t p F s1 t0 e p0 p1 h f next
      have hs := hsz p p0 p1
      refine s_M_mends_10 (inb_i g0 (by omega) ?_)
      rw [f 358 g (by decide), hM, w32_id (x := 7 * g) (by omega) (by omega), w32_id (x := 7 * g + p) (by omega) (by omega), f 362 _ (by decide), w32_id (x := σ 362 (7 * g + p) - 1) (by omega) (by omega)]
      refine brF_i (by omega) (inb_i (by omega) (by omega) (next s1 (fun a b a0 a1 b0 b1 => ?_) f))
      rw [h a b a0 a1 b0 b1, dropF_at b0 (by omega)]
      by_cases z : a = p ∧ glv σ g p b < 0
      · rw [if_pos ⟨z.1, by omega, z.2⟩, if_pos ⟨z.1, b1, z.2⟩]
      · rw [if_neg (fun y => z ⟨y.1, y.2.2⟩), if_neg (fun y => z ⟨y.1, y.2.2⟩)]
    | succ q ih =>
      intro t p F s1 t0 e p0 p1 h f next
      refine s_M_mends_10 (inb_i g0 (by omega) ?_)
      rw [f 358 g (by decide), hM, w32_id (x := 56 * g) (by omega) (by omega), w32_id (x := 8 * p) (by omega) (by omega), w32_id (x := 56 * g + 8 * p) (by omega) (by omega), w32_id (x := 56 * g + 8 * p + t) (by omega) (by omega), w32_id (x := 8 * p + t) (by omega) (by omega), w32_id (x := t + 1) (by omega) (by omega), f 364 _ (by decide)]
      refine brT_i (by omega) (inb_i (by omega) (by omega) ⟨fun c => inb_i (by omega) (by omega) ?_, fun c => inb_i (by omega) (by omega) (inb_i (by omega) (by omega) ?_)⟩)
      · refine ih (t + 1) p F _ (by omega) (by omega) p0 p1 (fun a b a0 a1 b0 b1 => ?_) (fun b j z => by rw [st_ne (by omega)]; exact f b j z) next
        have c2 : glv σ g p t < 0 := c
        by_cases z : a = p ∧ b = t
        · rw [z.1, z.2, st_self, if_pos ⟨rfl, by omega, c2⟩]
        · rw [st_ne (by omega), h a b a0 a1 b0 b1]
          by_cases y : a = p ∧ b < t ∧ glv σ g p b < 0
          · rw [if_pos y, if_pos ⟨y.1, by omega, y.2.2⟩]
          · rw [if_neg y, if_neg (fun w => y ⟨w.1, by omega, w.2.2⟩)]
      · rw [st_same]
        refine ih (t + 1) p F _ (by omega) (by omega) p0 p1 (fun a b a0 a1 b0 b1 => ?_) f next
        have c2 : ¬ glv σ g p t < 0 := c
        rw [h a b a0 a1 b0 b1]
        by_cases y : a = p ∧ b < t ∧ glv σ g p b < 0
        · rw [if_pos y, if_pos ⟨y.1, by omega, y.2.2⟩]
        · rw [if_neg y, if_neg (fun w => y ⟨w.1, by
            by_cases z : b = t
            · exact absurd (z ▸ w.2.2) c2
            · omega, w.2.2⟩)]
  have l2 : ∀ (q : Nat) (p : Int) (F : Int → Int) (s1 : Mem), 0 ≤ p → p + q = n → TP s1 398 n m F → FB n m F → (∀ b j, ¬ b = 398 → s1 b j = σ b j) → (∀ s2 : Mem, TP s2 398 n m (mRows m R (glv σ g) (gls σ g) (gsz σ g) q p F) → (∀ b j, ¬ b = 398 → s2 b j = σ b j) → AW2 i_M_mends (d + 2) 97 [] [(0, (2, 356)), (1, (0, g)), (2, (0, 0))] s2 K) → AW2 i_M_mends (d + 2) 2 [] [(0, (2, 356)), (1, (0, g)), (2, (0, p))] s1 K := by
    intro q
    induction q with
    | zero =>
      intro p F s1 p0 e h hf f next
      refine s_M_mends_2 (inb_i g0 (by omega) ?_)
      rw [f 357 g (by decide), hN]
      exact brF_i (by omega) (next s1 h f)
    | succ q ih =>
      intro p F s1 p0 e h hf f next
      have hs := hsz p p0 (by omega)
      have es : gsz σ g p = σ 362 (7 * g + p) := rfl
      refine s_M_mends_2 (inb_i g0 (by omega) ?_)
      rw [f 357 g (by decide), hN]
      refine brT_i (by omega) (l10 m.toNat 0 p F s1 (Int.le_refl 0) (by omega) p0 (by omega) (fun a b a0 a1 b0 b1 => by rw [if_neg (fun y => by omega)]; exact h a b a0 a1 b0 b1) f (fun s2 y1 y2 => ?_))
      have hf2 := FB_drop (n := n) (p := p) (lv := glv σ g) (by omega) hf
      have := l60 (gsz σ g p).toNat p _ s2 p0 (by omega) (by omega) y1 hf2 y2 (fun s3 w1 w2 => ih (p + 1) _ s3 (by omega) (by omega) w1 (FB_cutR _ _ hf2) w2 next)
      rw [show (((gsz σ g p).toNat : Nat) : Int) = gsz σ g p by omega] at this
      exact this
  exact e_M_mends fun _ => l2 n.toNat 0 F σ (Int.le_refl 0) (by omega) hT hF (fun _ _ _ => rfl) (fun s2 y1 y2 => l97 m.toNat 0 _ s2 (Int.le_refl 0) (by omega) y1 (FB_mRows (by omega) _ _ _ hF) y2 k)
