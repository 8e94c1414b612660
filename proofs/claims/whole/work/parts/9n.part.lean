-- ===== parted: the class picks
theorem X_pickFor_ok {d : Nat} {K : Int → Mem → Prop} {s : Mem} {g n m p : Int} {T fr mu : Int → Int} (g0 : 0 ≤ g) (g5 : g ≤ 5) (eN : s (4 + 43 * g) 1 = n) (eM : s (4 + 43 * g) 0 = m) (n7 : 1 ≤ n ∧ n ≤ 7) (m8 : 1 ≤ m ∧ m ≤ 8) (p0 : 0 ≤ p) (p1 : p < n) (hA : AL s n m T) (hf : ∀ t, 0 ≤ t → t < m → s 329 t = fr t ∧ s 330 t = mu t ∧ (0 ≤ fr t ∧ fr t ≤ 9) ∧ (-50 ≤ mu t ∧ mu t ≤ 9) ∧ mu t ≤ fr t)
    (hex : Cm m T ((n - p - 1).toNat + 1) p fr mu)
    (k1 : ∀ t s2, (0 ≤ t ∧ t < m ∧ 0 < T (8 * p + t) ∧ 0 < fr t) → Cm m T (n - p - 1).toNat (p + 1) (up fr t (fr t - 1)) (up mu t (mu t - 1)) → (∀ v, 0 ≤ v → v < t → ¬ ((0 < T (8 * p + v) ∧ 0 < fr v) ∧ Cm m T (n - p - 1).toNat (p + 1) (up fr v (fr v - 1)) (up mu v (mu v - 1)))) → s2 328 p = t → (∀ v, 0 ≤ v → v < m → s2 329 v = up fr t (fr t - 1) v ∧ s2 330 v = up mu t (mu t - 1) v) → (∀ b j, ¬ (b = 328 ∧ j = p) → ¬ b = 329 → ¬ b = 330 → s2 b j = s b j) → K 1 s2) : AM2 i_Parting_pickFor (d + 2) [(2, 316), (2, 4 + 43 * g), (0, p)] s K := by
  have ckg := fun {P : Prop} => ck_g (P := P) g0 g5
  have hp := hA p p0 p1
  have l2 : ∀ (q : Nat) (t : Int) (s1 : Mem), 0 ≤ t → t + q = m → (∀ v, 0 ≤ v → v < m → s1 329 v = fr v ∧ s1 330 v = mu v) → (∀ v, 0 ≤ v → v < t → ¬ ((0 < T (8 * p + v) ∧ 0 < fr v) ∧ Cm m T (n - p - 1).toNat (p + 1) (up fr v (fr v - 1)) (up mu v (mu v - 1)))) → (∀ b j, ¬ b = 329 → ¬ b = 330 → s1 b j = s b j) → AW2 i_Parting_pickFor (d + 2) 2 [] [(0, (2, 316)), (1, (2, 4 + 43 * g)), (2, (0, p)), (3, (0, t))] s1 K := by
    intro q
    induction q with
    | zero =>
      intro t s1 t0 e h1 h2 f
      exfalso
      obtain ⟨v, hv, hc⟩ := hex
      exact h2 v hv.1 (by omega) ⟨⟨hv.2.2.1, hv.2.2.2⟩, hc⟩
    | succ q ih =>
      intro t s1 t0 e h1 h2 f
      have h1t := h1 t t0 (by omega)
      have hft := hf t t0 (by omega)
      have hbt := hp.2 t t0 (by omega)
      have next : ¬ ((0 < T (8 * p + t) ∧ 0 < fr t) ∧ Cm m T (n - p - 1).toNat (p + 1) (up fr t (fr t - 1)) (up mu t (mu t - 1))) → ∀ v, 0 ≤ v → v < t + 1 → ¬ ((0 < T (8 * p + v) ∧ 0 < fr v) ∧ Cm m T (n - p - 1).toNat (p + 1) (up fr v (fr v - 1)) (up mu v (mu v - 1))) := fun hn v v0 v1 => by
        by_cases y : v = t
        · rw [y]; exact hn
        · exact h2 v v0 (by omega)
      refine s_Parting_pickFor_2 ?_
      rw [ckg, f (4 + 43 * g) 0 (by omega) (by omega), eM, f 327 p (by omega) (by omega), bit_e hp.1.1 (by omega) t0 (by omega), hbt, w32_id (x := t + 1) (by omega) (by omega), w32_id (x := p + 1) (by omega) (by omega)]
      refine brT_i (by omega) (inb_i p0 (by omega) ?_)
      by_cases c : 0 < T (8 * p + t)
      · rw [decide_eq_true (show t < m ∧ 0 < T (8 * p + t) from ⟨by omega, c⟩), if_pos rfl]
        refine brF_i (by decide) (inb_i t0 (by omega) ?_)
        rw [h1t.1]
        refine ⟨fun c2 => ?_, fun c2 => ih (t + 1) s1 (by omega) (by omega) h1 (next (fun w => c2 w.1.2)) f⟩
        rw [show st s1 329 t (w32 (fr t - 1)) 330 t = mu t by rw [st_ne (by omega)]; exact h1t.2, w32_id (x := fr t - 1) (by omega) (by omega), w32_id (x := mu t - 1) (by omega) (by omega)]
        have hup : ∀ v, 0 ≤ v → v < m → st (st s1 329 t (fr t - 1)) 330 t (mu t - 1) 329 v = up fr t (fr t - 1) v ∧ st (st s1 329 t (fr t - 1)) 330 t (mu t - 1) 330 v = up mu t (mu t - 1) v := fun v v0 v1 => by
          by_cases y : v = t
          · rw [y, up_s, up_s]; exact ⟨by rw [st_ne (by omega), st_self], st_self _ _ _ _⟩
          · rw [up_n y, up_n y, st_ne (by omega), st_ne (by omega), st_ne (by omega), st_ne (by omega)]; exact h1 v v0 v1
        have fup : ∀ b j, ¬ b = 329 → ¬ b = 330 → st (st s1 329 t (fr t - 1)) 330 t (mu t - 1) b j = s b j := fun b j z1 z2 => by rw [st_ne (by omega), st_ne (by omega)]; exact f b j z1 z2
        have hr : ∀ v, 0 ≤ v → v < m → 0 ≤ up fr t (fr t - 1) v ∧ up fr t (fr t - 1) v ≤ 9 ∧ -100 ≤ up mu t (mu t - 1) v ∧ up mu t (mu t - 1) v ≤ 9 ∧ up mu t (mu t - 1) v ≤ up fr t (fr t - 1) v := fun v v0 v1 => by
          have hv := hf v v0 v1
          by_cases y : v = t
          · rw [y, up_s, up_s]; omega
          · rw [up_n y, up_n y]; omega
        have eq1 : (n - (p + 1)).toNat = (n - p - 1).toNat := by omega
        refine inb_i t0 (by omega) (inb_i t0 (by omega) (inb_i t0 (by omega) (inb_i t0 (by omega) (X_canGoOn_ok (d := d) (n := n) (m := m) (T := T) (fr := up fr t (fr t - 1)) (mu := up mu t (mu t - 1)) g0 g5 (by rw [fup _ _ (by omega) (by omega)]; exact eN) (by rw [fup _ _ (by omega) (by omega)]; exact eM) n7 m8 (by omega) (by omega) (fun x x0 x1 => by rw [fup _ _ (by omega) (by omega)]; exact hA x x0 x1) (fun v v0 v1 => ⟨(hup v v0 v1).1, (hup v v0 v1).2, ⟨(hr v v0 v1).1, (hr v v0 v1).2.1⟩, (hr v v0 v1).2.2.1, (hr v v0 v1).2.2.2.1⟩) (fun hc => br1 ?_) (fun hc => br0 ?_)))))
        · rw [eq1] at hc
          have hcm := HC_Cm (by omega) _ _ _ _ (fun v v0 v1 => ⟨(hr v v0 v1).1, (hr v v0 v1).2.2.2.2⟩) hc
          refine inb_i p0 (by omega) (k1 t _ ⟨t0, by omega, c, c2⟩ hcm h2 (st_self _ _ _ _) (fun v v0 v1 => by rw [st_ne (by omega), st_ne (by omega)]; exact hup v v0 v1) (fun b j z1 z2 z3 => by rw [st_ne (by omega)]; exact fup b j z2 z3))
        · rw [eq1] at hc
          have e1 : ∀ v : Int, st (st (st s1 329 t (fr t - 1)) 330 t (mu t - 1)) 329 t v 330 t = mu t - 1 := fun v => by rw [st_ne (by omega), st_self]
          rw [(hup t t0 (by omega)).1, up_s, e1, w32_id (x := fr t - 1 + 1) (by omega) (by omega), w32_id (x := mu t - 1 + 1) (by omega) (by omega)]
          refine inb_i t0 (by omega) (inb_i t0 (by omega) (inb_i t0 (by omega) (inb_i t0 (by omega) (ih (t + 1) _ (by omega) (by omega) (fun v v0 v1 => ?_) (next (fun w => hc (Cm_HC _ _ _ _ (fun v v0 v1 => (hr v v0 v1).1) w.2))) (fun b j z1 z2 => by rw [st_ne (by omega), st_ne (by omega)]; exact fup b j z1 z2)))))
          by_cases y : v = t
          · rw [y]; exact ⟨by rw [st_ne (by omega), st_self]; omega, by rw [st_self]; omega⟩
          · rw [st_ne (by omega), st_ne (by omega), st_ne (by omega), st_ne (by omega), st_ne (by omega), st_ne (by omega), st_ne (by omega), st_ne (by omega)]; exact h1 v v0 v1
      · rw [decide_eq_false (fun w => c w.2), if_neg (by decide)]
        exact brT_i rfl (ih (t + 1) s1 (by omega) (by omega) h1 (next (fun w => c w.1.1)) f)
  exact e_Parting_pickFor fun _ => l2 m.toNat 0 s (Int.le_refl 0) (by omega) (fun v v0 v1 => ⟨(hf v v0 v1).1, (hf v v0 v1).2.1⟩) (fun v a b => by omega) (fun _ _ _ _ => rfl)
theorem X_pickFirst_ok {d : Nat} {K : Int → Mem → Prop} {s : Mem} {g n m : Int} {T fr mu : Int → Int} (g0 : 0 ≤ g) (g5 : g ≤ 5) (eN : s (4 + 43 * g) 1 = n) (eM : s (4 + 43 * g) 0 = m) (n7 : 1 ≤ n ∧ n ≤ 7) (m8 : 1 ≤ m ∧ m ≤ 8) (hA : AL s n m T) (hf : ∀ t, 0 ≤ t → t < m → s 329 t = fr t ∧ s 330 t = mu t ∧ (0 ≤ fr t ∧ fr t ≤ 9) ∧ (-1 ≤ mu t ∧ mu t ≤ 9) ∧ mu t ≤ fr t)
    (hex : Cm m T n.toNat 0 fr mu)
    (k1 : ∀ s2, PkR m T n.toNat 0 fr mu (s2 328) → (∀ t, 0 ≤ t → t < m → s2 329 t = fr t - cntE n (s2 328) t) → (∀ b j, ¬ (328 ≤ b ∧ b ≤ 330) → s2 b j = s b j) → K 1 s2) : AM2 i_Parting_pickFirst (d + 3) [(2, 316), (2, 4 + 43 * g)] s K := by
  have ckg := fun {P : Prop} => ck_g (P := P) g0 g5
  have l2 : ∀ (q : Nat) (p : Int) (f2 m2 : Int → Int) (s1 : Mem), 0 ≤ p → p + q = n → Cm m T q p f2 m2 → (∀ t, 0 ≤ t → t < m → s1 329 t = f2 t ∧ s1 330 t = m2 t ∧ (0 ≤ f2 t ∧ f2 t ≤ 9) ∧ (-1 - p ≤ m2 t ∧ m2 t ≤ 9) ∧ m2 t ≤ f2 t) → (∀ t, 0 ≤ t → t < m → f2 t = fr t - cntE p (s1 328) t) → (∀ a : Int → Int, (∀ x, 0 ≤ x → x < p → a x = s1 328 x) → PkR m T q p f2 m2 a → PkR m T n.toNat 0 fr mu a) → (∀ b j, ¬ (328 ≤ b ∧ b ≤ 330) → s1 b j = s b j) → AW2 i_Parting_pickFirst (d + 3) 2 [] [(0, (2, 316)), (1, (2, 4 + 43 * g)), (2, (0, p))] s1 K := by
    intro q
    induction q with
    | zero =>
      intro p f2 m2 s1 p0 e hc h1 h2 h3 f
      have ep : p = n := by omega
      rw [ep] at h2 h3
      refine s_Parting_pickFirst_2 ?_
      rw [ckg, f (4 + 43 * g) 1 (by omega), eN]
      exact brF_i (by omega) (k1 s1 (h3 _ (fun _ _ _ => rfl) hc) (fun t t0 t1 => by rw [(h1 t t0 t1).1]; exact h2 t t0 t1) f)
    | succ q ih =>
      intro p f2 m2 s1 p0 e hc h1 h2 h3 f
      have eq1 : (n - p - 1).toNat = q := by omega
      refine s_Parting_pickFirst_2 ?_
      rw [ckg, f (4 + 43 * g) 1 (by omega), eN]
      refine brT_i (by omega) (X_pickFor_ok (d := d) (n := n) (m := m) (T := T) (fr := f2) (mu := m2) g0 g5 (by rw [f _ _ (by omega)]; exact eN) (by rw [f _ _ (by omega)]; exact eM) n7 m8 p0 (by omega) (fun x x0 x1 => by rw [f _ _ (by omega)]; exact hA x x0 x1) (fun t t0 t1 => by have := h1 t t0 t1; exact ⟨this.1, this.2.1, this.2.2.1, ⟨by omega, by omega⟩, this.2.2.2.2⟩) (by rw [eq1]; exact hc) (fun t s2 ht hcm hno y1 y2 f3 => br1 ?_))
      rw [eq1] at hcm hno
      rw [w32_id (x := p + 1) (by omega) (by omega)]
      have h328 : ∀ x, 0 ≤ x → x < p → s2 328 x = s1 328 x := fun x x0 x1 => f3 _ _ (by omega) (by omega) (by omega)
      refine ih (p + 1) _ _ s2 (by omega) (by omega) hcm (fun v v0 v1 => ?_) (fun v v0 v1 => ?_) (fun a ha hp => ?_) (fun b j z => by rw [f3 b j (by omega) (by omega) (by omega)]; exact f b j z)
      · have hv := h1 v v0 v1
        refine ⟨(y2 v v0 v1).1, (y2 v v0 v1).2, ?_⟩
        by_cases y : v = t
        · rw [y, up_s, up_s]; rw [y] at hv; omega
        · rw [up_n y, up_n y]; omega
      · have ec : cntE p (s2 328) v = cntE p (s1 328) v := sm_congr _ _ _ (fun j j0 j1 => by rw [h328 j j0 (by omega)])
        rw [cnt_snoc p0, y1, ec]
        have := h2 v v0 v1
        by_cases y : v = t
        · rw [y, up_s, if_pos rfl]; rw [y] at this; omega
        · rw [up_n y, if_neg (fun w => y w.symm)]; omega
      · have eap : a p = t := by rw [ha p p0 (by omega), y1]
        refine h3 a (fun x x0 x1 => by rw [ha x x0 (by omega)]; exact h328 x x0 x1) ?_
        refine ⟨⟨by rw [eap]; exact ht, by rw [eap]; exact hcm⟩, fun v v0 v1 => ?_, by rw [eap]; exact hp⟩
        rw [eap] at v1
        exact hno v v0 v1
  exact e_Parting_pickFirst (l2 n.toNat 0 fr mu s (Int.le_refl 0) (by omega) hex (fun t t0 t1 => by have := hf t t0 t1; exact ⟨this.1, this.2.1, this.2.2.1, ⟨by omega, by omega⟩, this.2.2.2.2⟩) (fun t t0 t1 => by show fr t = fr t - 0; omega) (fun a _ h => h) (fun _ _ _ => rfl))
theorem minI_f (x y : Int) : minI x y ≤ x ∧ minI x y ≤ y ∧ (minI x y = x ∨ minI x y = y) := by unfold minI; split <;> omega
theorem minI_as (a b c : Int) : minI a (minI b c) = minI (minI a b) c := by
  have h1 := minI_f a (minI b c)
  have h2 := minI_f b c
  have h3 := minI_f (minI a b) c
  have h4 := minI_f a b
  omega
theorem mnf_min {f : Int → Int} {r : Int} : ∀ (q : Nat) (i lo : Int), minI r (mnf f q i lo) = mnf f q i (minI r lo)
  | 0, _, _ => rfl
  | q + 1, i, lo => by
    show minI r (mnf f q (i + 1) (minI lo (f i))) = mnf f q (i + 1) (minI (minI r lo) (f i))
    rw [mnf_min q (i + 1), minI_as]
theorem X_mostOff_ok {d : Nat} {K : Int → Mem → Prop} {s : Mem} {g n m rest : Int} {am T : Int → Int} (g0 : 0 ≤ g) (g5 : g ≤ 5) (eN : s (4 + 43 * g) 1 = n) (eM : s (4 + 43 * g) 0 = m) (n7 : 1 ≤ n ∧ n ≤ 7) (m8 : 1 ≤ m ∧ m ≤ 8) (hr : 0 ≤ rest ∧ rest ≤ 60) (hP : PX s n m T) (ha : ∀ x, 0 ≤ x → x < n → 0 ≤ s 328 x ∧ s 328 x < m) (hfr : ∀ t, 0 ≤ t → t < m → s 329 t = am t - cntE n (s 328) t ∧ am t - cntE n (s 328) t ≤ 9) (hsl : ∀ t, 0 ≤ t → t < m → s 331 t = am t * rest - colS n T t ∧ 0 ≤ am t * rest - colS n T t ∧ am t * rest - colS n T t ≤ 1000)
    (k : ∀ v, minI rest v = moF n m am T (s 328) rest → K v s) : AM2 i_Parting_mostOff (d + 1) [(2, 316), (2, 4 + 43 * g)] s K := by
  have ckg := fun {P : Prop} => ck_g (P := P) g0 g5
  have l24 : ∀ (q : Nat) (t lo : Int), 0 ≤ t → t + q = m → lo ≤ 60 → mnf (moG n am T (s 328) rest) q t (minI rest lo) = moF n m am T (s 328) rest → AW2 i_Parting_mostOff (d + 1) 24 [] [(0, (2, 316)), (1, (2, 4 + 43 * g)), (2, (0, lo)), (3, (0, t))] s K := by
    intro q
    induction q with
    | zero =>
      intro t lo t0 e hlo er
      refine s_Parting_mostOff_24 ?_
      rw [ckg, eM]
      exact brF_i (by omega) (k lo er)
    | succ q ih =>
      intro t lo t0 e hlo er
      have h1 := hfr t t0 (by omega)
      have h2 := hsl t t0 (by omega)
      have er : mnf (moG n am T (s 328) rest) q (t + 1) (minI (minI rest lo) (moG n am T (s 328) rest t)) = moF n m am T (s 328) rest := er
      rw [← minI_as] at er
      refine s_Parting_mostOff_24 ?_
      rw [ckg, eM, h1.1, h2.1, w32_id (x := t + 1) (by omega) (by omega)]
      refine brT_i (by omega) (inb_i t0 (by omega) ⟨fun c => inb_i t0 (by omega) (inb_i t0 (by omega) (nzP_i (by omega) ?_)), fun c => ?_⟩)
      · rw [divI_nn h2.2.1 (by omega) c (by omega)]
        have eg : moG n am T (s 328) rest t = (am t * rest - colS n T t) / (am t - cntE n (s 328) t) := by unfold moG; rw [if_pos c]
        rw [eg] at er
        refine ih (t + 1) _ (by omega) (by omega) ?_ er
        unfold minI; split <;> omega
      · have eg : moG n am T (s 328) rest t = 60 := by unfold moG; rw [if_neg c]
        have em : minI lo 60 = lo := by unfold minI; rw [if_neg (by omega)]
        rw [eg, em] at er
        exact ih (t + 1) lo (by omega) (by omega) hlo er
  have l4 : ∀ (q : Nat) (p lo : Int), 0 ≤ p → p + q = n → lo ≤ 60 → mnf (fun p => T (8 * p + s 328 p)) q p (minI rest lo) = mnf (fun p => T (8 * p + s 328 p)) n.toNat 0 rest → AW2 i_Parting_mostOff (d + 1) 4 [] [(0, (2, 316)), (1, (2, 4 + 43 * g)), (2, (0, lo)), (3, (0, p))] s K := by
    intro q
    induction q with
    | zero =>
      intro p lo p0 e hlo er
      have er : minI rest lo = mnf (fun p => T (8 * p + s 328 p)) n.toNat 0 rest := er
      refine s_Parting_mostOff_4 ?_
      rw [ckg, eN]
      refine brF_i (by omega) (l24 m.toNat 0 lo (Int.le_refl 0) (by omega) hlo ?_)
      rw [er]; rfl
    | succ q ih =>
      intro p lo p0 e hlo er
      have hap := ha p p0 (by omega)
      have er : mnf (fun p => T (8 * p + s 328 p)) q (p + 1) (minI (minI rest lo) (T (8 * p + s 328 p))) = mnf (fun p => T (8 * p + s 328 p)) n.toNat 0 rest := er
      rw [← minI_as] at er
      refine s_Parting_mostOff_4 ?_
      rw [ckg, eN, pt_rw p0 (by omega), ck_rw p0 (by omega), sn_rw p0 (by omega), hP p _ p0 (by omega) hap.1 hap.2, w32_id (x := p + 1) (by omega) (by omega)]
      refine brT_i (by omega) (inb_i p0 (by omega) (inb_i p0 (by omega) (inb_i hap.1 (by omega) (ih (p + 1) _ (by omega) (by omega) ?_ er))))
      unfold minI; split <;> omega
  have e60 : minI rest 60 = rest := by unfold minI; rw [if_neg (by omega)]
  exact e_Parting_mostOff (l4 n.toNat 0 60 (Int.le_refl 0) (by omega) (by decide) (by rw [e60]))
