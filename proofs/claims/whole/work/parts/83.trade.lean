-- ===== the model closes a ring
theorem M_endsRing_ok {d : Nat} {K : Int → Mem → Prop} {s : Mem} {g n : Int} {f h dn en : Int → Int} (g0 : 0 ≤ g) (g5 : g ≤ 5) (eN : s 357 g = n) (n7 : 0 ≤ n ∧ n ≤ 7) (hh : ∀ o, 0 ≤ o → o < n → s 394 o = h o) (hd : ∀ o, 0 ≤ o → o < n → s 396 o = dn o) (he : ∀ o, 0 ≤ o → o < n → s 395 o = en o) (hf : ∀ o, 0 ≤ o → o < n → dn o = 0 → s 397 o = f o ∧ (0 ≤ f o ∧ f o < n) ∧ dn (f o) = 0)
    (k1 : ∀ s2 : Mem, ¬ frR f dn n.toNat n.toNat 0 = -1 → (∀ o, 0 ≤ o → o < n → s2 396 o = (clR f h n.toNat (dn, en)).1 o ∧ s2 395 o = (clR f h n.toNat (dn, en)).2 o) → (∀ b j, ¬ b = 395 → ¬ b = 396 → s2 b j = s b j) → K 1 s2) (k0 : frR f dn n.toNat n.toNat 0 = -1 → K 0 s) : AM2 i_M_endsRing (d + 1) [(2, 356), (0, g)] s K := by
  have hQ : ∀ x, (0 ≤ x ∧ x < n ∧ dn x = 0) → (0 ≤ x ∧ x < n ∧ s 397 x = f x) ∧ (0 ≤ f x ∧ f x < n ∧ dn (f x) = 0) := fun x z => by
    have := hf x z.1 z.2.1 z.2.2
    exact ⟨⟨z.1, z.2.1, this.1⟩, this.2.1.1, this.2.1.2, this.2.2⟩
  have l31 : ∀ (q : Nat) (p o : Int) (S : DE) (s1 : Mem), ¬ frR f dn n.toNat n.toNat 0 = -1 → (0 ≤ o ∧ o < n ∧ dn o = 0) → rgM f p q o = true → (∀ o, 0 ≤ o → o < n → s1 396 o = S.1 o ∧ s1 395 o = S.2 o) → (∀ b j, ¬ b = 395 → ¬ b = 396 → s1 b j = s b j) → mdW f h p q o S = clR f h n.toNat (dn, en) → AW2 i_M_endsRing (d + 1) 31 [] [(0, (2, 356)), (2, (0, p)), (3, (0, o))] s1 K := by
    intro q
    induction q with
    | zero => intro p o S s1 hne ho hr; cases hr
    | succ q ih =>
      intro p o S s1 hne ho hr hm fr ec
      have e1 : rgM f p (q + 1) o = if f o = p then true else rgM f p q (f o) := rfl
      have e2 : mdW f h p (q + 1) o S = if f o = p then upW f h S o else mdW f h p q (f o) (upW f h S o) := rfl
      rw [e1] at hr
      rw [e2] at ec
      have hv := hQ o ho
      have hm2 : ∀ x, 0 ≤ x → x < n → st (st s1 395 o (h (f o))) 396 o 1 396 x = (upW f h S o).1 x ∧ st (st s1 395 o (h (f o))) 396 o 1 395 x = (upW f h S o).2 x := fun x x0 x1 => by
        by_cases z : x = o
        · rw [z]
          exact ⟨by rw [st_self]; exact up_s.symm, by rw [st_ne (by omega), st_self]; exact up_s.symm⟩
        · refine ⟨?_, ?_⟩
          · rw [st_ne (by omega), st_ne (by omega), (hm x x0 x1).1]; exact (up_n z).symm
          · rw [st_ne (by omega), st_ne (by omega), (hm x x0 x1).2]; exact (up_n z).symm
      have fr2 : ∀ b j, ¬ b = 395 → ¬ b = 396 → st (st s1 395 o (h (f o))) 396 o 1 b j = s b j := fun b j z1 z2 => by rw [st_ne (by omega), st_ne (by omega)]; exact fr b j z1 z2
      refine s_M_endsRing_31 ?_
      rw [fr 397 o (by decide) (by decide), hv.1.2.2, fr 394 (f o) (by decide) (by decide), hh (f o) hv.2.1 hv.2.2.1, fr2 397 o (by decide) (by decide), hv.1.2.2]
      refine inb_i ho.1 (by omega) (inb_i hv.2.1 (by omega) (inb_i ho.1 (by omega) (inb_i ho.1 (by omega) (inb_i ho.1 (by omega) ⟨fun c => ?_, fun c => ?_⟩))))
      · rw [if_pos c] at ec
        exact k1 _ hne (fun x x0 x1 => by rw [← ec]; exact hm2 x x0 x1) fr2
      · rw [if_neg c] at ec hr
        exact ih p (f o) (upW f h S o) _ hne hv.2 hr hm2 fr2 ec
  have l2 : ∀ (q : Nat) (p : Int), 0 ≤ p → p + q = n → frR f dn n.toNat q p = frR f dn n.toNat n.toNat 0 → AW2 i_M_endsRing (d + 1) 2 [] [(0, (2, 356)), (1, (0, g)), (2, (0, p))] s K := by
    intro q
    induction q with
    | zero =>
      intro p p0 e er
      have er : -1 = frR f dn n.toNat n.toNat 0 := er
      refine s_M_endsRing_2 (inb_i g0 (by omega) ?_)
      rw [eN]
      exact brF_i (by omega) (k0 er.symm)
    | succ q ih =>
      intro p p0 e er
      have e1 : frR f dn n.toNat (q + 1) p = if dn p = 0 ∧ rgM f p n.toNat p = true then p else frR f dn n.toNat q (p + 1) := rfl
      rw [e1] at er
      refine s_M_endsRing_2 (inb_i g0 (by omega) ?_)
      rw [eN]
      refine brT_i (by omega) ?_
      by_cases c : dn p = 0
      · have hp : 0 ≤ p ∧ p < n ∧ dn p = 0 := ⟨p0, by omega, c⟩
        have l12 : ∀ (u : Nat) (o i : Int), (0 ≤ o ∧ o < n ∧ dn o = 0) → 0 ≤ i → i + u = n → rgM f p u o = rgM f p n.toNat p → AW2 i_M_endsRing (d + 1) 12 [] [(0, (2, 356)), (1, (0, g)), (2, (0, p)), (3, (0, o)), (4, (0, i))] s K := by
          intro u
          induction u with
          | zero =>
            intro o i ho i0 e2 eu
            have eu : false = rgM f p n.toNat p := eu
            rw [if_neg (fun w => by rw [← eu] at w; cases w.2)] at er
            refine s_M_endsRing_12 (inb_i g0 (by omega) ?_)
            rw [eN, w32_id (x := p + 1) (by omega) (by omega)]
            exact brF_i (by omega) (ih (p + 1) (by omega) (by omega) er)
          | succ u ihu =>
            intro o i ho i0 e2 eu
            have e3 : rgM f p (u + 1) o = if f o = p then true else rgM f p u (f o) := rfl
            rw [e3] at eu
            have hv := hQ o ho
            refine s_M_endsRing_12 (inb_i g0 (by omega) ?_)
            rw [eN, hd p p0 (by omega), hv.1.2.2, w32_id (x := i + 1) (by omega) (by omega)]
            refine brT_i (by omega) (inb_i p0 (by omega) (brT_i c (inb_i ho.1 (by omega) ⟨fun c2 => ?_, fun c2 => ?_⟩)))
            · rw [if_pos c2] at eu
              rw [if_pos ⟨c, eu.symm⟩] at er
              rw [c2]
              refine l31 n.toNat p p (dn, en) s (by omega) hp eu.symm (fun x x0 x1 => ⟨hd x x0 x1, he x x0 x1⟩) (fun _ _ _ _ => rfl) ?_
              unfold clR
              rw [← er, if_neg (by omega)]
            · rw [if_neg c2] at eu
              exact ihu (f o) (i + 1) hv.2 (by omega) (by omega) eu
        exact l12 n.toNat p 0 hp (Int.le_refl 0) (by omega) rfl
      · rw [if_neg (fun w => c w.1)] at er
        refine s_M_endsRing_12 (inb_i g0 (by omega) ?_)
        rw [eN, hd p p0 (by omega), w32_id (x := p + 1) (by omega) (by omega)]
        exact brT_i (by omega) (inb_i p0 (by omega) (brF_i c (ih (p + 1) (by omega) (by omega) er)))
  exact e_M_endsRing fun _ => l2 n.toNat 0 (Int.le_refl 0) (by omega) rfl
