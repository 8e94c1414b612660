-- ===== the class tries a list
theorem X_relist_ok {d : Nat} {K : Int → Mem → Prop} {s : Mem} {g b p z : Int} {ls o : Int → Int} (g0 : 0 ≤ g) (g5 : g ≤ 5) (b0 : 0 ≤ b) (b5 : b ≤ 5) (hgb : ¬ g = b) (p0 : 0 ≤ p) (p7 : p < 7) (hz : 0 ≤ z ∧ z ≤ 8) (ez : s (7 + 43 * g) p = z) (hP : PM z o) (ho : ∀ i, 0 ≤ i → i < z → s 305 i = o i) (hl : ∀ i, 0 ≤ i → i < z → s (9 + 43 * g + p) i = ls i ∧ 0 ≤ ls i ∧ ls i < 8)
    (k : ∀ s2 : Mem, s2 (7 + 43 * b) p = z → (∀ i, 0 ≤ i → i < z → s2 (9 + 43 * b + p) i = ls (o i)) → (∀ x j, ¬ (x = 7 + 43 * b ∧ j = p) → ¬ x = 9 + 43 * b + p → ¬ x = 17 + 43 * b + p → s2 x j = s x j) → K 0 s2) : AM2 i_Giving_relist (d + 3) [(2, 4 + 43 * b), (0, p), (2, 4 + 43 * g), (2, 305)] s K := by
  have l15 : ∀ (q : Nat) (i : Int) (s1 : Mem), 0 ≤ i → i + q = z → s1 (7 + 43 * b) p = i → (∀ j, 0 ≤ j → j < i → s1 (9 + 43 * b + p) j = ls (o j)) → (∀ x j, ¬ (x = 7 + 43 * b ∧ j = p) → ¬ x = 9 + 43 * b + p → ¬ x = 17 + 43 * b + p → s1 x j = s x j) → AW2 i_Giving_relist (d + 3) 15 [] [(0, (2, 4 + 43 * b)), (1, (0, p)), (2, (2, 4 + 43 * g)), (3, (2, 305)), (5, (0, i))] s1 K := by
    intro q
    induction q with
    | zero =>
      intro i s1 i0 e h7 h9 f
      refine s_Giving_relist_15 ?_
      rw [ck_g g0 g5, pt_sz g0 g5, ck_sz g0 g5, sn_sz g0 g5, f (7 + 43 * g) p (by omega) (by omega) (by omega), ez]
      exact inb_i p0 p7 (brF_i (by omega) (k s1 (by omega) (fun j j0 j1 => h9 j j0 (by omega)) f))
    | succ q ih =>
      intro i s1 i0 e h7 h9 f
      have hPi := (hP i i0 (by omega)).1
      have hli := hl (o i) hPi.1 hPi.2
      refine s_Giving_relist_15 ?_
      rw [ck_g g0 g5, pt_sz g0 g5, ck_sz g0 g5, sn_sz g0 g5, f (7 + 43 * g) p (by omega) (by omega) (by omega), ez, ck_g g0 g5, pt_ls g0 g5, ck_ls g0 g5, sn_ls g0 g5, pt_lr g0 g5 p0 p7, ck_lr g0 g5 p0 p7, sn_lr g0 g5 p0 p7, ck_g b0 b5, f 305 i (by omega) (by omega) (by omega), ho i i0 (by omega), f (9 + 43 * g + p) (o i) (by omega) (by omega) (by omega), hli.1, w32_id (x := i + 1) (by omega) (by omega)]
      refine inb_i p0 p7 (brT_i (by omega) (inb_i p0 p7 (chkK_i rfl (inb_i i0 (by show i < 8; omega) (inb_i hPi.1 (by omega) ?_)))))
      refine X_append_ok (d := d + 1) b0 b5 p0 p7 hli.2.1 hli.2.2 h7 i0 (by omega) ?_
      refine ih (i + 1) _ (by omega) (by omega) (st_self _ _ _ _) (fun j j0 j1 => ?_) (fun x j z1 z2 z3 => by rw [st_ne z1, st_ne (by omega), st_ne (by omega)]; exact f x j z1 z2 z3)
      by_cases y : j = i
      · rw [y, st_ne (by omega), st_ne (by omega), st_self]
      · rw [st_ne (by omega), st_ne (by omega), st_ne (by omega)]; exact h9 j j0 (by omega)
  refine e_Giving_relist fun _ => ?_
  rw [ck_g b0 b5, pt_he b0 b5, ck_he b0 b5, sn_he b0 b5, ck_g b0 b5]
  refine inb_i p0 p7 (X_unlist_ok (d := d) b0 b5 p0 p7 (fun s1 w1 w2 w3 f1 => ?_))
  rw [ck_g b0 b5, ck_he b0 b5]
  refine inb_i p0 p7 (l15 z.toNat 0 _ (Int.le_refl 0) (by omega) (by rw [st_ne (by omega)]; exact w2) (fun j j0 j1 => by omega) (fun x j z1 z2 z3 => ?_))
  by_cases y : x = 6 + 43 * b ∧ j = p
  · rw [y.1, y.2, st_self]
  · rw [st_ne y, f1 x j y z1 (by omega)]
theorem X_compareOtherwise_ok {d : Nat} {K : Int → Mem → Prop} {σ : Mem} {g p k : Int} {o : Int → Int} (hI : I_giv σ) (hF : I_fresh σ) (hG : I_GW σ) (g0 : 0 ≤ g) (gb : g < σ 356 0) (p0 : 0 ≤ p) (p1 : p < σ 357 g) (hk : k = 1 ∨ k = 3) (hP : PM (csz σ g p) o) (ho : ∀ i, 0 ≤ i → i < csz σ g p → σ 305 i = o i)
    (q : ∀ r s2, lyV σ g p k o r → SE σ s2 → I_fresh s2 → (∀ j, s2 305 j = σ 305 j) → K r s2) : AM2 i_X_compareOtherwise (d + 6) [(2, 0), (2, 4 + 43 * g), (0, p), (0, k)] σ K := by
  obtain ⟨hA, hB, hC⟩ := hI.2.2.2 g g0 gb
  have h5 := hI.2.2.1
  have hn := hA.1
  have ez : csz σ g p = σ 362 (7 * g + p) := csz_e p0 (by omega)
  have hsz := (hA.2.2.2.1 p p0 p1)
  have hLG := lyL_G hA p0 p1 hP
  have h219 : (219 : Int) = 4 + 43 * 5 := rfl
  refine e_X_compareOtherwise fun _ _ => Xsh hI hF g0 gb (by omega) (by omega) (fun s1 hse1 hf1 hS1 f1 => ?_)
  have I1 := SE_giv hse1 hI
  have x1 := rowsX hse1 g0 (by omega) hA hB p0 p1
  rw [h219]
  refine X_become_ok (d := d + 3) (a := g) (b := 5) g0 (by omega) (by decide) (by decide) (by omega) (fun s2 hc2 hz2 hw2 f2 => ?_)
  have f2' : ∀ x j, ¬ (219 ≤ x ∧ x < 262) → s2 x j = s1 x j := fun x j z => f2 x j (by omega) (by omega)
  refine X_relist_ok (d := d + 2) (g := g) (b := 5) (p := p) (z := csz σ g p) (ls := clI σ g p) (o := o) g0 (by omega) (by decide) (by decide) (by omega) p0 (by omega) (by omega) (by rw [f2' _ _ (by omega), x1.1, ez]) hP (fun i i0 i1 => by rw [f2' _ _ (by omega), f1 305 i (by omega) (by omega) (by omega) (by omega)]; exact ho i i0 i1) (fun i i0 i1 => ?_) (fun s3 w7 w9 f3 => ?_)
  · have hL := (GA_C hA).1.2 p i p0 p1 i0 i1
    rw [f2' _ _ (by omega), x1.2.1 i i0 (by omega), clI_e p0 (by omega) i0 (by omega)]
    rw [clI_e p0 (by omega) i0 (by omega)] at hL
    exact ⟨rfl, hL.1, by omega⟩
  -- the other giving, as it stands
  have e1 : s3 (4 + 43 * 5) 1 = σ 357 g := by rw [f3 _ _ (by omega) (by omega) (by omega), hc2.1.2.1, SE_A hse1 g0 (by omega) (Or.inl (by unfold fA; omega))]; exact hA.2.1.1
  have e0 : s3 (4 + 43 * 5) 0 = σ 358 g := by rw [f3 _ _ (by omega) (by omega) (by omega), hc2.1.1, SE_A hse1 g0 (by omega) (Or.inl (by unfold fA; omega))]; exact hA.2.1.2.1
  have e2 : s3 (4 + 43 * 5) 2 = σ 359 g := by rw [f3 _ _ (by omega) (by omega) (by omega), hc2.1.2.2, SE_A hse1 g0 (by omega) (Or.inl (by unfold fA; omega))]; exact hA.2.1.2.2
  have hX3 : LX s3 5 (σ 357 g) (σ 358 g) (lyL σ g p o) (csz σ g) := by
    have hL := (GA_C hA)
    have hcs : ∀ x, 0 ≤ x → x < σ 357 g → s2 (7 + 43 * 5) x = csz σ g x := fun x x0 x1 => by
      rw [hc2.2 7 x (by unfold cpC; omega), SE_A hse1 g0 (by omega) (Or.inl (by unfold fA; omega))]; exact hL.2.1.1 x x0 x1
    refine ⟨fun x x0 x1 => ?_, fun x i x0 x1 i0 i1 => ?_⟩
    · by_cases y : x = p
      · rw [y]; exact w7
      · rw [f3 _ _ (by omega) (by omega) (by omega)]; exact hcs x x0 x1
    · by_cases y : x = p
      · rw [y] at i1 ⊢
        rw [lyL_p i0 i1]; exact w9 i i0 i1
      · have hx8 := hL.1.1 x x0 x1
        rw [lyL_n y, f3 _ _ (by omega) (by omega) (by omega), show 9 + 43 * 5 + x = (9 + x) + 43 * 5 by omega, hc2.2 (9 + x) i (by unfold cpC; omega), show 9 + x + 43 * g = 9 + 43 * g + x by omega, SE_A hse1 g0 (by omega) (Or.inl (by unfold fA; omega))]
        exact hL.2.1.2 x i x0 x1 i0 i1
  have ha3 : ∀ t, 0 ≤ t → t < σ 358 g → s3 (5 + 43 * 5) t = cam σ g t ∧ 1 ≤ cam σ g t ∧ cam σ g t ≤ 9 := fun t t0 t1 => by
    have hc := cam_r hA t t0 t1
    refine ⟨?_, hc.2.2⟩
    rw [f3 _ _ (by omega) (by omega) (by omega), hc2.2 5 t (by unfold cpC; omega), SE_A hse1 g0 (by omega) (Or.inl (by unfold fA; omega))]
    exact hc.1
  refine X_shares13_ok (d := d) (g := 5) (k := k) (n := σ 357 g) (m := σ 358 g) (R := σ 359 g) (am := cam σ g) (ls := lyL σ g p o) (sz := csz σ g) (by decide) (by decide) hk hLG hX3 e1 e0 e2 (by omega) (by omega) (by omega) ha3 (by rw [f3 _ _ (by omega) (by omega) (by omega)]; exact hz2 k (by omega) (by omega)) (fun s4 y1 y3 y4 f4 => ?_)
  have htr := tp_r (k := k) (n := σ 357 g) (m := σ 358 g) (R := σ 359 g) (am := cam σ g) (ls := lyL σ g p o) (sz := csz σ g) (by omega) (by omega) (by omega) hLG (fun t t0 t1 => (cam_r hA t t0 t1).2.2)
  have hr := sh_r (k := k) hA hB hC
  have fall : ∀ x j, ¬ (219 ≤ x ∧ x < 262) → ¬ (285 ≤ x ∧ x ≤ 304) → ¬ (307 ≤ x ∧ x ≤ 315) → s4 x j = s1 x j := fun x j z1 z2 z3 => by
    rw [f4 x j (by omega) (by omega) z2 z3, f3 x j (by omega) (by omega) (by omega)]; exact f2' x j z1
  have hse4 : SE σ s4 := SE_t hse1 (fun x j z => fall x j (by unfold sE at z; omega) (by unfold sE at z; omega) (by unfold sE at z; omega))
  have hf4 : I_fresh s4 := I_fresh_fr I1 (fall _ _ (by omega) (by omega) (by omega)) (fun x j _ z _ => fall x j (by omega) (by omega) (by omega)) (fun g' x j _ _ z w => fall x j (by omega) (by omega) (by omega)) hf1
  have ck1 := fun {P : Prop} => ck_sh (P := P) g0 (show g ≤ 5 by omega) (show 0 ≤ k by omega) (show k < 7 by omega)
  have ck5 := fun {P : Prop} => ck_sh (P := P) (g := 5) (by decide) (by decide) (show 0 ≤ k by omega) (show k < 7 by omega)
  have hS4 : ∀ j, s4 (33 + 43 * g + 2 * k) j = s1 (33 + 43 * g + 2 * k) j := fun j => fall _ _ (by omega) (by omega) (by omega)
  have x4 := rowsX hse4 g0 (by omega) hA hB p0 p1
  have hw := (hG g g0 gb).1 p p0 p1
  rw [ck1, ck5, hS4 3, hS1.1.2.1, y3]
  refine brT_i rfl (brT_i rfl ?_)
  refine X_compareRows_ok (m := σ 358 g) (z := σ 362 (7 * g + p)) (g1 := 5) (k1 := k) (g2 := g) (k2 := k) (ls := fun i => σ 363 (56 * g + 8 * p + i)) (lv := fun t => σ 364 (56 * g + 8 * p + t)) (A := fun t => tpN (σ 357 g) (σ 358 g) (σ 359 g) (cam σ g) (lyL σ g p o) (csz σ g) k (8 * p + t)) (C := fun t => shN σ g k (8 * p + t)) g0 (by omega) p0 (by omega) ⟨p0, by omega⟩ ⟨p0, by omega⟩ ⟨by decide, by decide⟩ ⟨by omega, by omega⟩ ⟨g0, by omega⟩ ⟨by omega, by omega⟩ (by omega) hw x4.1 x4.2.1 x4.2.2 (fun t t0 t1 => ⟨y4 p t p0 p1 t0 t1, htr.2 p t p0 p1 t0 t1⟩) ⟨y1, htr.1⟩ (fun t t0 t1 => ⟨?_, hr.2 p t p0 p1 t0 t1⟩) ⟨by rw [hS4 1]; exact hS1.1.1, hr.1⟩ (fun r hR => ?_)
  · rw [fall _ _ (by omega) (by omega) (by omega)]; exact hS1.2 p t p0 p1 t0 t1
  · exact q r s4 hR hse4 hf4 (fun j => by rw [fall _ _ (by omega) (by omega) (by omega)]; exact f1 305 j (by omega) (by omega) (by omega) (by omega))
