-- ===== the model tries a list
theorem M_isLie_ok {d : Nat} {K : Int → Mem → Prop} {s : Mem} {g p w : Int} (hI : I_giv s) (hW : I_ways s) (k1 : (0 ≤ g ∧ g < s 356 0 ∧ 0 ≤ p ∧ p < s 357 g ∧ 0 ≤ w ∧ w < s 356 10 ∧ (s 366 w = 1 ∨ s 366 w = 3)) → K 1 s) (k0 : ¬ (0 ≤ g ∧ g < s 356 0 ∧ 0 ≤ p ∧ p < s 357 g ∧ 0 ≤ w ∧ w < s 356 10 ∧ (s 366 w = 1 ∨ s 366 w = 3)) → K 0 s) : AM2 i_M_isLie (d + 4) [(2, 356), (0, g), (0, p), (0, w)] s K := by
  have h15 : 0 ≤ s 356 10 ∧ s 356 10 ≤ 15 := ⟨hW.2.1, hW.2.2.1⟩
  refine e_M_isLie fun _ _ _ => Mp hI (fun g0 _ gb p0 p1 _ _ _ _ => br1 (M_isWay_ok (d := d + 1) h15 (fun w0 w1 => br1 ?_) (fun c => br0 (k0 (fun z => c ⟨z.2.2.2.2.1, z.2.2.2.2.2.1⟩))))) (fun c => br0 (k0 (fun z => c ⟨⟨z.1, z.2.1⟩, z.2.2.1, z.2.2.2.1⟩)))
  have w1 : w < s 356 10 := w1
  refine M_isWay_ok (d := d + 1) h15 (fun _ _ => br1 (inb_i w0 (by omega) ⟨fun c => k1 ⟨g0, gb, p0, p1, w0, w1, Or.inl c⟩, fun c => ?_⟩)) (fun c => absurd ⟨w0, w1⟩ c)
  exact M_isWay_ok (d := d + 1) h15 (fun _ _ => br1 (inb_i w0 (by omega) ⟨fun c2 => k1 ⟨g0, gb, p0, p1, w0, w1, Or.inr c2⟩, fun c2 => k0 (fun z => by rcases z.2.2.2.2.2.2 with y | y; exact c y; exact c2 y)⟩)) (fun c => absurd ⟨w0, w1⟩ c)
theorem twos_9 : ∀ n : Fin 9, (0 ≤ shlI 1 ((n.val : Int) + 1) - 2 ∧ shlI 1 ((n.val : Int) + 1) - 2 < 65536) ∧ ∀ u : Fin 16, bt (shlI 1 ((n.val : Int) + 1) - 2) (u.val : Int) = decide (1 ≤ u.val ∧ u.val < 1 + n.val) := by decide +kernel
theorem twos_mask {n : Int} (n0 : 0 ≤ n) (n8 : n ≤ 8) : isMask n 1 (shlI 1 (n + 1) - 2) := by
  obtain ⟨m, rfl⟩ := Int.eq_ofNat_of_zero_le n0
  have h := twos_9 ⟨m, by omega⟩
  refine ⟨h.1.1, h.1.2, fun u u0 u1 => ?_⟩
  obtain ⟨k, rfl⟩ := Int.eq_ofNat_of_zero_le u0
  rw [h.2 ⟨k, by omega⟩]
  simp only [decide_eq_decide]
  omega
theorem M_areDigits_ok {d : Nat} {K : Int → Mem → Prop} {σ : Mem} {n num : Int} (n0 : 0 ≤ n) (n8 : n ≤ 8) (k : ∀ σ2 : Mem, (0 ≤ num → ∀ i, 0 ≤ i → i < n → σ2 401 i = dgt n.toNat num i) → (∀ b j, ¬ b = 401 → σ2 b j = σ b j) → K (if isL n 1 num then 1 else 0) σ2) : AM2 i_M_areDigits (d + 1) [(2, 356), (0, n), (0, num)] σ K := by
  refine e_M_areDigits fun _ hnum => ?_
  unfold r32 at hnum
  rw [w32_id (by omega) (by omega)]
  have hmk := twos_mask n0 n8
  by_cases c0 : 0 ≤ num
  · have hL : isL n 1 num = rM (shlI 1 (n + 1) - 2) n.toNat num 0 := by unfold isL; rw [decide_eq_true c0, Bool.true_and, rC_eq (by decide) (by decide) (by omega) (by omega) hmk c0]
    have go : ∀ (m : Nat) (rest s : Int) (σ1 : Mem), (m : Int) ≤ n → 0 ≤ rest → rest ≤ 2147483647 → 0 ≤ s → s < 65536 → isL n 1 num = rM (shlI 1 (n + 1) - 2) m rest s → (∀ i : Int, 0 ≤ i → i < (m : Int) → dgt n.toNat num i = dgt m rest i) → (∀ i : Int, (m : Int) ≤ i → i < n → σ1 401 i = dgt n.toNat num i) → (∀ b j, ¬ b = 401 → σ1 b j = σ b j) → AW2 i_M_areDigits (d + 1) 8 [] [(0, (2, 356)), (1, (0, n)), (2, (0, num)), (3, (0, rest)), (4, (0, s)), (5, (0, (m : Int) - 1))] σ1 K := by
      intro m
      induction m with
      | zero =>
        intro rest s σ1 hm r0 r1 s0 s1 e hd hx hf
        have kk := k σ1 (fun _ i i0 i1 => hx i (by omega) i1) hf
        rw [e] at kk
        unfold rM at kk
        refine s_M_areDigits_8 ⟨fun _ => ⟨fun z => by omega, fun _ => ?_⟩, fun z => by omega⟩
        have hm0 := hmk.1
        have hm1 := hmk.2.1
        rw [w32_id (x := n + 1) (by omega) (by omega), w32_id (x := shlI 1 (n + 1) - 2) (by omega) (by omega)]
        refine ⟨fun z => ⟨fun y => ?_, fun y => ?_⟩, fun z => ?_⟩
        · rw [decide_eq_true ⟨z, y⟩, if_pos rfl] at kk; exact kk
        · rw [decide_eq_false (fun q => y q.2), if_neg (by decide)] at kk; exact kk
        · rw [decide_eq_false (fun q => z q.1), if_neg (by decide)] at kk; exact kk
      | succ m ih =>
        intro rest s σ1 hm r0 r1 s0 s1 e hd hx hf
        have e1 : ((m + 1 : Nat) : Int) - 1 = m := by omega
        rw [e1]
        have ho := bit_or (b := s) (t := rest % 10) s0 s1 (by omega) (by omega)
        refine s_M_areDigits_8 ⟨fun z => by omega, fun _ => inb_i (by omega) (by omega) ⟨fun z => by omega, fun _ => inb_i (by omega) (by omega) ?_⟩⟩
        rw [remI_nn r0 r1 (by decide) (by decide), divI_nn r0 r1 (by decide) (by decide), st_self, w32_id (x := (m : Int) + -1) (by omega) (by omega), show (m : Int) + -1 = (m : Int) - 1 by omega]
        refine ih (rest / 10) _ _ (by omega) (by omega) (by omega) ho.1.1 ho.1.2 e (fun i i0 i1 => ?_) (fun i i0 i1 => ?_) (fun b j z => by rw [st_ne (by omega), hf b j z])
        · rw [hd i i0 (by omega)]; rw [dgt_low (by omega)]
        · by_cases z : i = m
          · rw [z, st_self, hd m (by omega) (by omega)]; rw [dgt_top]
          · rw [st_ne (by omega)]; exact hx i (by omega) i1
    have := go n.toNat num 0 σ (by omega) (by omega) (by omega) (Int.le_refl 0) (by decide) hL (fun _ _ _ => rfl) (fun i i0 i1 => by omega) (fun _ _ _ => rfl)
    rw [show ((n.toNat : Nat) : Int) - 1 = n - 1 by omega] at this
    exact this
  · have go : ∀ (m : Nat) (rest s : Int) (σ1 : Mem), (m : Int) ≤ n → (∀ b j, ¬ b = 401 → σ1 b j = σ b j) → AW2 i_M_areDigits (d + 1) 8 [] [(0, (2, 356)), (1, (0, n)), (2, (0, num)), (3, (0, rest)), (4, (0, s)), (5, (0, (m : Int) - 1))] σ1 K := by
      intro m
      induction m with
      | zero =>
        intro rest s σ1 hm hf
        have kk := k σ1 (fun z => absurd z c0) hf
        unfold isL at kk
        rw [decide_eq_false c0, Bool.false_and, if_neg (by decide)] at kk
        exact s_M_areDigits_8 ⟨fun _ => ⟨fun z => kk, fun z => by omega⟩, fun z => by omega⟩
      | succ m ih =>
        intro rest s σ1 hm hf
        have e1 : ((m + 1 : Nat) : Int) - 1 = m := by omega
        rw [e1]
        refine s_M_areDigits_8 ⟨fun z => by omega, fun _ => inb_i (by omega) (by omega) ⟨fun z => ?_, fun z => by omega⟩⟩
        rw [w32_id (x := (m : Int) + -1) (by omega) (by omega), show (m : Int) + -1 = (m : Int) - 1 by omega]
        exact ih _ _ _ (by omega) (fun b j z => by rw [st_ne (by omega), hf b j z])
    have := go n.toNat num 0 σ (by omega) (fun _ _ _ => rfl)
    rw [show ((n.toNat : Nat) : Int) - 1 = n - 1 by omega] at this
    exact this
/-- what the model may change here -/
def mE (b j : Int) : Prop := (b = 356 ∧ (j = 43 ∨ j = 44 ∨ j = 48 ∨ j = 49)) ∨ (357 ≤ b ∧ b ≤ 359 ∧ 5 ≤ j) ∨ (b = 360 ∧ 40 ≤ j) ∨ (361 ≤ b ∧ b ≤ 362 ∧ 35 ≤ j) ∨ (363 ≤ b ∧ b ≤ 365 ∧ 280 ≤ j) ∨ (379 ≤ b ∧ b ≤ 384) ∨ (387 ≤ b ∧ b ≤ 401)
theorem mE_s {b j : Int} (h : mE b j) : sE b j := by unfold mE at h; unfold sE; omega
theorem fresh_E {σ s2 : Mem} (hI : I_giv σ) (f2 : ∀ b j, ¬ mE b j → s2 b j = σ b j) (h : I_fresh σ) : I_fresh s2 :=
  I_fresh_fr hI (f2 _ _ (by unfold mE; omega)) (fun b j _ _ _ => f2 b j (by unfold mE; omega)) (fun g b j g0 g1 z w => f2 b j (by have := hI.2.2.1; unfold fA fB fC at z; unfold mE; omega)) h
theorem M_keepsOwn_ok {d : Nat} {K : Int → Mem → Prop} {s : Mem} {g p w : Int} (hI : I_giv s) (hW : I_ways s) (g0 : 0 ≤ g) (gb : g < s 356 0) (p0 : 0 ≤ p) (p1 : p < s 357 g) (w0 : 0 ≤ w) (w1 : w < s 356 10)
    (k : ∀ s2 : Mem, (∀ t, 0 ≤ t → t < s 358 g → FQ s2 399 400 t (shN s g (s 366 w) (8 * p + t)) (shB s g (s 366 w))) → s2 356 43 = 0 → (∀ b j, ¬ mE b j → s2 b j = s b j) → (∀ j, s2 401 j = s 401 j) → K 1 s2) : AM2 i_M_keepsOwn (d + 5) [(2, 356), (0, g), (0, p), (0, w)] s K := by
  obtain ⟨hA, hB, hC⟩ := hI.2.2.2 g g0 gb
  have h5 := hI.2.2.1
  have hn := hA.1
  have h15 : s 356 10 ≤ 15 := hW.2.2.1
  have hk : 0 ≤ s 366 w ∧ s 366 w ≤ 6 := (hW.2.2.2 w w0 w1).2
  refine e_M_keepsOwn fun _ _ _ => inb_i w0 (by omega) (Msh (d := d) g0 (by omega) hk.1 (by omega) hA hB hC (fun s2 _ hM _ f2 => M_keepsRow_ok p0 (by omega) (fun s3 hk3 f3 => ?_)))
  rw [f3 356 43 (by omega) (by omega), hM.1]
  refine br0 (k s3 (fun t t0 t1 => ?_) (by rw [f3 _ _ (by omega) (by omega)]; exact hM.1) (fun b j z => by rw [f3 b j (by unfold mE at z; omega) (by unfold mE at z; omega)]; exact f2 b j (by unfold mE at z; omega) (by unfold mE at z; omega) (by unfold mE at z; omega)) (fun j => by rw [f3 _ _ (by omega) (by omega)]; exact f2 _ _ (by omega) (by omega) (by omega)))
  have h1 := hk3 t t0 (by omega)
  exact ⟨by rw [h1.1]; exact (hM.2 p t p0 p1 t0 t1).1, by rw [h1.2]; exact (hM.2 p t p0 p1 t0 t1).2⟩
theorem M_tries_ok {d : Nat} {K : Int → Mem → Prop} {σ s : Mem} {g p w : Int} {o : Int → Int} (hI : I_giv σ) (hW : I_ways σ) (g0 : 0 ≤ g) (gb : g < σ 356 0) (p0 : 0 ≤ p) (p1 : p < σ 357 g) (w0 : 0 ≤ w) (w1 : w < σ 356 10) (hk : σ 366 w = 1 ∨ σ 366 w = 3) (hP : PM (csz σ g p) o) (fs : SE σ s) (ho : ∀ i, 0 ≤ i → i < csz σ g p → s 401 i = o i + 1) (hown : ∀ t, 0 ≤ t → t < σ 358 g → FQ s 399 400 t (shN σ g (σ 366 w) (8 * p + t)) (shB σ g (σ 366 w)))
    (k : ∀ r s2, lyV σ g p (σ 366 w) o r → (∀ b j, ¬ mE b j → s2 b j = s b j) → (∀ b j, 399 ≤ b → b ≤ 401 → s2 b j = s b j) → K r s2) : AM2 i_M_tries (d + 5) [(2, 356), (0, g), (0, p), (0, w)] s K := by
  obtain ⟨hA, hB, hC⟩ := hI.2.2.2 g g0 gb
  have h5 := hI.2.2.1
  have hn := hA.1
  have h15 : σ 356 10 ≤ 15 := hW.2.2.1
  have hL := GA_C hA
  have hLG := lyL_G hA p0 p1 hP
  have hz := hL.1.1 p p0 p1
  have fA' : ∀ b j, (fA g b j ∨ fB g b j ∨ fC g b j) → s b j = σ b j := fun b j z => SE_A fs g0 (by omega) z
  refine e_M_tries fun _ _ _ => M_copies_ok (d := d + 3) (a := g) (b := 5) g0 (by omega) (by decide) (by decide) (by omega) (fun s1 hc f1 => ?_)
  have f1' : ∀ b j, ¬ mE b j → s1 b j = s b j := fun b j z => f1 b j (by unfold mE at z; unfold fCM; omega)
  -- the list told otherwise
  have l6 : ∀ (q : Nat) (i : Int) (s2 : Mem), 0 ≤ i → i + q = csz σ g p → (∀ j, 0 ≤ j → j < i → s2 363 (280 + 8 * p + j) = clI σ g p (o j)) → (∀ b j, ¬ (b = 363 ∧ 280 + 8 * p ≤ j ∧ j < 288 + 8 * p) → s2 b j = s1 b j) → AW2 i_M_tries (d + 5) 6 [] [(0, (2, 356)), (1, (0, g)), (2, (0, p)), (3, (0, w)), (4, (0, i))] s2 K := by
    intro q
    induction q with
    | zero =>
      intro i s2 i0 e h2 f2
      have fall : ∀ b j, ¬ mE b j → s2 b j = s b j := fun b j z => by rw [f2 b j (by unfold mE at z; omega)]; exact f1' b j z
      have hX5 : LM s2 5 (σ 357 g) (σ 358 g) (lyL σ g p o) (csz σ g) := by
        refine ⟨fun x x0 x1 => ?_, fun x i x0 x1 i0 i1 => ?_⟩
        · rw [f2 362 _ (by omega), (hc.2.2.1 x x0 (by omega)).2, fA' _ _ (Or.inl (by unfold fA; omega))]
          exact (csz_e x0 (by omega)).symm
        · have hx8 := hL.1.1 x x0 x1
          by_cases y : x = p
          · rw [y] at i1 ⊢
            rw [lyL_p i0 i1, show 56 * 5 + 8 * p + i = 280 + 8 * p + i by omega]
            exact h2 i i0 (by omega)
          · rw [lyL_n y, f2 363 _ (by omega), show 56 * 5 + 8 * x + i = 56 * 5 + (8 * x + i) by omega, (hc.2.2.2 (8 * x + i) (by omega) (by omega)).1, fA' _ _ (Or.inl (by unfold fA; omega)), clI_e x0 (by omega) i0 (by omega), show 56 * g + (8 * x + i) = 56 * g + 8 * x + i by omega]
      have e7 : s2 357 5 = σ 357 g := by rw [f2 _ _ (by omega), hc.1.1, fA' _ _ (Or.inl (by unfold fA; omega))]
      have e8 : s2 358 5 = σ 358 g := by rw [f2 _ _ (by omega), hc.1.2.1, fA' _ _ (Or.inl (by unfold fA; omega))]
      have e9 : s2 359 5 = σ 359 g := by rw [f2 _ _ (by omega), hc.1.2.2, fA' _ _ (Or.inl (by unfold fA; omega))]
      have ha5 : ∀ t, 0 ≤ t → t < σ 358 g → s2 360 (8 * 5 + t) = cam σ g t ∧ 1 ≤ cam σ g t ∧ cam σ g t ≤ 9 := fun t t0 t1 => by
        refine ⟨?_, (cam_r hA t t0 t1).2.2⟩
        rw [f2 _ _ (by omega), hc.2.1 t t0 (by omega), fA' _ _ (Or.inl (by unfold fA; omega))]
        exact (cam_r hA t t0 t1).2.1
      have e362 : s2 362 (7 * g + p) = csz σ g p := by rw [fall _ _ (by unfold mE; omega), fA' _ _ (Or.inl (by unfold fA; omega))]; exact (csz_e p0 (by omega)).symm
      have e366 : s2 366 w = σ 366 w := by rw [fall _ _ (by unfold mE; omega)]; exact fs _ _ (by unfold sE; omega)
      have htr := tp_r (k := σ 366 w) (n := σ 357 g) (m := σ 358 g) (R := σ 359 g) (am := cam σ g) (ls := lyL σ g p o) (sz := csz σ g) (by omega) (by omega) (by omega) hLG (fun t t0 t1 => (cam_r hA t t0 t1).2.2)
      have hr := sh_r (k := σ 366 w) hA hB hC
      refine s_M_tries_6 ?_
      rw [w32_id (x := 7 * g) (by omega) (by omega), w32_id (x := 7 * g + p) (by omega) (by omega), e362, e366]
      refine inb_i (by omega) (by omega) (brF_i (by omega) (inb_i w0 (by omega) (M_shares13_ok (d := d) (g := 5) (k := σ 366 w) (n := σ 357 g) (m := σ 358 g) (R := σ 359 g) (am := cam σ g) (ls := lyL σ g p o) (sz := csz σ g) (by decide) (by decide) hk hLG hX5 e7 e8 e9 (by omega) (by omega) (by omega) ha5 (fun s3 hM f3 => ?_))))
      rw [hM.1]
      refine brT_i rfl (M_against_ok (d := d + 1) (m := σ 358 g) (lv := fun t => σ 364 (56 * g + 8 * p + t)) (A := fun t => tpN (σ 357 g) (σ 358 g) (σ 359 g) (cam σ g) (lyL σ g p o) (csz σ g) (σ 366 w) (8 * p + t)) (C := fun t => shN σ g (σ 366 w) (8 * p + t)) g0 (by omega) p0 (by omega) ⟨p0, by omega⟩ (by omega) (by rw [f3 _ _ (by omega) (by omega) (by omega), fall _ _ (by unfold mE; omega)]; exact fA' _ _ (Or.inl (by unfold fA; omega))) (fun t t0 t1 => by rw [f3 _ _ (by omega) (by omega) (by omega), fall _ _ (by unfold mE; omega)]; exact fA' _ _ (Or.inr (Or.inl (by unfold fB; omega)))) (fun t t0 t1 => ⟨hM.2 p t p0 p1 t0 t1, htr.2 p t p0 p1 t0 t1⟩) htr.1 (fun t t0 t1 => ⟨?_, hr.2 p t p0 p1 t0 t1⟩) hr.1 hM.1 (fun r s4 hR _ f4 => k r s4 hR (fun b j z => by rw [f4 b j (by unfold mE at z; omega), f3 b j (by unfold mE at z; omega) (by unfold mE at z; omega) (by unfold mE at z; omega)]; exact fall b j z) (fun b j z1 z2 => by rw [f4 b j (by omega), f3 b j (by omega) (by omega) (by omega), f2 b j (by omega)]; exact f1 b j (by unfold fCM; omega))))
      have := hown t t0 t1
      unfold FQ at this ⊢
      rw [f3 _ _ (by omega) (by omega) (by omega), f3 _ _ (by omega) (by omega) (by omega), f2 _ _ (by omega), f2 _ _ (by omega), f1 _ _ (by unfold fCM; omega), f1 _ _ (by unfold fCM; omega)]
      exact this
    | succ q ih =>
      intro i s2 i0 e h2 f2
      have fall : ∀ b j, ¬ mE b j → s2 b j = s b j := fun b j z => by rw [f2 b j (by unfold mE at z; omega)]; exact f1' b j z
      have e362 : s2 362 (7 * g + p) = csz σ g p := by rw [fall _ _ (by unfold mE; omega), fA' _ _ (Or.inl (by unfold fA; omega))]; exact (csz_e p0 (by omega)).symm
      have hPi := (hP i i0 (by omega)).1
      have e401 : s2 401 i = o i + 1 := by rw [f2 _ _ (by omega), f1 _ _ (by unfold fCM; omega)]; exact ho i i0 (by omega)
      refine s_M_tries_6 ?_
      rw [w32_id (x := 7 * g) (by omega) (by omega), w32_id (x := 7 * g + p) (by omega) (by omega), e362, e401, w32_id (x := 56 * g) (by omega) (by omega), w32_id (x := 8 * p) (by omega) (by omega), w32_id (x := 56 * g + 8 * p) (by omega) (by omega), w32_id (x := 56 * g + 8 * p + (o i + 1)) (by omega) (by omega), w32_id (x := 56 * g + 8 * p + (o i + 1) - 1) (by omega) (by omega), w32_id (x := 280 + 8 * p) (by omega) (by omega), w32_id (x := 280 + 8 * p + i) (by omega) (by omega), w32_id (x := i + 1) (by omega) (by omega)]
      refine inb_i (by omega) (by omega) (brT_i (by omega) (inb_i i0 (by omega) (inb_i (by omega) (by omega) (inb_i (by omega) (by omega) ?_))))
      refine ih (i + 1) _ (by omega) (by omega) (fun j j0 j1 => ?_) (fun b j z => by rw [st_ne (by omega)]; exact f2 b j z)
      by_cases y : j = i
      · rw [y, st_self, fall _ _ (by unfold mE; omega), fA' _ _ (Or.inl (by unfold fA; omega)), clI_e p0 (by omega) hPi.1 (by omega), show 56 * g + 8 * p + (o i + 1) - 1 = 56 * g + 8 * p + o i by omega]
      · rw [st_ne (by omega)]; exact h2 j j0 (by omega)
  exact l6 (csz σ g p).toNat 0 s1 (Int.le_refl 0) (by omega) (fun j a b => by omega) (fun _ _ _ => rfl)
theorem X_isToldWrongly_ok {d : Nat} {K : Int → Mem → Prop} {σ : Mem} {w : Int} (hW : I_ways σ) (k1 : 0 ≤ w → w < σ 356 10 → (σ 366 w = 1 ∨ σ 366 w = 3) → K 1 σ) (k0 : ¬ (0 ≤ w ∧ w < σ 356 10 ∧ (σ 366 w = 1 ∨ σ 366 w = 3)) → K 0 σ) : AM2 i_X_isToldWrongly (d + 2) [(2, 0), (0, w)] σ K :=
  e_X_isToldWrongly fun _ => X_kindAt_ok hW (fun a b _ _ => ⟨fun c => k1 a b (Or.inl c), fun c => ⟨fun c2 => k1 a b (Or.inr c2), fun c2 => k0 (fun z => by rcases z.2.2 with y | y; exact c y; exact c2 y)⟩⟩) (fun c => ⟨fun z => absurd z (by decide), fun _ => ⟨fun z => absurd z (by decide), fun _ => k0 (fun z => c ⟨z.1, z.2.1⟩)⟩⟩)
theorem lyV_u {σ : Mem} {g p k r r' : Int} {o : Int → Int} (h : lyV σ g p k o r) (h' : lyV σ g p k o r') : r = r' := CmpR_u h h'
theorem call_wrongly {d : Nat} {σ : Mem} {g p w num : Int} {P : Int → Int → Mem → Prop} (hI : I_giv σ) (hW : I_ways σ) (hF : I_fresh σ) (hG : I_GW σ) (h : ∀ r σ2, SE σ σ2 → I_fresh σ2 → P r r σ2) :
    AM2 i_X_wrongly (d + 7) [(2, 0), (0, g), (0, p), (0, w), (0, num)] σ (fun w1 σ1 => AM2 i_M_wrongly (d + 7) [(2, 356), (0, g), (0, p), (0, w), (0, num)] σ1 (fun w2 σ2 => P w1 w2 σ2)) := by
  by_cases C : 0 ≤ g ∧ g < σ 356 0 ∧ 0 ≤ p ∧ p < σ 357 g ∧ 0 ≤ w ∧ w < σ 356 10 ∧ (σ 366 w = 1 ∨ σ 366 w = 3)
  · have hC0 := C
    obtain ⟨g0, gb, p0, p1, w0, w1, hk⟩ := C
    obtain ⟨hA, hB, hC⟩ := hI.2.2.2 g g0 gb
    have h5 := hI.2.2.1
    have hn := hA.1
    have en := hA.2.1.1
    have hsz := (hA.2.2.2.1 p p0 p1)
    have h15 : σ 356 10 ≤ 15 := hW.2.2.1
    have ez : csz σ g p = σ 362 (7 * g + p) := csz_e p0 (by omega)
    refine e_X_wrongly fun _ _ _ _ => Xg hI (fun _ g5 _ _ _ _ => br1 ?_) (fun c => absurd ⟨g0, gb⟩ c)
    rw [pt3 g0 g5]
    refine inb_i g0 g5 (X_isPerson_ok g0 (by omega) (fun _ _ => br1 (X_isToldWrongly_ok hW (fun _ _ _ => br1 (inb_i g0 g5 ?_)) (fun c => absurd ⟨w0, w1, hk⟩ c))) (fun c => absurd ⟨p0, by omega⟩ c))
    rw [ck_g g0 (by omega), pt_sz g0 (by omega), ck_sz g0 (by omega), sn_sz g0 (by omega), hsz.1]
    -- the model reads the digits, from any such memory
    have model : ∀ (s : Mem) (rr : Int), SE σ s → I_fresh s → (isL (σ 362 (7 * g + p)) 1 num = false → rr = -2000000000) → (isL (σ 362 (7 * g + p)) 1 num = true → lyV σ g p (σ 366 w) (fun i => dgt (σ 362 (7 * g + p)).toNat num i - 1) rr) → AM2 i_M_wrongly (d + 7) [(2, 356), (0, g), (0, p), (0, w), (0, num)] s (fun w2 σ2 => P rr w2 σ2) := fun s rr hse hfs r0 r1 => by
      have I2 := SE_giv hse hI
      have W2 := SE_ways hse hW
      have e0 : s 356 0 = σ 356 0 := hse _ _ (by unfold sE; omega)
      have e7 : s 357 g = σ 357 g := hse _ _ (by unfold sE; omega)
      have e8 : s 358 g = σ 358 g := hse _ _ (by unfold sE; omega)
      have e10 : s 356 10 = σ 356 10 := hse _ _ (by unfold sE; omega)
      have e366 : s 366 w = σ 366 w := hse _ _ (by unfold sE; omega)
      have e362 : s 362 (7 * g + p) = σ 362 (7 * g + p) := SE_A hse g0 g5 (Or.inl (by unfold fA; omega))
      refine e_M_wrongly fun _ _ _ _ => M_isLie_ok (d := d + 2) I2 W2 (fun _ => br1 ?_) (fun c => absurd ⟨g0, by omega, p0, by omega, w0, by omega, by rw [e366]; exact hk⟩ c)
      rw [w32_id (x := 7 * g) (by omega) (by omega), w32_id (x := 7 * g + p) (by omega) (by omega), e362]
      refine inb_i (by omega) (by omega) (M_areDigits_ok (d := d + 5) (by omega) (by omega) (fun s2 x2 f2 => ?_))
      have hse2 : SE σ s2 := SE_t hse (fun b j z => f2 b j (by unfold sE at z; omega))
      have I3 := SE_giv hse2 hI
      have W3 := SE_ways hse2 hW
      have hf2 : I_fresh s2 := fresh_E I2 (fun b j z => f2 b j (by unfold mE at z; omega)) hfs
      cases hl : isL (σ 362 (7 * g + p)) 1 num with
      | false =>
        rw [if_neg (by decide), r0 hl]
        exact br0 (h _ s2 hse2 hf2)
      | true =>
        rw [if_pos rfl]
        have hPM := isL_PM (by omega) (by omega) hl
        have hR := r1 hl
        refine br1 (M_keepsOwn_ok (d := d + 1) I3 W3 g0 (by rw [f2 _ _ (by omega)]; omega) p0 (by rw [f2 _ _ (by omega)]; omega) w0 (by rw [f2 _ _ (by omega)]; omega) (fun s3 hown hb3 f3 hd3 => br1 ?_))
        have hse3 : SE σ s3 := SE_t hse2 (fun b j z => f3 b j (fun y => z (mE_s y)))
        have sf := sh_fr (σ := σ) (s := s2) (g := g) (k := σ 366 w) (fun b j z _ => SE_A hse2 g0 g5 (by rcases z with z | z; exact Or.inl z; exact Or.inr (Or.inl z))) (fun _ b j z _ => SE_A hse2 g0 g5 (Or.inr (Or.inr z)))
        rw [f2 358 g (by omega), f2 366 w (by omega), e8, e366, sf.1, sf.2.1] at hown
        refine M_tries_ok (d := d + 1) (σ := σ) (o := fun i => dgt (σ 362 (7 * g + p)).toNat num i - 1) hI hW g0 gb p0 p1 w0 w1 hk (by rw [ez]; exact hPM.2) hse3 (fun i i0 i1 => ?_) hown (fun r s4 hV f4 _ => ?_)
        · rw [hd3, x2 hPM.1 i i0 (by omega)]; omega
        · rw [← lyV_u hR hV]
          refine h rr s4 (SE_t hse3 (fun b j z => f4 b j (fun y => z (mE_s y)))) (fresh_E I3 (fun b j z => by rw [f4 b j z]; exact f3 b j z) hf2)
    refine inb_i p0 (by omega) (X_readLine_ok (by omega) (by omega) (by decide) (by decide) rfl (by rw [show sN 305 = 8 from rfl]; omega) (fun s1 hl x1 f1 => br1 ?_) (fun s1 hl f1 => br0 ?_))
    · have hse1 : SE σ s1 := fun b j z => f1 b j (by unfold sE at z; omega)
      have I1 := SE_giv hse1 hI
      have W1 := SE_ways hse1 hW
      have e366 : s1 366 w = σ 366 w := f1 _ _ (by omega)
      have e0 : s1 356 0 = σ 356 0 := f1 _ _ (by omega)
      have e7 : s1 357 g = σ 357 g := f1 _ _ (by omega)
      have e10 : s1 356 10 = σ 356 10 := f1 _ _ (by omega)
      have hf1 : I_fresh s1 := I_fresh_fr hI (f1 _ _ (by omega)) (fun b j _ _ _ => f1 b j (by omega)) (fun g' b j _ _ _ w => f1 b j (by omega)) hF
      have hG1 : I_GW s1 := fun g' a b => by
        rw [e0] at b
        exact GW_fr (hI.2.2.2 g' a b).1 (fun x j _ w => f1 x j (by omega)) (hG g' a b)
      have hPM := isL_PM (by omega) (by omega) hl
      have ez1 : csz s1 g p = σ 362 (7 * g + p) := by rw [csz_e p0 (by omega)]; exact f1 _ _ (by omega)
      refine X_kindAt_ok W1 (fun _ _ _ _ => ?_) (fun c => absurd ⟨w0, by show w < s1 356 10; omega⟩ c)
      show AM2 i_X_compareOtherwise (d + 6) [(2, 0), (2, 4 + 43 * g), (0, p), (0, s1 366 w)] s1 _
      rw [e366]
      refine X_compareOtherwise_ok (d := d) (σ := s1) (k := σ 366 w) (o := fun i => dgt (σ 362 (7 * g + p)).toNat num i - 1) I1 hf1 hG1 g0 (by omega) p0 (by omega) hk (by rw [ez1]; exact hPM.2) (fun i i0 i1 => x1 i i0 (by omega)) (fun r s2 hV hse2 hf2 _ => model s2 r (SE_t hse1 hse2) hf2 (fun z => by rw [hl] at z; cases z) (fun _ => ?_))
      have hfr : ∀ b j, 306 ≤ b → s1 b j = σ b j := fun b j z => f1 b j (by omega)
      have sf := sh_fr (σ := σ) (s := s1) (g := g) (k := σ 366 w) (fun b j _ w => hfr b j (by omega)) (fun _ b j _ w => hfr b j (by omega))
      have a1 : cam s1 g = cam σ g := funext fun t => by unfold cam; rw [hfr 360 _ (by omega)]
      have a3 : csz s1 g = csz σ g := funext fun t => by unfold csz; rw [hfr 362 _ (by omega)]
      have a2 : clI s1 g = clI σ g := funext fun x => funext fun i => by unfold clI; rw [hfr 363 _ (by omega)]
      have a4 : ∀ o, lyL s1 g p o = lyL σ g p o := fun o => funext fun x => funext fun i => by unfold lyL; rw [a2, a3]
      unfold lyV at hV ⊢
      rw [hfr 357 g (by omega), hfr 358 g (by omega), hfr 359 g (by omega), a1, a3, a4, sf.1, sf.2.1] at hV
      simp only [hfr 364 _ (show (306 : Int) ≤ 364 by decide)] at hV
      exact hV
    · have hse1 : SE σ s1 := fun b j z => f1 b j (by unfold sE at z; omega)
      have hf1 : I_fresh s1 := I_fresh_fr hI (f1 _ _ (by omega)) (fun b j _ _ _ => f1 b j (by omega)) (fun g' b j _ _ _ w => f1 b j (by omega)) hF
      exact model s1 _ hse1 hf1 (fun _ => rfl) (fun z => by rw [hl] at z; cases z)
  · have hh := h (-2000000000) σ (SE_r σ) hF
    have bad : AM2 i_M_wrongly (d + 7) [(2, 356), (0, g), (0, p), (0, w), (0, num)] σ (fun w2 σ2 => P (-2000000000) w2 σ2) :=
      e_M_wrongly fun _ _ _ _ => M_isLie_ok (d := d + 2) hI hW (fun z => absurd z C) (fun _ => br0 hh)
    refine e_X_wrongly fun _ _ _ _ => Xg hI (fun g0 g5 gb hA hB hC => br1 ?_) (fun _ => br0 bad)
    rw [pt3 g0 g5]
    refine inb_i g0 g5 (X_isPerson_ok g0 (by omega) (fun x y => br1 (X_isToldWrongly_ok hW (fun a b c => ?_) (fun _ => br0 bad))) (fun _ => br0 bad))
    have := hA.2.1.1
    exact absurd ⟨g0, gb, x, by omega, a, b, c⟩ C
