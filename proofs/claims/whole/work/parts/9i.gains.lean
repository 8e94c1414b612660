-- ===== gains: pair of calls
theorem CSl_lv {m l : Int} {lv lv' A : Int → Int} (h : ∀ t, 0 ≤ t → t < m → lv t = lv' t) : CSl m lv A l = CSl m lv' A l := by
  unfold CSl
  exact sm_congr _ _ _ (fun t t0 t1 => by rw [h t t0 (by omega)])
theorem CmpR_lv {m B1 B2 r : Int} {lv lv' A C : Int → Int} (h : ∀ t, 0 ≤ t → t < m → lv t = lv' t) (hR : CmpR m lv A B1 C B2 r) : CmpR m lv' A B1 C B2 r := by
  unfold CmpR gtL at hR ⊢
  simp only [CSl_lv (lv := lv) (lv' := lv') h] at hR
  exact hR
theorem ly_fr {σ s : Mem} {g p k r : Int} {o : Int → Int} (hse : SE σ s) (g0 : 0 ≤ g) (g5 : g < 5) (p0 : 0 ≤ p) (p7 : p < 7) (m8 : σ 358 g ≤ 8) (h : lyV s g p k o r) : lyV σ g p k o r := by
  have hf : ∀ b j, (fA g b j ∨ fB g b j ∨ fC g b j) → s b j = σ b j := fun b j z => SE_A hse g0 g5 z
  have sf := sh_fr (σ := σ) (s := s) (g := g) (k := k) (fun b j z _ => hf b j (by rcases z with z | z; exact Or.inl z; exact Or.inr (Or.inl z))) (fun _ b j z _ => hf b j (Or.inr (Or.inr z)))
  have e7 : s 357 g = σ 357 g := hf _ _ (Or.inl (by unfold fA; omega))
  have e8 : s 358 g = σ 358 g := hf _ _ (Or.inl (by unfold fA; omega))
  have e9 : s 359 g = σ 359 g := hf _ _ (Or.inl (by unfold fA; omega))
  have a1 : cam s g = cam σ g := funext fun t => by
    unfold cam; split
    · exact hf _ _ (Or.inl (by unfold fA; omega))
    · rfl
  have a2 : clI s g = clI σ g := funext fun p => funext fun i => by
    unfold clI; split
    · exact hf _ _ (Or.inl (by unfold fA; omega))
    · rfl
  have a3 : csz s g = csz σ g := funext fun p => by
    unfold csz; split
    · exact hf _ _ (Or.inl (by unfold fA; omega))
    · rfl
  have a4 : lyL s g p o = lyL σ g p o := funext fun x => funext fun i => by unfold lyL; rw [a2, a3]
  unfold lyV at h ⊢
  rw [e7, e8, e9, a1, a3, a4, sf.1, sf.2.1] at h
  exact CmpR_lv (fun t t0 t1 => hf _ _ (Or.inr (Or.inl (by unfold fB; omega)))) h
theorem SE_GW {σ s : Mem} (hse : SE σ s) (hI : I_giv σ) (hG : I_GW σ) : I_GW s := fun g a b => by
  have e0 : s 356 0 = σ 356 0 := hse _ _ (by unfold sE; omega)
  rw [e0] at b
  have := hI.2.2.1
  exact GW_fr (hI.2.2.2 g a b).1 (fun x j z _ => SE_A hse a (by omega) (by rcases z with z | z; exact Or.inl z; exact Or.inr (Or.inl z))) (hG g a b)
theorem chain_all : ∀ (r : List (List Nat)) (L : List Nat), CH (L :: r) → PM (L.length : Int) (oL L) → ∀ M, M ∈ L :: r → M.length = L.length ∧ PM (M.length : Int) (oL M)
  | [], L, _, hP, M, hM => by
    have e : M = L := by simpa using hM
    rw [e]; exact ⟨rfl, hP⟩
  | L2 :: r, L, hC, hP, M, hM => by
    have hC : nxL L = some L2 ∧ CH (L2 :: r) := hC
    by_cases e : M = L
    · rw [e]; exact ⟨rfl, hP⟩
    · have hM2 : M ∈ L2 :: r := by
        rcases List.mem_cons.mp hM with y | y
        · exact absurd y e
        · exact y
      have := chain_all r L2 hC.2 (nxL_PM hP hC.1) M hM2
      rw [nxL_len hC.1] at this
      exact this
theorem call_gains {d : Nat} {σ : Mem} {g p w : Int} {P : Int → Int → Mem → Prop} (hI : I_giv σ) (hW : I_ways σ) (hF : I_fresh σ) (hG : I_GW σ) (h : ∀ r σ2, SE σ σ2 → I_fresh σ2 → P r r σ2) :
    AM2 i_X_gains (d + 12) [(2, 0), (0, g), (0, p), (0, w)] σ (fun w1 σ1 => AM2 i_M_gains (d + 12) [(2, 356), (0, g), (0, p), (0, w)] σ1 (fun w2 σ2 => P w1 w2 σ2)) := by
  by_cases C : 0 ≤ g ∧ g < σ 356 0 ∧ 0 ≤ p ∧ p < σ 357 g ∧ 0 ≤ w ∧ w < σ 356 10 ∧ (σ 366 w = 1 ∨ σ 366 w = 3)
  · obtain ⟨g0, gb, p0, p1, w0, w1, hk⟩ := C
    obtain ⟨hA, hB, hC⟩ := hI.2.2.2 g g0 gb
    have h5 := hI.2.2.1
    have hn := hA.1
    have en := hA.2.1.1
    have hsz := (hA.2.2.2.1 p p0 p1)
    have h15 : σ 356 10 ≤ 15 := hW.2.2.1
    have ez : csz σ g p = σ 362 (7 * g + p) := csz_e p0 (by omega)
    have eN : csz σ g p = ((csz σ g p).toNat : Int) := by omega
    refine e_X_gains fun _ _ _ => Xg hI (fun _ g5 _ _ _ _ => br1 ?_) (fun c => absurd ⟨g0, gb⟩ c)
    rw [pt3 g0 g5]
    refine inb_i g0 g5 (X_isPerson_ok g0 (by omega) (fun _ _ => br1 (X_isToldWrongly_ok hW (fun _ _ _ => br1 (inb_i g0 g5 ?_)) (fun c => absurd ⟨w0, w1, hk⟩ c))) (fun c => absurd ⟨p0, by omega⟩ c))
    rw [ck_g g0 (by omega), pt_sz g0 (by omega), ck_sz g0 (by omega), sn_sz g0 (by omega), hsz.1]
    refine inb_i p0 (by omega) ?_
    -- the model, till it looks at the size
    have lie : ∀ (s : Mem) (rr : Int), SE σ s → ((5 < σ 362 (7 * g + p) → P rr (-4) s) ∧ (¬ 5 < σ 362 (7 * g + p) → AM2 i_M_keepsOwn (d + 11) [(2, 356), (0, g), (0, p), (0, w)] s (fun w2 σ2 => (w2 = 0 → P rr (-4) σ2) ∧ (¬ w2 = 0 → AM2 i_M_triesAll (d + 11) [(2, 356), (0, g), (0, p), (0, w), (0, 0), (0, 0), (0, 0)] σ2 (fun w3 σ3 => P rr w3 σ3))))) → AM2 i_M_gains (d + 12) [(2, 356), (0, g), (0, p), (0, w)] s (fun w2 σ2 => P rr w2 σ2) := fun s rr hse hh => by
      have I2 := SE_giv hse hI
      have W2 := SE_ways hse hW
      have e0 : s 356 0 = σ 356 0 := hse _ _ (by unfold sE; omega)
      have e7 : s 357 g = σ 357 g := hse _ _ (by unfold sE; omega)
      have e10 : s 356 10 = σ 356 10 := hse _ _ (by unfold sE; omega)
      have e366 : s 366 w = σ 366 w := hse _ _ (by unfold sE; omega)
      have e362 : s 362 (7 * g + p) = σ 362 (7 * g + p) := SE_A hse g0 g5 (Or.inl (by unfold fA; omega))
      refine e_M_gains fun _ _ _ => M_isLie_ok (d := d + 7) I2 W2 (fun _ => br1 ?_) (fun c => absurd ⟨g0, by omega, p0, by omega, w0, by omega, by rw [e366]; exact hk⟩ c)
      rw [w32_id (x := 7 * g) (by omega) (by omega), w32_id (x := 7 * g + p) (by omega) (by omega), e362]
      exact inb_i (by omega) (by omega) hh
    by_cases c5 : 5 < σ 362 (7 * g + p)
    · exact brT_i c5 (lie σ _ (SE_r σ) (brT_i c5 (h _ σ (SE_r σ) hF)))
    · refine brF_i c5 ?_
      -- the model, where the size is right
      have model : ∀ (s : Mem) (rr : Int), SE σ s → I_fresh s → FRs (fun L => lyV σ g p (σ 366 w) (oL L) 1) valL (pmN (csz σ g p).toNat) rr → AM2 i_M_gains (d + 12) [(2, 356), (0, g), (0, p), (0, w)] s (fun w2 σ2 => P rr w2 σ2) := fun s rr hse hfs hFR => by
        have I2 := SE_giv hse hI
        have W2 := SE_ways hse hW
        have e0 : s 356 0 = σ 356 0 := hse _ _ (by unfold sE; omega)
        have e7 : s 357 g = σ 357 g := hse _ _ (by unfold sE; omega)
        have e8 : s 358 g = σ 358 g := hse _ _ (by unfold sE; omega)
        have e10 : s 356 10 = σ 356 10 := hse _ _ (by unfold sE; omega)
        have e366 : s 366 w = σ 366 w := hse _ _ (by unfold sE; omega)
        have sf := sh_fr (σ := σ) (s := s) (g := g) (k := σ 366 w) (fun b j z _ => SE_A hse g0 g5 (by rcases z with z | z; exact Or.inl z; exact Or.inr (Or.inl z))) (fun _ b j z _ => SE_A hse g0 g5 (Or.inr (Or.inr z)))
        refine lie s rr hse (brF_i c5 (M_keepsOwn_ok (d := d + 6) I2 W2 g0 (by omega) p0 (by omega) w0 (by omega) (fun s3 hown hb3 f3 hd3 => br1 ?_)))
        have hse3 : SE σ s3 := SE_t hse (fun b j z => f3 b j (fun y => z (mE_s y)))
        rw [e8, e366, sf.1, sf.2.1] at hown
        have ed : d + 11 = d + (5 - (csz σ g p).toNat) + (csz σ g p).toNat + 6 := by omega
        rw [ed]
        have hT := M_triesAll_ok (z := (csz σ g p).toNat) hI hW g0 gb p0 p1 w0 w1 hk eN (by omega) (csz σ g p).toNat (d := d + (5 - (csz σ g p).toNat)) (K := fun w3 σ3 => P rr w3 σ3) s3 [] (fun _ => false) 0 (by simp) (fun i i0 i1 => by simp at i1; omega) (by decide) (fun u _ _ => bit_0 _) hse3 hown (fun r s4 hR f4 _ _ => ?_)
        · exact hT
        · have em : ((pmS (csz σ g p).toNat (csz σ g p).toNat (fun _ => false)).map fun r => [] ++ r) = pmN (csz σ g p).toNat := by
            rw [pmN_S]
            exact List.map_id _
          rw [em] at hR
          rw [FRs_u _ _ _ hFR hR]
          exact h r s4 (SE_t hse3 (fun b j z => f4 b j (fun y => z (mE_s y)))) (fresh_E I2 (fun b j z => by rw [f4 b j z]; exact f3 b j z) hfs)
      -- the class's lines
      have x51 : ∀ (r : List (List Nat)) (L : List Nat) (i : Nat) (s : Mem), CH (L :: r) → (L.length : Int) = csz σ g p → PM (L.length : Int) (oL L) → i + r.length < 40320 → SE σ s → I_fresh s → LR s 305 L → (∀ rr, FRs (fun L => lyV σ g p (σ 366 w) (oL L) 1) valL (L :: r) rr → FRs (fun L => lyV σ g p (σ 366 w) (oL L) 1) valL (pmN (csz σ g p).toNat) rr) → AW2 i_X_gains (d + 12) 51 [] [(0, (2, 0)), (2, (0, p)), (4, (2, 4 + 43 * g)), (5, (0, csz σ g p)), (6, (0, σ 366 w)), (7, (0, (i : Int)))] s (fun w1 σ1 => AM2 i_M_gains (d + 12) [(2, 356), (0, g), (0, p), (0, w)] σ1 (fun w2 σ2 => P w1 w2 σ2)) := by
        intro r
        induction r with
        | nil => ?_
        | cons L2 r ih => ?_
        all_goals
          intro L i s hC hl hP hi hse hfs hR hall
          have I2 := SE_giv hse hI
          have G2 := SE_GW hse hI hG
          have e0 : s 356 0 = σ 356 0 := hse _ _ (by unfold sE; omega)
          have e7 : s 357 g = σ 357 g := hse _ _ (by unfold sE; omega)
          have ez2 : csz s g p = csz σ g p := by rw [csz_e p0 (by omega), ez]; exact SE_A hse g0 g5 (Or.inl (by unfold fA; omega))
          simp only [List.length_cons, List.length_nil] at hi
          refine s_X_gains_51 (brT_i (by omega) (X_compareOtherwise_ok (d := d + 5) (σ := s) (k := σ 366 w) (o := oL L) I2 hfs G2 g0 (by omega) p0 (by omega) hk (by rw [ez2, ← hl]; exact hP) (fun i i0 i1 => hR i i0 (by omega)) (fun v s2 hV hse2 hf2 h305 => ?_)))
          have hV := ly_fr hse g0 g5 p0 (by omega) (by omega) hV
          have hse3 := SE_t hse hse2
          have hR2 : LR s2 305 L := fun i i0 i1 => by rw [h305]; exact hR i i0 i1
          have hv : v = 2 ∨ v = 1 ∨ v = -1 ∨ v = 0 := by unfold lyV CmpR at hV; omega
          refine brF_i (by omega) ⟨fun c1 => ?_, fun c1 => ?_⟩
        · rw [c1] at hV
          refine X_numberOf_ok rfl (by omega) (by rw [show sN 305 = 8 from rfl]; omega) (by decide) (by decide) (fun i i0 i1 => ?_) (by decide) ?_
          · rw [hR2 i i0 (by omega)]
            have := (hP i i0 (by omega)).1
            omega
          · refine model s2 _ hse3 hf2 (hall _ (Or.inl ⟨hV, ?_⟩))
            unfold valL
            rw [show (csz σ g p).toNat = L.length by omega]
            exact nbr_congr _ _ _ (fun j a b => by show s2 305 j + 1 = oL L j + 1; rw [hR2 j a (by omega)])
        · have hno : ¬ lyV σ g p (σ 366 w) (oL L) 1 := fun y => c1 (lyV_u hV y)
          rw [← hl]
          refine X_nextLine_ok (d := d + 9) (L := L) rfl (by rw [show sN 305 = 8 from rfl]; omega) (by decide) hR2 (fun _ => br0 (model s2 _ hse3 hf2 (hall _ (Or.inr ⟨hno, rfl⟩)))) (fun M s4 hM _ _ => ?_)
          have hC : nxL L = none := hC
          rw [hM] at hC; cases hC
        · rw [c1] at hV
          refine X_numberOf_ok rfl (by omega) (by rw [show sN 305 = 8 from rfl]; omega) (by decide) (by decide) (fun i i0 i1 => ?_) (by decide) ?_
          · rw [hR2 i i0 (by omega)]
            have := (hP i i0 (by omega)).1
            omega
          · refine model s2 _ hse3 hf2 (hall _ (Or.inl ⟨hV, ?_⟩))
            unfold valL
            rw [show (csz σ g p).toNat = L.length by omega]
            exact nbr_congr _ _ _ (fun j a b => by show s2 305 j + 1 = oL L j + 1; rw [hR2 j a (by omega)])
        · have hno : ¬ lyV σ g p (σ 366 w) (oL L) 1 := fun y => c1 (lyV_u hV y)
          have hC : nxL L = some L2 ∧ CH (L2 :: r) := hC
          rw [← hl]
          refine X_nextLine_ok (d := d + 9) (L := L) rfl (by rw [show sN 305 = 8 from rfl]; omega) (by decide) hR2 (fun hn => ?_) (fun M s4 hM hR4 f4 => br1 ?_)
          · rw [hC.1] at hn; cases hn
          · have eM : M = L2 := by rw [hC.1] at hM; cases hM; rfl
            rw [eM] at hR4
            rw [hl, w32_id (x := (i : Int) + 1) (by omega) (by omega), show (i : Int) + 1 = ((i + 1 : Nat) : Int) by omega]
            have hse4 : SE s2 s4 := fun b j z => f4 b j (by unfold sE at z; omega)
            have I3 := SE_giv hse3 hI
            refine ih L2 (i + 1) s4 hC.2 (by rw [nxL_len hC.1]; exact hl) (nxL_PM hP hC.1) (by omega) (SE_t hse3 hse4) (I_fresh_fr I3 (f4 _ _ (by omega)) (fun b j _ _ _ => f4 b j (by omega)) (fun g' b j _ _ _ w => f4 b j (by omega)) hf2) hR4 (fun rr hrr => hall rr (Or.inr ⟨hno, hrr⟩))
      obtain ⟨r, e1, e2, e3⟩ := pm_CH (csz σ g p).toNat (by omega)
      have start : AM2 i_X_firstLine (d + 11) [(2, 305), (0, σ 362 (7 * g + p))] σ (fun w5 σ5 => AW2 i_X_gains (d + 12) 51 [] [(0, (2, 0)), (2, (0, p)), (4, (2, 4 + 43 * g)), (5, (0, σ 362 (7 * g + p))), (6, (0, σ 366 w)), (7, (0, 0))] σ5 (fun w1 σ1 => AM2 i_M_gains (d + 12) [(2, 356), (0, g), (0, p), (0, w)] σ1 (fun w2 σ2 => P w1 w2 σ2))) := by
        have := X_firstLine_ok (d := d + 10) (K := fun w5 σ5 => AW2 i_X_gains (d + 12) 51 [] [(0, (2, 0)), (2, (0, p)), (4, (2, 4 + 43 * g)), (5, (0, csz σ g p)), (6, (0, σ 366 w)), (7, (0, 0))] σ5 (fun w1 σ1 => AM2 i_M_gains (d + 12) [(2, 356), (0, g), (0, p), (0, w)] σ1 (fun w2 σ2 => P w1 w2 σ2))) (s := σ) (l := 305) (n := (csz σ g p).toNat) rfl (by rw [show sN 305 = 8 from rfl]; omega) (by decide) (fun s2 hR f2 => ?_)
        · rw [← eN] at this
          rw [← ez]
          exact this
        · have hse2 : SE σ s2 := fun b j z => f2 b j (by unfold sE at z; omega)
          refine x51 r _ 0 s2 e2 (by rw [List.length_range]; exact eN.symm) (by rw [List.length_range]; exact range_PM _) (by omega) hse2 (I_fresh_fr hI (f2 _ _ (by omega)) (fun b j _ _ _ => f2 b j (by omega)) (fun g' b j _ _ _ w => f2 b j (by omega)) hF) hR (fun rr hrr => by rw [e1]; exact hrr)
      refine X_kindAt_ok hW (fun _ _ _ _ => ?_) (fun c => absurd ⟨w0, w1⟩ c)
      show (σ 366 w = 1 → _) ∧ (¬ σ 366 w = 1 → _)
      rw [ck_g g0 (by omega), hA.2.1.2.2]
      refine ⟨fun c1 => ⟨fun c2 => ?_, fun _ => start⟩, fun _ => start⟩
      refine model σ _ (SE_r σ) hF (FRs_no _ (fun L hL => ?_))
      rw [e1] at hL
      have hm := chain_all r _ e2 (by rw [List.length_range]; exact range_PM _) L hL
      rw [List.length_range] at hm
      show ¬ lyV σ g p (σ 366 w) (oL L) 1
      rw [c1]
      exact lie_no hA (hG g g0 gb) p0 p1 c2 (by rw [eN, ← hm.1]; exact hm.2)
  · have hh := h (-1) σ (SE_r σ) hF
    have bad : AM2 i_M_gains (d + 12) [(2, 356), (0, g), (0, p), (0, w)] σ (fun w2 σ2 => P (-1) w2 σ2) :=
      e_M_gains fun _ _ _ => M_isLie_ok (d := d + 7) hI hW (fun z => absurd z C) (fun _ => br0 hh)
    refine e_X_gains fun _ _ _ => Xg hI (fun g0 g5 gb hA hB hC => br1 ?_) (fun _ => br0 bad)
    rw [pt3 g0 g5]
    refine inb_i g0 g5 (X_isPerson_ok g0 (by omega) (fun x y => br1 (X_isToldWrongly_ok hW (fun a b c => ?_) (fun _ => br0 bad))) (fun _ => br0 bad))
    have := hA.2.1.1
    exact absurd ⟨g0, gb, x, by omega, a, b, c⟩ C
