-- ===== acts: the model's
def AK (σ : Mem) (k w : Int) : Prop := σ 366 w = k ∧ (0 ≤ w ∧ w ≤ 14) ∧ 0 ≤ k ∧ k ≤ 6
theorem AK_S {σ s : Mem} {k w : Int} {bs : List Int} (hA : AK σ k w) (hN : NL 356 26 374 σ s bs) : s 366 w = k := by rw [hN.2.2 _ _ (by omega) (by omega)]; exact hA.1
theorem M_above_ok {d : Nat} {K : Int → Mem → Prop} {s : Mem} {t u : Int} (k : K u s) (e : (if t = 2 then (1 : Int) else if t = 6 then 5 else 0) = u) : AM2 i_M_aboveOf (d + 1) [(0, t)] s K := by
  rw [← e] at k
  refine e_M_aboveOf fun _ => ⟨fun c => ?_, fun c => ⟨fun c2 => ?_, fun c2 => ?_⟩⟩
  · rw [if_pos c] at k; exact k
  · rw [if_neg c, if_pos c2] at k; exact k
  · rw [if_neg c, if_neg c2] at k; exact k
theorem M_tk0 {d : Nat} {K : Int → Mem → Prop} {σ s : Mem} {k w x : Int} {bs : List Int} (hA : AK σ k w) (hN : NL 356 26 374 σ s bs) (hl : (bs.length : Int) ≤ 900) (q : ∀ s2 : Mem, NL 356 26 374 σ s2 (bs ++ [1]) → K (w32 (x + w)) s2) : AM2 i_M_takesFrom (d + 2) [(2, 356), (0, w), (0, 0), (0, x)] s K := by
  exact e_M_takesFrom fun _ _ _ => brT_i rfl (M_begins_ok hN hl q)
theorem M_tk1 {t : Int} (ht : t = 1 ∨ t = 3 ∨ t = 4 ∨ t = 5) {d : Nat} {K : Int → Mem → Prop} {σ s : Mem} {k w x : Int} {bs : List Int} (hA : AK σ k w) (hN : NL 356 26 374 σ s bs) (hl : (bs.length : Int) ≤ 880) (q : ∀ s2 : Mem, NL 356 26 374 σ s2 (bs ++ tkB t) → K (tkV w t x) s2) : AM2 i_M_takesFrom (d + 3) [(2, 356), (0, w), (0, t), (0, x)] s K := by
  unfold tkB tkV at q
  by_cases c : t = 1
  · simp only [if_pos (show t = 1 ∨ t = 2 from Or.inl c)] at q
    refine e_M_takesFrom fun _ _ _ => brF_i (by omega) (brT_i c (M_begins_ok hN (by omega) (fun s1 N1 => ?_)))
    exact M_tk0 hA N1 (by simp only [List.length_append, List.length_cons, List.length_nil]; omega) (fun s2 N2 => q s2 (NL_eq N2 (by simp only [List.append_assoc, List.cons_append, List.nil_append])))
  · simp only [if_neg (show ¬ (t = 1 ∨ t = 2) by omega)] at q
    refine e_M_takesFrom fun _ _ _ => brF_i (by omega) (brF_i c (M_above_ok (u := 0) ?_ (by rw [if_neg (by omega), if_neg (by omega)])))
    exact M_tk0 hA hN (by omega) q
theorem M_tk {t : Int} (t0 : 0 ≤ t) (t6 : t ≤ 6) {d : Nat} {K : Int → Mem → Prop} {σ s : Mem} {k w x : Int} {bs : List Int} (hA : AK σ k w) (hN : NL 356 26 374 σ s bs) (hl : (bs.length : Int) ≤ 850) (q : ∀ s2 : Mem, NL 356 26 374 σ s2 (bs ++ tkB t) → K (tkV w t x) s2) : AM2 i_M_takesFrom (d + 4) [(2, 356), (0, w), (0, t), (0, x)] s K := by
  by_cases c0 : t = 0
  · rw [c0] at q ⊢; exact M_tk0 (d := d + 2) hA hN (by omega) q
  · by_cases c1 : t = 1 ∨ t = 3 ∨ t = 4 ∨ t = 5
    · exact M_tk1 (d := d + 1) c1 hA hN (by omega) q
    · by_cases c2 : t = 2
      · refine e_M_takesFrom fun _ _ _ => brF_i (by omega) (brF_i (by omega) (M_above_ok (u := 1) ?_ (by rw [if_pos c2])))
        rw [c2] at q
        exact M_tk1 (Or.inl rfl) hA hN (by omega) q
      · have c6 : t = 6 := by omega
        refine e_M_takesFrom fun _ _ _ => brF_i (by omega) (brF_i (by omega) (M_above_ok (u := 5) ?_ (by rw [if_neg c2, if_pos c6])))
        rw [c6] at q
        exact M_tk1 (Or.inr (Or.inr (Or.inr rfl))) hA hN (by omega) q
theorem M_lk0 {d : Nat} {K : Int → Mem → Prop} {σ s : Mem} {k w x : Int} {bs : List Int} (hA : AK σ k w) (hN : NL 356 26 374 σ s bs) (hl : (bs.length : Int) ≤ 900) (q : ∀ s2 : Mem, NL 356 26 374 σ s2 (bs ++ [11]) → K (xorI x w) s2) : AM2 i_M_likesFrom (d + 2) [(2, 356), (0, w), (0, 0), (0, x)] s K := by
  exact e_M_likesFrom fun _ _ _ => brT_i rfl (M_begins_ok hN hl q)
theorem M_lk1 {t : Int} (ht : t = 1 ∨ t = 4 ∨ t = 5) {d : Nat} {K : Int → Mem → Prop} {σ s : Mem} {k w x : Int} {bs : List Int} (hA : AK σ k w) (hN : NL 356 26 374 σ s bs) (hl : (bs.length : Int) ≤ 880) (q : ∀ s2 : Mem, NL 356 26 374 σ s2 (bs ++ [11]) → K (xorI x w) s2) : AM2 i_M_likesFrom (d + 3) [(2, 356), (0, w), (0, t), (0, x)] s K := by
  exact e_M_likesFrom fun _ _ _ => brF_i (by omega) (brF_i (by omega) (brF_i (by omega) (M_above_ok (u := 0) (M_lk0 hA hN (by omega) q) (by rw [if_neg (by omega), if_neg (by omega)]))))
theorem M_lk {t : Int} (t0 : 0 ≤ t) (t6 : t ≤ 6) {d : Nat} {K : Int → Mem → Prop} {σ s : Mem} {k w x : Int} {bs : List Int} (hA : AK σ k w) (hN : NL 356 26 374 σ s bs) (hl : (bs.length : Int) ≤ 850) (q : ∀ s2 : Mem, NL 356 26 374 σ s2 (bs ++ lkB t) → K (lkV w t x) s2) : AM2 i_M_likesFrom (d + 4) [(2, 356), (0, w), (0, t), (0, x)] s K := by
  unfold lkB lkV at q
  by_cases c3 : t = 3
  · simp only [if_pos c3] at q
    refine e_M_likesFrom fun _ _ _ => brF_i (by omega) (brT_i c3 (M_begins_ok hN (by omega) (fun s1 N1 => ?_)))
    exact M_lk0 (d := d + 1) hA N1 (by simp only [List.length_append, List.length_cons, List.length_nil]; omega) (fun s2 N2 => q s2 (NL_eq N2 (by simp only [List.append_assoc, List.cons_append, List.nil_append])))
  · simp only [if_neg c3] at q
    by_cases c6 : t = 6
    · simp only [if_pos c6] at q
      refine e_M_likesFrom fun _ _ _ => brF_i (by omega) (brF_i (by omega) (brT_i c6 (M_begins_ok hN (by omega) (fun s1 N1 => ?_))))
      exact M_lk1 (Or.inr (Or.inr rfl)) hA N1 (by simp only [List.length_append, List.length_cons, List.length_nil]; omega) (fun s2 N2 => q s2 (NL_eq N2 (by simp only [List.append_assoc, List.cons_append, List.nil_append])))
    · simp only [if_neg c6] at q
      by_cases c0 : t = 0
      · rw [c0]; exact M_lk0 (d := d + 2) hA hN (by omega) q
      · by_cases c1 : t = 1 ∨ t = 4 ∨ t = 5
        · exact M_lk1 (d := d + 1) c1 hA hN (by omega) q
        · exact e_M_likesFrom fun _ _ _ => brF_i (by omega) (brF_i (by omega) (brF_i (by omega) (M_above_ok (u := 1) (M_lk1 (Or.inl rfl) hA hN (by omega) q) (by rw [if_pos (by omega)]))))
theorem M_lb0 {d : Nat} {K : Int → Mem → Prop} {σ s : Mem} {k w x : Int} {bs : List Int} (hA : AK σ k w) (hN : NL 356 26 374 σ s bs) (hl : (bs.length : Int) ≤ 800) (q : ∀ s2 : Mem, NL 356 26 374 σ s2 (bs ++ lbB k) → K (lbV w k x) s2) : AM2 i_M_leavesFrom (d + 5) [(2, 356), (0, w), (0, 0), (0, x)] s K := by
  have hk := hA.2
  refine e_M_leavesFrom fun _ _ _ => brT_i rfl (M_begins_ok hN (by omega) (fun s1 N1 => inb_i hk.1.1 (by omega) ?_))
  rw [AK_S hA N1]
  exact M_tk hk.2.1 hk.2.2 hA N1 (by simp only [List.length_append, List.length_cons, List.length_nil]; omega) (fun s2 N2 => q s2 (NL_eq N2 (by simp only [List.append_assoc, List.cons_append, List.nil_append, lbB])))
theorem M_lb1 {t : Int} (ht : t = 1 ∨ t = 3 ∨ t = 4) {d : Nat} {K : Int → Mem → Prop} {σ s : Mem} {k w x : Int} {bs : List Int} (hA : AK σ k w) (hN : NL 356 26 374 σ s bs) (hl : (bs.length : Int) ≤ 800) (q : ∀ s2 : Mem, NL 356 26 374 σ s2 (bs ++ lbB k) → K (lbV w k x) s2) : AM2 i_M_leavesFrom (d + 6) [(2, 356), (0, w), (0, t), (0, x)] s K := by
  have h := M_lb0 (d := d) hA hN hl q
  have ab : AM2 i_M_aboveOf (d + 5) [(0, t)] s (fun w15 σ15 => AM2 i_M_leavesFrom (d + 5) [(2, 356), (0, w), (0, w15), (0, x)] σ15 (fun w16 σ16 => K w16 σ16)) := M_above_ok (d := d + 4) (u := 0) h (by rw [if_neg (by omega), if_neg (by omega)])
  by_cases c1 : t = 1
  · exact e_M_leavesFrom fun _ _ _ => brF_i (by omega) (brT_i c1 ab)
  · by_cases c3 : t = 3
    · exact e_M_leavesFrom fun _ _ _ => brF_i (by omega) (brF_i c1 (brF_i (by omega) (brT_i c3 ab)))
    · exact e_M_leavesFrom fun _ _ _ => brF_i (by omega) (brF_i c1 (brF_i (by omega) (brF_i c3 (brT_i (by omega) ab))))
theorem M_lv5 {d : Nat} {K : Int → Mem → Prop} {σ s : Mem} {k w x : Int} {bs : List Int} (hA : AK σ k w) (hN : NL 356 26 374 σ s bs) (hl : (bs.length : Int) ≤ 750) (q : ∀ s2 : Mem, NL 356 26 374 σ s2 (bs ++ ([60] ++ lbB k)) → K (w32 (- lbV w k x)) s2) : AM2 i_M_leavesFrom (d + 6) [(2, 356), (0, w), (0, 5), (0, x)] s K := by
  refine e_M_leavesFrom fun _ _ _ => brF_i (by decide) (brF_i (by decide) (brF_i (by decide) (brF_i (by decide) (brF_i (by decide) (brT_i rfl (M_begins_ok hN (by omega) (fun s1 N1 => ?_)))))))
  exact M_lb0 hA N1 (by simp only [List.length_append, List.length_cons, List.length_nil]; omega) (fun s2 N2 => q s2 (NL_eq N2 (by simp only [List.append_assoc, List.cons_append, List.nil_append])))
theorem M_lv {t : Int} (t0 : 0 ≤ t) (t6 : t ≤ 6) {d : Nat} {K : Int → Mem → Prop} {σ s : Mem} {k w x : Int} {bs : List Int} (hA : AK σ k w) (hN : NL 356 26 374 σ s bs) (hl : (bs.length : Int) ≤ 700) (q : ∀ s2 : Mem, NL 356 26 374 σ s2 (bs ++ lvB k t) → K (lvV w k t x) s2) : AM2 i_M_leavesFrom (d + 7) [(2, 356), (0, w), (0, t), (0, x)] s K := by
  have hk := hA.2
  have n1 := lbB_len k
  unfold lvB lvV at q
  by_cases c2 : t = 2
  · simp only [if_pos c2] at q
    refine e_M_leavesFrom fun _ _ _ => brF_i (by omega) (brF_i (by omega) (brT_i c2 (M_begins_ok hN (by omega) (fun s1 N1 => ?_))))
    refine M_lb1 (Or.inl rfl) hA N1 (by simp only [List.length_append, List.length_cons, List.length_nil]; omega) (fun s2 N2 => inb_i hk.1.1 (by omega) ?_)
    rw [AK_S hA N2]
    exact M_tk (d := d + 2) hk.2.1 hk.2.2 hA N2 (by simp only [List.length_append, List.length_cons, List.length_nil]; omega) (fun s3 N3 => q s3 (NL_eq N3 (by simp only [List.append_assoc, List.cons_append, List.nil_append])))
  · simp only [if_neg c2] at q
    by_cases c5 : t = 5
    · simp only [if_pos c5] at q
      rw [c5]; exact M_lv5 (d := d + 1) hA hN (by omega) q
    · simp only [if_neg c5] at q
      by_cases c6 : t = 6
      · simp only [if_pos c6] at q
        refine e_M_leavesFrom fun _ _ _ => brF_i (by omega) (brF_i (by omega) (brF_i (by omega) (brF_i (by omega) (brF_i (by omega) (brF_i (by omega) (brT_i c6 (M_begins_ok hN (by omega) (fun s1 N1 => ?_))))))))
        refine M_lv5 (d := d) hA N1 (by simp only [List.length_append, List.length_cons, List.length_nil]; omega) (fun s2 N2 => ?_)
        exact M_lk1 (d := d + 3) (Or.inr (Or.inr rfl)) hA N2 (by simp only [List.length_append, List.length_cons, List.length_nil]; omega) (fun s3 N3 => q s3 (NL_eq N3 (by simp only [List.append_assoc, List.cons_append, List.nil_append])))
      · simp only [if_neg c6] at q
        by_cases c0 : t = 0
        · rw [c0]; exact M_lb0 (d := d + 2) hA hN (by omega) q
        · exact M_lb1 (d := d + 1) (by omega) hA hN (by omega) q
theorem M_tb0 {d : Nat} {K : Int → Mem → Prop} {σ s : Mem} {k w x : Int} {bs : List Int} (hA : AK σ k w) (hN : NL 356 26 374 σ s bs) (hl : (bs.length : Int) ≤ 650) (q : ∀ s2 : Mem, NL 356 26 374 σ s2 (bs ++ tbB k) → K (tbV w k x) s2) : AM2 i_M_tellsFrom (d + 8) [(2, 356), (0, w), (0, 0), (0, x)] s K := by
  have hk := hA.2
  have n1 := lvB_len k k
  refine e_M_tellsFrom fun _ _ _ => brT_i rfl (M_begins_ok hN (by omega) (fun s1 N1 => inb_i hk.1.1 (by omega) ?_))
  rw [AK_S hA N1]
  refine M_lv hk.2.1 hk.2.2 hA N1 (by simp only [List.length_append, List.length_cons, List.length_nil]; omega) (fun s2 N2 => inb_i hk.1.1 (by omega) ?_)
  rw [AK_S hA N2]
  exact M_lk (d := d + 3) hk.2.1 hk.2.2 hA N2 (by simp only [List.length_append, List.length_cons, List.length_nil]; omega) (fun s3 N3 => q s3 (NL_eq N3 (by simp only [List.append_assoc, List.cons_append, List.nil_append, tbB])))
theorem M_tb1 {t : Int} (ht : t = 1 ∨ t = 3 ∨ t = 5) {d : Nat} {K : Int → Mem → Prop} {σ s : Mem} {k w x : Int} {bs : List Int} (hA : AK σ k w) (hN : NL 356 26 374 σ s bs) (hl : (bs.length : Int) ≤ 650) (q : ∀ s2 : Mem, NL 356 26 374 σ s2 (bs ++ tbB k) → K (tbV w k x) s2) : AM2 i_M_tellsFrom (d + 9) [(2, 356), (0, w), (0, t), (0, x)] s K := by
  exact e_M_tellsFrom fun _ _ _ => brF_i (by omega) (brF_i (by omega) (M_above_ok (d := d + 7) (u := 0) (M_tb0 hA hN hl q) (by rw [if_neg (by omega), if_neg (by omega)])))
theorem M_tl {t : Int} (t0 : 0 ≤ t) (t6 : t ≤ 6) {d : Nat} {K : Int → Mem → Prop} {σ s : Mem} {k w x : Int} {bs : List Int} (hA : AK σ k w) (hN : NL 356 26 374 σ s bs) (hl : (bs.length : Int) ≤ 600) (q : ∀ s2 : Mem, NL 356 26 374 σ s2 (bs ++ tlB k t) → K (tlV w k t x) s2) : AM2 i_M_tellsFrom (d + 10) [(2, 356), (0, w), (0, t), (0, x)] s K := by
  unfold tlB tlV at q
  by_cases c4 : t = 4
  · simp only [if_pos c4] at q
    refine e_M_tellsFrom fun _ _ _ => brF_i (by omega) (brT_i c4 (M_begins_ok hN (by omega) (fun s1 N1 => ?_)))
    exact M_tb0 (d := d + 1) hA N1 (by simp only [List.length_append, List.length_cons, List.length_nil]; omega) (fun s2 N2 => q s2 (NL_eq N2 (by simp only [List.append_assoc, List.cons_append, List.nil_append])))
  · simp only [if_neg c4] at q
    by_cases c0 : t = 0
    · rw [c0]; exact M_tb0 (d := d + 2) hA hN (by omega) q
    · by_cases c1 : t = 1 ∨ t = 3 ∨ t = 5
      · exact M_tb1 (d := d + 1) c1 hA hN (by omega) q
      · by_cases c2 : t = 2
        · exact e_M_tellsFrom fun _ _ _ => brF_i (by omega) (brF_i (by omega) (M_above_ok (d := d + 8) (u := 1) (M_tb1 (Or.inl rfl) hA hN (by omega) q) (by rw [if_pos c2])))
        · exact e_M_tellsFrom fun _ _ _ => brF_i (by omega) (brF_i (by omega) (M_above_ok (d := d + 8) (u := 5) (M_tb1 (Or.inr (Or.inr rfl)) hA hN (by omega) q) (by rw [if_neg c2, if_pos (by omega)])))
-- ===== act
theorem AW_fr {σ s : Mem} (h : ∀ b j, ¬ b = 342 → ¬ b = 341 → ¬ b = 374 → ¬ (b = 356 ∧ j = 26) → s b j = σ b j) (hI : I_ways σ) : I_ways s := by
  obtain ⟨a, b, c, e⟩ := hI
  have f : ∀ b j, ¬ b = 342 → ¬ b = 341 → ¬ b = 374 → ¬ (b = 356 ∧ j = 26) → s b j = σ b j := h
  refine ⟨?_, ?_, ?_, fun i i0 i1 => ?_⟩
  · rw [f _ _ (by decide) (by decide) (by decide) (by decide), f _ _ (by decide) (by decide) (by decide) (by decide)]; exact a
  · rw [f _ _ (by decide) (by decide) (by decide) (by decide)]; exact b
  · rw [f _ _ (by decide) (by decide) (by decide) (by decide)]; exact c
  · rw [f _ _ (by decide) (by decide) (by decide) (by decide)] at i1
    rw [f _ _ (by decide) (by decide) (by decide) (by omega), f _ _ (by decide) (by decide) (by decide) (by omega)]; exact e i i0 i1
theorem call_act {d : Nat} {σ : Mem} {w a x : Int} {P : Int → Int → Mem → Prop} (hS : I_stat σ) (hb : I_bod σ) (hI : I_ways σ) (h : ∀ r σ2, (∀ b j, ¬ b = 342 → ¬ b = 341 → ¬ b = 374 → ¬ (b = 356 ∧ j = 26) → σ2 b j = σ b j) → I_acts σ2 → P r r σ2) :
    AM2 i_X_act (d + 11) [(2, 0), (0, w), (0, a), (0, x)] σ (fun w1 σ1 => AM2 i_M_act (d + 11) [(2, 356), (0, w), (0, a), (0, x)] σ1 (fun w2 σ2 => P w1 w2 σ2)) := by
  have mway : ∀ s : Mem, I_ways s → 0 ≤ s 356 10 ∧ s 356 10 ≤ 15 := fun s y => ⟨y.2.1, y.2.2.1⟩
  -- nothing is done
  have bad : ∀ s : Mem, s = st σ 341 1 0 → ¬ ((0 ≤ w ∧ w < σ 356 10) ∧ 0 ≤ a ∧ a ≤ 3) → AM2 i_M_act (d + 11) [(2, 356), (0, w), (0, a), (0, x)] s (fun w2 σ2 => P 0 w2 σ2) := by
    intro s e c
    have f : ∀ b j, ¬ b = 342 → ¬ b = 341 → ¬ b = 374 → ¬ (b = 356 ∧ j = 26) → st s 356 26 0 b j = σ b j := fun b j z1 z2 z3 z4 => by rw [st_ne z4, e, st_ne (by omega)]
    have hh : P 0 0 (st s 356 26 0) := h 0 _ f ⟨by rw [st_self, st_ne (by omega), e, st_self], by rw [st_self]; decide, by rw [st_self]; decide, fun i i0 i1 => by rw [st_self] at i1; omega⟩
    have ew : st s 356 26 0 356 10 = σ 356 10 := f _ _ (by decide) (by decide) (by decide) (by decide)
    refine e_M_act fun _ _ _ => M_isWay_ok (d := d + 8) (mway _ (AW_fr f hI)) (fun y1 y2 => br1 (M_in_ok (d := d + 9) (fun z1 z2 => absurd ⟨⟨y1, by rw [← ew]; exact y2⟩, z1, z2⟩ c) (fun _ => br0 hh))) (fun _ => br0 hh)
  refine e_X_act fun _ _ _ => X_kindAt_ok (d := d + 9) hI (fun w0 w1 k0 k6 => e_Acts_clear (d := d + 9) ?_) (fun c => e_Acts_clear (d := d + 9) (brT_i (by decide) (bad _ rfl (fun y => c y.1))))
  refine brF_i (by omega) ⟨fun c => bad _ rfl (fun y => by omega), fun a0 => ⟨fun a4 => ?_, fun c => bad _ rfl (fun y => by omega)⟩⟩
  generalize hk : σ 366 w = k at *
  refine e_Acts_perform fun _ _ _ _ => ?_
  generalize hs : st (st (st σ 341 1 0) 341 2 k) 341 3 w = sa
  have fa : ∀ b j, ¬ b = 341 → sa b j = σ b j := fun b j z => by rw [← hs, st_ne (by omega), st_ne (by omega), st_ne (by omega)]
  have hA : AX sa k w := by
    refine ⟨?_, fun i i0 i1 => by rw [fa _ _ (by decide)]; exact hb i i0 i1, ⟨by rw [← hs, st_ne (by omega), st_self], by rw [← hs, st_self]⟩, k0, k6⟩
    unfold I_stat at hS ⊢
    rw [fa _ _ (by decide), fa _ _ (by decide), fa _ _ (by decide), fa _ _ (by decide), fa _ _ (by decide), fa _ _ (by decide), fa _ _ (by decide)]; exact hS
  have hN : NL 341 1 342 sa sa [] := ⟨by rw [← hs, st_ne (by omega), st_ne (by omega), st_self]; rfl, fun i i0 i1 => by simp only [List.length_nil] at i1; omega, fun _ _ _ _ => rfl⟩
  have h10 : ((([] : List Int).length : Nat) : Int) ≤ 600 := by decide
  -- what both noted
  have fin : ∀ (B : List Int) (s1 s2 : Mem) (v : Int), (B.length : Int) ≤ 1000 → NL 341 1 342 sa s1 ([] ++ B) → NL 356 26 374 (st s1 356 26 0) s2 ([] ++ B) → P v v s2 := by
    intro B s1 s2 v hB n1 n2
    obtain ⟨x1, x2, x3⟩ := n1
    obtain ⟨m1, m2, m3⟩ := n2
    refine h v s2 (fun b j z1 z2 z3 z4 => by rw [m3 b j z3 z4, st_ne z4, x3 b j z1 (by omega)]; exact fa b j z2) ⟨?_, ?_, ?_, fun i i0 i1 i2 => ?_⟩
    · rw [m1, m3 _ _ (by decide) (by decide), st_ne (by decide), x1]
    · rw [m1]; exact Int.ofNat_nonneg _
    · rw [m1]; exact hB
    · rw [m1] at i1
      rw [m2 i i0 i1 i2, m3 _ _ (by decide) (by omega), st_ne (by omega)]; exact x2 i i0 i1 i2
  -- the model
  have mo : ∀ (B : List Int) (s1 : Mem) (v : Int), NL 341 1 342 sa s1 ([] ++ B) → (∀ K : Int → Mem → Prop, AK (st s1 356 26 0) k w → NL 356 26 374 (st s1 356 26 0) (st s1 356 26 0) [] → (∀ s2, NL 356 26 374 (st s1 356 26 0) s2 ([] ++ B) → K v s2) →
      ((a = 0 → AM2 i_M_takesFrom (d + 10) [(2, 356), (0, w), (0, k), (0, x)] (st s1 356 26 0) K) ∧ (a = 1 → AM2 i_M_leavesFrom (d + 10) [(2, 356), (0, w), (0, k), (0, x)] (st s1 356 26 0) K) ∧ (a = 2 → AM2 i_M_likesFrom (d + 10) [(2, 356), (0, w), (0, k), (0, x)] (st s1 356 26 0) K) ∧ (a = 3 → AM2 i_M_tellsFrom (d + 10) [(2, 356), (0, w), (0, k), (0, x)] (st s1 356 26 0) K))) → (B.length : Int) ≤ 1000 → AM2 i_M_act (d + 11) [(2, 356), (0, w), (0, a), (0, x)] s1 (fun w2 σ2 => P v w2 σ2) := by
    intro B s1 v n1 hm hB
    have f : ∀ b j, ¬ b = 342 → ¬ b = 341 → ¬ b = 374 → ¬ (b = 356 ∧ j = 26) → st s1 356 26 0 b j = σ b j := fun b j z1 z2 z3 z4 => by rw [st_ne z4, n1.2.2 b j z1 (by omega)]; exact fa b j z2
    have ew : st s1 356 26 0 356 10 = σ 356 10 := f _ _ (by decide) (by decide) (by decide) (by decide)
    have ek : st s1 356 26 0 366 w = k := by rw [f _ _ (by decide) (by decide) (by decide) (by omega)]; exact hk
    have hw := (mway _ hI).2
    have hz := hm (fun w2 σ2 => P v w2 σ2) ⟨ek, ⟨w0, by omega⟩, k0, k6⟩ ⟨st_self _ _ _ _, fun i i0 i1 => by simp only [List.length_nil] at i1; omega, fun _ _ _ _ => rfl⟩ (fun s2 n2 => fin B s1 s2 v hB n1 n2)
    refine e_M_act fun _ _ _ => M_isWay_ok (d := d + 8) (mway _ (AW_fr f hI)) (fun _ _ => br1 (M_in_ok (d := d + 9) (fun _ _ => br1 (inb_i w0 (by omega) ?_)) (fun z => absurd ⟨by omega, by omega⟩ z))) (fun z => absurd ⟨w0, by rw [ew]; exact w1⟩ z)
    rw [ek]
    exact ⟨hz.1, fun c0 => ⟨hz.2.1, fun c1 => ⟨hz.2.2.1, fun c2 => hz.2.2.2 (by omega)⟩⟩⟩
  by_cases c0 : a = 0
  · rw [c0]
    refine X_tk (d := d + 6) k0 k6 hA hN (by omega) (by decide) (by decide) (fun s1 N1 => ?_)
    rw [← c0]
    exact mo _ s1 _ N1 (fun K hK hM q => ⟨fun _ => M_tk (d := d + 6) k0 k6 hK hM (by omega) q, fun y => by omega, fun y => by omega, fun y => by omega⟩) (by have := tkB_len k; omega)
  · by_cases c1 : a = 1
    · rw [c1]
      refine X_lv (d := d + 3) k0 k6 hA hN (by omega) (by decide) (by decide) (fun s1 N1 => ?_)
      rw [← c1]
      exact mo _ s1 _ N1 (fun K hK hM q => ⟨fun y => by omega, fun _ => M_lv (d := d + 3) k0 k6 hK hM (by omega) q, fun y => by omega, fun y => by omega⟩) (by have := lvB_len k k; omega)
    · by_cases c2 : a = 2
      · rw [c2]
        refine X_lk (d := d + 6) k0 k6 hA hN (by omega) (by decide) (by decide) (fun s1 N1 => ?_)
        rw [← c2]
        exact mo _ s1 _ N1 (fun K hK hM q => ⟨fun y => by omega, fun y => by omega, fun _ => M_lk (d := d + 6) k0 k6 hK hM (by omega) q, fun y => by omega⟩) (by have := lkB_len k; omega)
      · have c3 : a = 3 := by omega
        rw [c3]
        refine X_tl (d := d + 1) k0 k6 hA hN (by omega) (by decide) (by decide) (fun s1 N1 => ?_)
        rw [← c3]
        exact mo _ s1 _ N1 (fun K hK hM q => ⟨fun y => by omega, fun y => by omega, fun y => by omega, fun _ => M_tl (d := d) k0 k6 hK hM (by omega) q⟩) (by have := tlB_len k k; omega)
