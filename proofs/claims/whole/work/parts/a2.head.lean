/-! ===== the head of the law's loop ===== -/
def caseL : List Nat := [22, 49, 56, 83, 110, 147, 184, 221, 248, 285, 312, 329, 366, 383, 400, 417, 465, 482, 529, 556, 603, 640, 677, 714, 731, 768, 795, 802, 819, 846, 893, 930, 947, 974, 1011, 1072, 1100, 1157, 1184]
set_option maxRecDepth 100000 in
theorem row_21 : (mT i_L_law)[21]? = some (20, 33, 1201, 171, 0, 0, caseL) := rfl
noncomputable def headOk : Bool := rwj 10 2 3 0 0 && rwj 11 2 0 2 0 && rwj 12 27 903 0 0 && rwj 13 0 0 0 6 && rwk 14 5 0 0 1 0 && rwk 15 16 1203 0 4 0 && rwj 16 2 0 2 0 && rwj 17 2 3 0 0 && rwj 18 25 903 0 0 && rwj 19 0 0 0 63 && rwk 20 5 0 0 3 0 && rwj 1201 4 3 0 6 && rwj 1202 19 10 0 0 && rwj 1203 0 0 0 1 && rwj 1204 34 0 0 0
theorem head_ok : headOk = true := by decide +kernel
theorem la_head {i : Int} {σ : Mem} {K : Int → HS → Prop} (h0 : 0 ≤ i) (h3 : i ≤ 5000) (h2 : σ (-4) (-1) ≤ 3072) (h4 : 0 ≤ σ (-4) (-1)) (hK : K 1 (X2 σ))
    (hgo : i + 6 ≤ σ (-4) (-1) → ∀ t : Nat, (if 0 ≤ andI (σ (-4) i) 63 ∧ andI (σ (-4) i) 63 < 39 then caseL.getD (andI (σ (-4) i) 63).toNat 0 else 1201) = t → AWL t [] (LL i) σ K) : AWL 10 [] (LL i) σ K := by
  have h := head_ok
  unfold headOk at h
  simp only [Bool.and_eq_true] at h
  obtain ⟨⟨⟨⟨⟨⟨⟨⟨⟨⟨⟨⟨⟨⟨a1, a2⟩, a3⟩, a4⟩, a5⟩, a6⟩, a7⟩, a8⟩, a9⟩, b1⟩, b2⟩, b3⟩, b4⟩, b5⟩, b6⟩ := h
  obtain ⟨_, _, _, r1⟩ := rwj_e a1
  obtain ⟨_, _, _, r2⟩ := rwj_e a2
  obtain ⟨_, _, _, r3⟩ := rwj_e a3
  obtain ⟨_, _, _, r4⟩ := rwj_e a4
  obtain ⟨_, _, r5⟩ := rwk_e a5
  obtain ⟨_, _, r6⟩ := rwk_e a6
  obtain ⟨_, _, _, r7⟩ := rwj_e a7
  obtain ⟨_, _, _, r8⟩ := rwj_e a8
  obtain ⟨_, _, _, r9⟩ := rwj_e a9
  obtain ⟨_, _, _, s1⟩ := rwj_e b1
  obtain ⟨_, _, s2⟩ := rwk_e b2
  obtain ⟨_, _, _, s5⟩ := rwj_e b5
  obtain ⟨_, _, _, s6⟩ := rwj_e b6
  have eln : aln (X2 σ) 903 (-4) = σ (-4) (-1) := by unfold aln; rw [if_pos rfl]; rfl
  refine aw_load (x := i) ck_L_law r1 rfl ?_
  refine aw_load (x := -4) ck_L_law r2 rfl ?_
  refine aw_alen ck_L_law r3 (Or.inr ⟨rfl, rfl⟩) ?_
  rw [eln]
  refine aw_const ck_L_law r4 ?_
  refine aw_bin ck_L_law r5 ?_
  have e1 : binI 1 (σ (-4) (-1)) 6 = σ (-4) (-1) - 6 := by unfold binI; rw [if_neg (by decide), if_pos rfl, w32_id (by omega) (by omega)]
  rw [e1]
  refine aw_icmp ck_L_law r6 ?_
  unfold brc
  simp only [show ¬ (4 = 0) by decide, show ¬ (4 = 1) by decide, show ¬ (4 = 2) by decide, show ¬ (4 = 3) by decide, if_false, if_true]
  constructor
  · intro _
    refine aw_const ck_L_law s5 ?_
    exact aw_ret (w := 1) ck_L_law s6 (Or.inr rfl) hK
  · intro hlt
    have hlt : i + 6 ≤ σ (-4) (-1) := by omega
    refine aw_load (x := -4) ck_L_law r7 rfl ?_
    refine aw_load (x := i) ck_L_law r8 rfl ?_
    refine aw_ald ck_L_law r9 (by decide) rfl (by have := nc_big; show (-4 : Int) < (NC : Nat); omega) h0 (by rw [eln]; omega) ?_
    refine aw_const ck_L_law s1 ?_
    refine aw_bin ck_L_law s2 ?_
    refine aw_tsw ck_L_law row_21 fun t ht => ?_
    refine hgo hlt t ?_
    have e2 : binI 3 ((X2 σ).2.2 (-4) i) 63 = andI (σ (-4) i) 63 := by unfold binI; rw [if_neg (by decide), if_neg (by decide), if_neg (by decide), if_pos rfl]; rfl
    have e3 : (0 : Int) + (caseL.length : Int) = 39 := by decide
    rw [e2, e3, Int.sub_zero] at ht
    exact ht
theorem la_next {i : Int} {σ : Mem} {K : Int → HS → Prop} (h0 : 0 ≤ i) (h3 : i ≤ 5000) (g : AWL 10 [] (LL (i + 6)) σ K) : AWL 1201 [] (LL i) σ K := by
  have h := head_ok
  unfold headOk at h
  simp only [Bool.and_eq_true] at h
  obtain ⟨⟨⟨⟨-, b3⟩, b4⟩, -⟩, -⟩ := h
  obtain ⟨_, _, _, s3⟩ := rwj_e b3
  obtain ⟨_, _, _, s4⟩ := rwj_e b4
  refine aw_iinc (x := i) ck_L_law s3 rfl ?_
  rw [w32_id (by omega) (by omega)]
  refine aw_goto ck_L_law s4 ?_
  exact g

