theorem X_clear_ok {d : Nat} {K : Int → Mem → Prop} {σ : Mem} {g : Int} (g0 : 0 ≤ g) (g5 : g ≤ 5) (k : ∀ s2 : Mem, s2 (4 + 43 * g) 0 = 0 → s2 (4 + 43 * g) 2 = 1 → (∀ p t, 0 ≤ p → p < 7 → 0 ≤ t → t < 8 → s2 (25 + 43 * g + p) t = 0) → (∀ k, 0 ≤ k → k < 7 → s2 (33 + 43 * g + 2 * k) 2 = 0) → s2 (4 + 43 * g) 10 = 0 → (∀ b j, ¬ (b = 4 + 43 * g ∧ (0 ≤ j ∧ j ≤ 2 ∨ j = 10)) → ¬ (25 + 43 * g ≤ b ∧ b ≤ 31 + 43 * g) → ¬ (33 + 43 * g ≤ b ∧ b < 47 + 43 * g ∧ j = 2) → s2 b j = σ b j) → K 0 s2) : AM2 i_Giving_clear (d + 2) [(2, 4 + 43 * g)] σ K := by
  have ck := fun {P : Prop} => ck_g (P := P) g0 g5
  have lp : ∀ (q : Nat) (p : Int) (s : Mem), 0 ≤ p → p + q = 7 → (∀ v t, 0 ≤ v → v < p → 0 ≤ t → t < 8 → s (25 + 43 * g + v) t = 0) → s (4 + 43 * g) 0 = 0 → s (4 + 43 * g) 2 = 1 → (∀ b j, ¬ (b = 4 + 43 * g ∧ 0 ≤ j ∧ j ≤ 2) → ¬ (25 + 43 * g ≤ b ∧ b ≤ 31 + 43 * g) → s b j = σ b j) → AW2 i_Giving_clear (d + 2) 11 [] [(0, (2, 4 + 43 * g)), (1, (0, p))] s K := by
    intro q
    induction q with
    | zero =>
      intro p s p0 e x e0 e2 f
      refine s_Giving_clear_11 (brF_i (by omega) ?_)
      rw [ck]
      refine X_forgetAll_ok g0 g5 (fun s2 y1 y2 y3 => k s2 (by rw [y3 _ _ (by omega) (by omega)]; exact e0) (by rw [y3 _ _ (by omega) (by omega)]; exact e2) (fun p t a b c e => by rw [y3 _ _ (by omega) (by omega)]; exact x p t a (by omega) c e) y1 y2 (fun b j z1 z2 z3 => by rw [y3 b j z3 (by omega)]; exact f b j (by omega) z2))
    | succ q ih =>
      intro p s p0 e x e0 e2 f
      have hk := (gR g0 g5 p0 (show p < 7 by omega)).1
      refine s_Giving_clear_11 (brT_i (by omega) ?_)
      (try simp (disch := omega) only [w32_id, w64_id, inb_eq, st_self, st_ne, pt3, ck_g, ck_am, ck_he, ck_sz, ck_ls, ck_lv, ck_pa, ck_kn, sn_am, sn_he, sn_sz, sn_ls, sn_lv, sn_pa, sn_kn, pt_am, pt_he, pt_sz, pt_ls, pt_lv, pt_pa, pt_kn, ck_lr, ck_vr, ck_pr, sn_lr, sn_vr, sn_pr, pt_lr, pt_vr, pt_pr, pt_sh, ck_sh, pt_to, ck_to, sn_to])
      refine Fill_I_ok hk.2.2.2.2.1 (by rw [hk.2.2.2.2.2]; decide) (by rw [hk.2.2.2.2.2]; decide) (fun s2 y1 y2 => ?_)
      rw [hk.2.2.2.2.2] at y1 y2
      refine ih (p + 1) s2 (by omega) (by omega) (fun v t a b c e => ?_) (by rw [y2 _ _ (by omega)]; exact e0) (by rw [y2 _ _ (by omega)]; exact e2) (fun b j z1 z2 => by rw [y2 b j (by omega)]; exact f b j z1 z2)
      by_cases z : v = p
      · rw [z]; exact y1 t c e
      · rw [y2 _ _ (by omega)]; exact x v t a (by omega) c e
  refine e_Giving_clear ?_
  rw [ck, ck, ck]
  exact lp 7 0 _ (Int.le_refl 0) rfl (fun v t a b => by omega) (by rw [st_ne (by omega), st_ne (by omega), st_self]) (st_self _ _ _ _) (fun b j z1 z2 => by rw [st_ne (by omega), st_ne (by omega), st_ne (by omega)])
/-- what a read text leaves in the class's slot -/
def RGX (s2 : Mem) (g : Int) (T : Int → Int) (L : Int) : Prop :=
  (s2 (4 + 43 * g) 0 = (thL T L 8 0 0 (fun _ => 0)).2.2.1 ∧ s2 (4 + 43 * g) 1 = (rdG T L).2.2.1 ∧ s2 (4 + 43 * g) 2 = 1) ∧ (∀ t, 0 ≤ t → t < (thL T L 8 0 0 (fun _ => 0)).2.2.1 → s2 (5 + 43 * g) t = (thL T L 8 0 0 (fun _ => 0)).2.2.2 t) ∧ DX s2 g (rdG T L).2.2.1 (rdG T L).2.2.2 ∧ (∀ p t, 0 ≤ p → p < 7 → 0 ≤ t → t < 8 → s2 (25 + 43 * g + p) t = 0)
/-- a read text is as it may be -/
def RGW (T : Int → Int) (L : Int) : Prop := (1 ≤ (thL T L 8 0 0 (fun _ => 0)).2.2.1 ∧ (thL T L 8 0 0 (fun _ => 0)).2.2.1 ≤ 8) ∧ (1 ≤ (rdG T L).2.2.1 ∧ (rdG T L).2.2.1 ≤ 7) ∧ (∀ t, 0 ≤ t → t < (thL T L 8 0 0 (fun _ => 0)).2.2.1 → 1 ≤ (thL T L 8 0 0 (fun _ => 0)).2.2.2 t ∧ (thL T L 8 0 0 (fun _ => 0)).2.2.2 t ≤ 9) ∧ GWD (thL T L 8 0 0 (fun _ => 0)).2.2.1 (rdG T L).2.2.1 (thL T L 8 0 0 (fun _ => 0)).2.2.2 (rdG T L).2.2.2
def fNX (g b j : Int) : Prop := (b = 1 ∧ j = 2) ∨ (4 + 43 * g ≤ b ∧ b ≤ 31 + 43 * g) ∨ (33 + 43 * g ≤ b ∧ b < 47 + 43 * g ∧ j = 2)
theorem X_readGiving_ok {d : Nat} {K : Int → Mem → Prop} {σ : Mem} {T : Int → Int} {L g : Int} (g0 : 0 ≤ g) (g5 : g ≤ 5) (hT : TX σ T L)
    (k1 : ∀ s2 : Mem, (rdG T L).1 = true → s2 1 2 = (rdG T L).2.1 → RGX s2 g T L → RGW T L → (∀ k, 0 ≤ k → k < 7 → s2 (33 + 43 * g + 2 * k) 2 = 0) → s2 (4 + 43 * g) 10 = 0 → (∀ b j, ¬ fNX g b j → s2 b j = σ b j) → K 1 s2) (k0 : ∀ s2 : Mem, (rdG T L).1 = false → s2 1 2 = (rdG T L).2.1 → (∀ b j, ¬ fNX g b j → s2 b j = σ b j) → K 0 s2) : AM2 i_Tape_readGiving (d + 5) [(2, 1), (2, 4 + 43 * g)] σ K := by
  have ck := fun {P : Prop} => ck_g (P := P) g0 g5
  have hL := hT.2.1
  refine e_Tape_readGiving ?_
  rw [ck]
  refine X_clear_ok g0 g5 (fun s1 c0 c2 cp cf cs f1 => ?_)
  have hT1 : TX s1 T L := TX_fr hT (fun b j y => by rw [f1 b j (by omega) (by omega) (by omega), st_ne (by omega)])
  have hq1 : s1 1 2 = 0 := by rw [f1 _ _ (by omega) (by omega) (by omega), st_self]
  have hth := thL_r (T := T) (L := L) 8 0 0 (fun _ => 0) (Int.le_refl 0) (Int.le_refl 0) hL.1 rfl (fun t a b => by omega)
  have F1 : ∀ b j, ¬ fNX g b j → s1 b j = σ b j := fun b j y => by
    unfold fNX at y
    rw [f1 b j (by omega) (by omega) (by omega), st_ne (by omega)]
  refine X_readThings_ok (T := T) (L := L) g0 g5 hT1 hq1 c0 (fun s2 a1 a2 a3 f2 => ?_)
  have hT2 : TX s2 T L := TX_fr hT1 (fun b j y => f2 b j (by omega) (by omega) (by omega))
  have F2 : ∀ b j, ¬ fNX g b j → s2 b j = σ b j := fun b j y => by
    have y2 := y
    unfold fNX at y2
    rw [f2 b j (by omega) (by omega) (by omega)]; exact F1 b j y
  by_cases hA : (thL T L 8 0 0 (fun _ => 0)).1 = true ∧ 0 < (thL T L 8 0 0 (fun _ => 0)).2.2.1
  · rw [if_pos hA]
    refine br1 ?_
    by_cases hB : hre T L (thL T L 8 0 0 (fun _ => 0)).2.1 = 59
    · have er : rdG T L = lsH T L (thL T L 8 0 0 (fun _ => 0)).2.2.1 (thL T L 8 0 0 (fun _ => 0)).2.2.2 7 0 (thL T L 8 0 0 (fun _ => 0)).2.1 D0 := if_pos ⟨hA.1, hA.2, hB⟩
      rw [er] at k0
      refine X_readLists_ok (T := T) (L := L) (am := (thL T L 8 0 0 (fun _ => 0)).2.2.2) (m := (thL T L 8 0 0 (fun _ => 0)).2.2.1) g0 g5 ⟨by omega, hth.2.1.2⟩ hT2 a1 hth.1.1 hth.1.2 a2 (fun t a b => ⟨a3 t a b, (hth.2.2 t a b).1⟩) hB (fun s3 b1 b2 b3 b4 b5 b6 f3 => br1 ?_) (fun s3 b1 b2 f3 => br0 (k0 s3 b1 b2 (fun b j y => ?_)))
      · rw [← er] at b1 b2 b3 b4 b5 b6
        have g3 : ∀ b j, ¬ (b = 1 ∧ j = 2) → ¬ (b = 4 + 43 * g ∧ j = 1) → ¬ (6 + 43 * g ≤ b ∧ b ≤ 7 + 43 * g) → ¬ (9 + 43 * g ≤ b ∧ b ≤ 15 + 43 * g) → ¬ (17 + 43 * g ≤ b ∧ b ≤ 23 + 43 * g) → s3 b j = s2 b j := fun b j y1 y2 y3 y4 y5 => f3 b j y2 (fun w w0 w7 z => by unfold fLX at z; omega)
        refine k1 s3 b1 b2 ⟨⟨by rw [g3 _ _ (by omega) (by omega) (by omega) (by omega) (by omega)]; exact a2, b3, ?_⟩, fun t a b => by rw [g3 _ _ (by omega) (by omega) (by omega) (by omega) (by omega)]; exact a3 t a b, b5, fun p t p0 p1 t0 t1 => ?_⟩ ⟨⟨by omega, hth.2.1.2⟩, b4, hth.2.2, b6⟩ (fun k a b => ?_) ?_ (fun b j y => ?_)
        · rw [g3 _ _ (by omega) (by omega) (by omega) (by omega) (by omega), f2 _ _ (by omega) (by omega) (by omega)]; exact c2
        · rw [g3 _ _ (by omega) (by omega) (by omega) (by omega) (by omega), f2 _ _ (by omega) (by omega) (by omega)]; exact cp p t p0 p1 t0 t1
        · rw [g3 _ _ (by omega) (by omega) (by omega) (by omega) (by omega), f2 _ _ (by omega) (by omega) (by omega)]; exact cf k a b
        · rw [g3 _ _ (by omega) (by omega) (by omega) (by omega) (by omega), f2 _ _ (by omega) (by omega) (by omega)]; exact cs
        · have y2 := y
          unfold fNX at y2
          rw [g3 b j (by omega) (by omega) (by omega) (by omega) (by omega)]; exact F2 b j y
      · have y2 := y
        unfold fNX at y2
        rw [f3 b j (by omega) (fun w w0 w7 z => by unfold fLX at z; omega)]; exact F2 b j y
    · have er : rdG T L = (false, (thL T L 8 0 0 (fun _ => 0)).2.1, 0, D0) := if_neg (fun z => hB z.2.2)
      rw [er] at k0
      refine e_Tape_readLists (s_Tape_readLists_2 (brT_i (by decide) (brF_i (by decide) (X_next_ok hT2 a1 hth.1.1 (brF_i hB (br0 (k0 s2 rfl a1 F2)))))))
  · rw [if_neg hA]
    have er : rdG T L = (false, (thL T L 8 0 0 (fun _ => 0)).2.1, 0, D0) := if_neg (fun z => hA ⟨z.1, z.2.1⟩)
    rw [er] at k0
    exact br0 (k0 s2 rfl a1 F2)
-- the model's
def DM (s : Mem) (g who : Int) (D : GD) : Prop := ∀ p, 0 ≤ p → p < who → s 361 (7 * g + p) = D.1 p ∧ s 362 (7 * g + p) = D.2.1 p ∧ (∀ i, 0 ≤ i → i < D.2.1 p → s 363 (8 * (7 * g + p) + i) = D.2.2.1 p i) ∧ ∀ t, 0 ≤ t → t < 8 → s 364 (8 * (7 * g + p) + t) = D.2.2.2 p t
theorem DM_put {s s2 : Mem} {g who : Int} {D : GD} {r : Bool × Int × Int × Int × (Int → Int) × (Int → Int)} (hD : DM s g who D) (hr : RLM s2 (7 * g + who) r) (hz : ∀ p, 0 ≤ p → p < who → D.2.1 p ≤ 8) (f : ∀ b j, ¬ fLM (7 * g + who) b j → s2 b j = s b j) : DM s2 g (who + 1) (putD D who r) := by
  intro q q0 q1
  unfold fLM at f
  by_cases c : q = who
  · subst c
    show s2 361 (7 * g + q) = up D.1 q r.2.2.1 q ∧ s2 362 (7 * g + q) = up D.2.1 q r.2.2.2.1 q ∧ (∀ i, 0 ≤ i → i < up D.2.1 q r.2.2.2.1 q → s2 363 (8 * (7 * g + q) + i) = (if q = q then r.2.2.2.2.1 else D.2.2.1 q) i) ∧ ∀ t, 0 ≤ t → t < 8 → s2 364 (8 * (7 * g + q) + t) = (if q = q then r.2.2.2.2.2 else D.2.2.2 q) t
    rw [up_s, up_s, if_pos rfl, if_pos rfl]
    exact hr
  · show s2 361 (7 * g + q) = up D.1 who r.2.2.1 q ∧ s2 362 (7 * g + q) = up D.2.1 who r.2.2.2.1 q ∧ (∀ i, 0 ≤ i → i < up D.2.1 who r.2.2.2.1 q → s2 363 (8 * (7 * g + q) + i) = (if q = who then r.2.2.2.2.1 else D.2.2.1 q) i) ∧ ∀ t, 0 ≤ t → t < 8 → s2 364 (8 * (7 * g + q) + t) = (if q = who then r.2.2.2.2.2 else D.2.2.2 q) t
    rw [up_n c, up_n c, if_neg c, if_neg c]
    have h := hD q q0 (by omega)
    have h8 := hz q q0 (by omega)
    refine ⟨by rw [f _ _ (by omega)]; exact h.1, by rw [f _ _ (by omega)]; exact h.2.1, fun i a b => by rw [f _ _ (by omega)]; exact h.2.2.1 i a b, fun t a b => by rw [f _ _ (by omega)]; exact h.2.2.2 t a b⟩
/-- the model's cells of a slot, but for its table and rounds -/
def fNM (g b j : Int) : Prop := (b = 356 ∧ j = 31) ∨ ((b = 357 ∨ b = 358) ∧ j = g) ∨ (b = 360 ∧ 8 * g ≤ j ∧ j < 8 * g + 8) ∨ ((b = 361 ∨ b = 362) ∧ 7 * g ≤ j ∧ j < 7 * g + 7) ∨ ((b = 363 ∨ b = 364) ∧ 56 * g ≤ j ∧ j < 56 * g + 56)
def RGM (s2 : Mem) (g : Int) (T : Int → Int) (L : Int) : Prop :=
  (s2 358 g = (thL T L 8 0 0 (fun _ => 0)).2.2.1 ∧ s2 357 g = (rdG T L).2.2.1) ∧ (∀ t, 0 ≤ t → t < (thL T L 8 0 0 (fun _ => 0)).2.2.1 → s2 360 (8 * g + t) = (thL T L 8 0 0 (fun _ => 0)).2.2.2 t) ∧ DM s2 g (rdG T L).2.2.1 (rdG T L).2.2.2
theorem M_readsGiving_ok {d : Nat} {K : Int → Mem → Prop} {σ : Mem} {T : Int → Int} {L g : Int} (g0 : 0 ≤ g) (g5 : g ≤ 5) (hT : TM σ T L) (hq : σ 356 31 = 0)
    (k1 : ∀ s2 : Mem, (rdG T L).1 = true → s2 356 31 = (rdG T L).2.1 → RGM s2 g T L → (∀ b j, ¬ fNM g b j → s2 b j = σ b j) → K 1 s2) (k0 : ∀ s2 : Mem, (rdG T L).1 = false → s2 356 31 = (rdG T L).2.1 → (∀ b j, ¬ fNM g b j → s2 b j = σ b j) → K 0 s2) : AM2 i_M_readsGiving (d + 4) [(2, 356), (0, g)] σ K := by
  have hL := hT.2.1
  have hth := thL_r (T := T) (L := L) 8 0 0 (fun _ => 0) (Int.le_refl 0) (Int.le_refl 0) hL.1 rfl (fun t a b => by omega)
  generalize hR : thL T L 8 0 0 (fun _ => 0) = R at *
  have eG : ∀ h59 : R.1 = true ∧ 0 < R.2.2.1 ∧ hre T L R.2.1 = 59, rdG T L = lsH T L R.2.2.1 R.2.2.2 7 0 R.2.1 D0 := fun h => by
    unfold rdG; rw [hR, if_pos h]
  have eB : ¬ (R.1 = true ∧ 0 < R.2.2.1 ∧ hre T L R.2.1 = 59) → rdG T L = (false, R.2.1, 0, D0) := fun h => by
    unfold rdG; rw [hR, if_neg h]
  -- the lists
  have step : (R.1 = true ∧ 0 < R.2.2.1 ∧ hre T L R.2.1 = 59) → ∀ (f : Nat) (who p : Int) (D : GD) (s : Mem), 0 ≤ who → (f : Int) + 1 + who = 7 → 0 ≤ p → p < L → hre T L p = 59 → s 356 31 = p + 1 → s 357 g = who → s 358 g = R.2.2.1 → (∀ t, 0 ≤ t → t < R.2.2.1 → s 360 (8 * g + t) = R.2.2.2 t) → DM s g who D → GWD R.2.2.1 who R.2.2.2 D → (∀ b j, ¬ fNM g b j → s b j = σ b j) → lsH T L R.2.2.1 R.2.2.2 (f + 1) who p D = rdG T L →
      (∀ (p' : Int) (D' : GD) (s' : Mem), 1 ≤ f → 0 ≤ p' → p' < L → hre T L p' = 59 → s' 356 31 = p' + 1 → s' 357 g = who + 1 → s' 358 g = R.2.2.1 → (∀ t, 0 ≤ t → t < R.2.2.1 → s' 360 (8 * g + t) = R.2.2.2 t) → DM s' g (who + 1) D' → GWD R.2.2.1 (who + 1) R.2.2.2 D' → (∀ b j, ¬ fNM g b j → s' b j = σ b j) → lsH T L R.2.2.1 R.2.2.2 f (who + 1) p' D' = rdG T L → AW2 i_M_readsGiving (d + 4) 13 [] [(0, (2, 356)), (1, (0, g)), (2, (0, 1))] s' K) →
      AW2 i_M_readsGiving (d + 4) 13 [] [(0, (2, 356)), (1, (0, g)), (2, (0, 1))] s K := by
    intro hgood f who p D s w0 ef p0 pL h59 hp hw hm ha hD hG ff er cont
    have hTs : TM s T L := TM_fr hT (fun b j y => ff b j (by unfold fNM; omega))
    have er2 : (if (rdL T L R.2.2.1 R.2.2.2 (hcD D who) (p + 1)).1 = true then lsH T L R.2.2.1 R.2.2.2 f (who + 1) (rdL T L R.2.2.1 R.2.2.2 (hcD D who) (p + 1)).2.1 (putD D who (rdL T L R.2.2.1 R.2.2.2 (hcD D who) (p + 1))) else (false, (rdL T L R.2.2.1 R.2.2.2 (hcD D who) (p + 1)).2.1, who, D)) = rdG T L := by
      rw [← er]
      show _ = (if hre T L p = 59 then _ else _)
      rw [if_pos h59]
    have hpos := (rdL_r (T := T) (L := L) (m := R.2.2.1) (p := p + 1) (am := R.2.2.2) (hc := hcD D who) (by omega) (by omega) (by omega)).2
    refine s_M_readsGiving_13 (brF_i (by decide) (inb_i g0 (by omega) ?_))
    rw [hw]
    refine M_readsList_ok (T := T) (L := L) (m := R.2.2.1) (n := who) (q := p + 1) (am := R.2.2.2) (hc := hcD D who) g0 g5 w0 (by omega) ⟨by omega, hth.2.1.2⟩ (by omega) hTs hp (by omega) (by omega) hm hw ha (fun t a b => ?_) (fun s1 x1 x2 x3 x4 => br1 ?_) (fun s1 x1 x2 x4 => br0 ?_)
    · unfold hcD
      refine sm_congr _ 0 0 (fun v v0 v1 => ?_)
      rw [(hD v v0 (by omega)).1]
      by_cases y : D.1 v = t
      · rw [if_pos y, if_pos ⟨by omega, y⟩]
      · rw [if_neg y, if_neg (fun z => y z.2)]
    · rw [if_pos x1] at er2
      rw [x4 357 g (by unfold fLM; omega), hw, w32_id (x := who + 1) (by omega) (by omega)]
      have fl : ∀ b j, ¬ fNM g b j → ¬ fLM (7 * g + who) b j := fun b j y z => by unfold fNM at y; unfold fLM at z; omega
      have hT1 : TM (st s1 357 g (who + 1)) T L := TM_fr hTs (fun b j y => by rw [st_ne (by omega)]; exact x4 b j (by unfold fLM; omega))
      have e31 : st s1 357 g (who + 1) 356 31 = (rdL T L R.2.2.1 R.2.2.2 (hcD D who) (p + 1)).2.1 := by rw [st_ne (by omega)]; exact x2
      have hD1 : ∀ v : Int, DM (st (st s1 357 g (who + 1)) 356 31 v) g (who + 1) (putD D who (rdL T L R.2.2.1 R.2.2.2 (hcD D who) (p + 1))) := fun v => by
        have h := DM_put hD x3 (fun q a b => by have := (hG.1 q a b).1.1; have := hth.2.1.2; omega) x4
        intro q a b
        have h2 := h q a b
        exact ⟨by rw [st_ne (by omega), st_ne (by omega)]; exact h2.1, by rw [st_ne (by omega), st_ne (by omega)]; exact h2.2.1, fun i c e => by rw [st_ne (by omega), st_ne (by omega)]; exact h2.2.2.1 i c e, fun t c e => by rw [st_ne (by omega), st_ne (by omega)]; exact h2.2.2.2 t c e⟩
      have hG1 := GWD_put (T := T) (L := L) (m := R.2.2.1) (who := who) (p := p + 1) (am := R.2.2.2) (D := D) (by omega) w0 (by omega) (by omega) (fun t a b => (hth.2.2 t a b).1) hG x1
      have ff1 : ∀ v : Int, ∀ b j, ¬ fNM g b j → st (st s1 357 g (who + 1)) 356 31 v b j = σ b j := fun v b j y => by
        have y2 := y
        unfold fNM at y2
        rw [st_ne (by omega), st_ne (by omega), x4 b j (fl b j y)]; exact ff b j y
      have em1 : ∀ v : Int, st (st s1 357 g (who + 1)) 356 31 v 358 g = R.2.2.1 := fun v => by rw [st_ne (by omega), st_ne (by omega), x4 _ _ (by unfold fLM; omega)]; exact hm
      have ea1 : ∀ v : Int, ∀ t, 0 ≤ t → t < R.2.2.1 → st (st s1 357 g (who + 1)) 356 31 v 360 (8 * g + t) = R.2.2.2 t := fun v t a b => by rw [st_ne (by omega), st_ne (by omega), x4 _ _ (by unfold fLM; omega)]; exact ha t a b
      -- the end: no more lists
      have fin : lsH T L R.2.2.1 R.2.2.2 f (who + 1) (rdL T L R.2.2.1 R.2.2.2 (hcD D who) (p + 1)).2.1 (putD D who (rdL T L R.2.2.1 R.2.2.2 (hcD D who) (p + 1))) = (decide ((rdL T L R.2.2.1 R.2.2.2 (hcD D who) (p + 1)).2.1 = L), (rdL T L R.2.2.1 R.2.2.2 (hcD D who) (p + 1)).2.1, who + 1, putD D who (rdL T L R.2.2.1 R.2.2.2 (hcD D who) (p + 1))) → AW2 i_M_readsGiving (d + 4) 13 [] [(0, (2, 356)), (1, (0, g)), (2, (0, 0))] (st (st s1 357 g (who + 1)) 356 31 ((rdL T L R.2.2.1 R.2.2.2 (hcD D who) (p + 1)).2.1)) K := by
        intro el
        rw [el] at er2
        have e13 : st (st s1 357 g (who + 1)) 356 31 ((rdL T L R.2.2.1 R.2.2.2 (hcD D who) (p + 1)).2.1) 356 13 = L := by rw [ff1 _ _ _ (by unfold fNM; omega)]; exact hT.1
        refine s_M_readsGiving_13 (brT_i rfl ?_)
        rw [st_self, e13]
        refine ⟨fun z => k1 _ (by rw [← er2]; exact decide_eq_true z) (by rw [← er2, st_self]) ⟨⟨by rw [hR]; exact em1 _, by rw [← er2, st_ne (by omega), st_self]⟩, by rw [hR]; exact ea1 _, by rw [← er2]; exact hD1 _⟩ (ff1 _), fun z => k0 _ (by rw [← er2]; exact decide_eq_false z) (by rw [← er2, st_self]) (ff1 _)⟩
      have e57 : st s1 357 g (who + 1) 357 g = who + 1 := st_self _ _ _ _
      refine inb_i g0 (by omega) (inb_i g0 (by omega) (M_hre_ok hT1 e31 hpos.1 ⟨fun c => inb_i g0 (by omega) ?_, fun c => ⟨fun _ => ?_, fun z => absurd rfl z⟩⟩))
      · rw [e57, e31]
        have hlt := hre_in c (by decide)
        refine ⟨fun z => brF_i (by decide) ?_, fun z => ⟨fun _ => ?_, fun z => absurd rfl z⟩⟩
        · rw [w32_id (by omega) (by omega)]
          exact cont _ _ _ (by omega) hpos.1 hlt c (st_self _ _ _ _) (by rw [st_ne (by omega), st_self]) (em1 _) (ea1 _) (hD1 _) hG1 (ff1 _) er2
        · rw [w32_id (by omega) (by omega), Int.add_zero]
          refine fin ?_
          have : f = 0 := by omega
          subst this
          rfl
      · rw [e31, w32_id (by omega) (by omega), Int.add_zero]
        refine fin ?_
        cases f with
        | zero => rfl
        | succ f =>
          show (if hre T L (rdL T L R.2.2.1 R.2.2.2 (hcD D who) (p + 1)).2.1 = 59 then _ else _) = _
          rw [if_neg c]
    · rw [x1, if_neg (by decide)] at er2
      refine k0 s1 (by rw [← er2]) (by rw [← er2]; exact x2) (fun b j y => ?_)
      rw [x4 b j (fun z => by unfold fNM at y; unfold fLM at z; omega)]; exact ff b j y
  have lists : (R.1 = true ∧ 0 < R.2.2.1 ∧ hre T L R.2.1 = 59) → ∀ (f : Nat) (who p : Int) (D : GD) (s : Mem), 0 ≤ who → (f : Int) + 1 + who = 7 → 0 ≤ p → p < L → hre T L p = 59 → s 356 31 = p + 1 → s 357 g = who → s 358 g = R.2.2.1 → (∀ t, 0 ≤ t → t < R.2.2.1 → s 360 (8 * g + t) = R.2.2.2 t) → DM s g who D → GWD R.2.2.1 who R.2.2.2 D → (∀ b j, ¬ fNM g b j → s b j = σ b j) → lsH T L R.2.2.1 R.2.2.2 (f + 1) who p D = rdG T L → AW2 i_M_readsGiving (d + 4) 13 [] [(0, (2, 356)), (1, (0, g)), (2, (0, 1))] s K := by
    intro hgood f
    induction f with
    | zero =>
      intro who p D s w0 ef p0 pL h59 hp hw hm ha hD hG ff er
      exact step hgood 0 who p D s w0 ef p0 pL h59 hp hw hm ha hD hG ff er (fun p' D' s' h => absurd h (by decide))
    | succ f ih =>
      intro who p D s w0 ef p0 pL h59 hp hw hm ha hD hG ff er
      exact step hgood (f + 1) who p D s w0 ef p0 pL h59 hp hw hm ha hD hG ff er (fun p' D' s' _ a1 a2 a3 a4 a5 a6 a7 a8 a9 a10 a11 => ih (who + 1) p' D' s' (by omega) (by omega) a1 a2 a3 a4 a5 a6 a7 a8 a9 a10 a11)
  -- the things
  have things : ∀ (f : Nat) (i p : Int) (am : Int → Int) (s : Mem), 0 ≤ i → (f : Int) + i = 8 → 0 ≤ p → p ≤ L → s 356 31 = p → s 358 g = i → s 357 g = 0 → (∀ t, 0 ≤ t → t < i → s 360 (8 * g + t) = am t) → (∀ b j, ¬ fNM g b j → s b j = σ b j) → thL T L f i p am = R → AW2 i_M_readsThings (d + 3) 5 [] [(0, (2, 356)), (1, (0, g))] s (fun w1 σ1 => (w1 = 0 → K 0 σ1) ∧ (¬ w1 = 0 → AW2 i_M_readsGiving (d + 4) 13 [] [(0, (2, 356)), (1, (0, g)), (2, (0, 1))] σ1 K)) := by
    -- all things are there
    have done : ∀ (i p : Int) (am : Int → Int) (s : Mem), 0 ≤ i → i ≤ 8 → 0 ≤ p → p ≤ L → s 356 31 = p → s 358 g = i → s 357 g = 0 → (∀ t, 0 ≤ t → t < i → s 360 (8 * g + t) = am t) → (∀ b j, ¬ fNM g b j → s b j = σ b j) → (true, p, i, am) = R → inb g 6 (((s 358 g) = 0 → (((0 : Int) = 0 → K 0 s) ∧ (¬ (0 : Int) = 0 → AW2 i_M_readsGiving (d + 4) 13 [] [(0, (2, 356)), (1, (0, g)), (2, (0, 1))] s K))) ∧ (¬ (s 358 g) = 0 → AM2 i_M_here (d + 2) [(2, 356)] s (fun w5 σ5 => (w5 = 59 → (((1 : Int) = 0 → K 0 (st σ5 356 31 (w32 ((σ5 356 31) + 1)))) ∧ (¬ (1 : Int) = 0 → AW2 i_M_readsGiving (d + 4) 13 [] [(0, (2, 356)), (1, (0, g)), (2, (0, 1))] (st σ5 356 31 (w32 ((σ5 356 31) + 1))) K))) ∧ (¬ w5 = 59 → (((0 : Int) = 0 → K 0 σ5) ∧ (¬ (0 : Int) = 0 → AW2 i_M_readsGiving (d + 4) 13 [] [(0, (2, 356)), (1, (0, g)), (2, (0, 1))] σ5 K)))))) := by
      intro i p am s i0 i8 p0 pL hp hi hw ha ff er
      have hTs : TM s T L := TM_fr hT (fun b j y => ff b j (by unfold fNM; omega))
      have bad : ¬ (R.1 = true ∧ 0 < R.2.2.1 ∧ hre T L R.2.1 = 59) → K 0 s := fun z => by
        have e := eB z
        rw [← er] at e
        exact k0 s (by rw [e]) (by rw [e]; exact hp) ff
      refine inb_i g0 (by omega) ?_
      rw [hi]
      refine ⟨fun z => br0 (bad (fun y => ?_)), fun z => M_hre_ok hTs hp p0 ⟨fun c => br1 ?_, fun c => br0 (bad (fun y => ?_))⟩⟩
      · rw [← er] at y
        have : 0 < i := y.2.1
        omega
      · have hlt := hre_in c (by decide)
        rw [hp, w32_id (by omega) (by omega)]
        have hgood : R.1 = true ∧ 0 < R.2.2.1 ∧ hre T L R.2.1 = 59 := by rw [← er]; exact ⟨rfl, by show 0 < i; omega, c⟩
        have e := eG hgood
        have eR1 : R.2.1 = p := by rw [← er]
        have eR2 : R.2.2.1 = i := by rw [← er]
        refine lists hgood 6 0 p D0 _ (Int.le_refl 0) rfl p0 hlt c (st_self _ _ _ _) (by rw [st_ne (by omega)]; exact hw) (by rw [st_ne (by omega), eR2]; exact hi) (fun t a b => by rw [eR2] at b; rw [st_ne (by omega), ← er]; exact ha t a b) (fun q a b => by omega) ⟨fun q a b => by omega, fun t a b => by have := (hth.2.2 t a b).1; show (0 : Int) ≤ R.2.2.2 t; omega⟩ (fun b j y => by rw [st_ne (by unfold fNM at y; omega)]; exact ff b j y) (by rw [e, eR1])
      · rw [← er] at y
        exact c y.2.2
    intro f
    induction f with
    | zero =>
      intro i p am s i0 e p0 pL hp hi hw ha ff er
      have er : (true, p, i, am) = R := er
      have hTs : TM s T L := TM_fr hT (fun b j y => ff b j (by unfold fNM; omega))
      have hd := done i p am s i0 (by omega) p0 pL hp hi hw ha ff er
      have hr := hre_r (p := p) (L := L) (fun i a b => (hT.2.2 i a b).2) p0
      refine s_M_readsThings_5 (M_hre_ok hTs hp p0 (inb_i g0 (by omega) ?_))
      rw [hi] at hd ⊢
      refine ⟨fun c => inb_i g0 (by omega) (brF_i (by omega) hd), fun c => hd⟩
    | succ f ih =>
      intro i p am s i0 e p0 pL hp hi hw ha ff er
      have hTs : TM s T L := TM_fr hT (fun b j y => ff b j (by unfold fNM; omega))
      have hr := hre_r (p := p) (L := L) (fun i a b => (hT.2.2 i a b).2) p0
      refine s_M_readsThings_5 (M_hre_ok hTs hp p0 (inb_i g0 (by omega) ?_))
      rw [hi, w32_id (x := 97 + i) (by omega) (by omega), hp, w32_id (x := p + 1) (by omega) (by omega)]
      refine ⟨fun c => inb_i g0 (by omega) (brT_i (by omega) ?_), fun c => ?_⟩
      · have hpL := hre_in c (by omega)
        have hT1 : TM (st s 356 31 (p + 1)) T L := TM_fr hTs (fun b j y => by rw [st_ne (by omega)])
        have hr2 := hre_r (p := p + 1) (L := L) (fun i a b => (hT.2.2 i a b).2) (by omega)
        have ff1 : ∀ b j, ¬ fNM g b j → st s 356 31 (p + 1) b j = σ b j := fun b j y => by rw [st_ne (by unfold fNM at y; omega)]; exact ff b j y
        refine M_hre_ok hT1 (st_self _ _ _ _) (by omega) (M_in_ok (fun z1 z2 => br1 (inb_i g0 (by omega) (M_hre_ok hT1 (st_self _ _ _ _) (by omega) ?_))) (fun z => br0 (br0 ?_)))
        · rw [thL_T c ⟨by omega, by omega⟩] at er
          have hpL2 := hre_in (T := T) (L := L) (p := p + 1) rfl (by omega)
          have e8 : st s 356 31 (p + 1) 358 g = i := by rw [st_ne (by omega)]; exact hi
          rw [e8, w32_id (x := 8 * g) (by omega) (by omega), w32_id (x := 8 * g + i) (by omega) (by omega), w32_id (x := hre T L (p + 1) - 48) (by omega) (by omega)]
          have e9 : st (st s 356 31 (p + 1)) 360 (8 * g + i) (hre T L (p + 1) - 48) 358 g = i := by rw [st_ne (by omega)]; exact e8
          rw [e9, w32_id (x := i + 1) (by omega) (by omega)]
          have e10 : st (st (st s 356 31 (p + 1)) 360 (8 * g + i) (hre T L (p + 1) - 48)) 358 g (i + 1) 356 31 = p + 1 := by rw [st_ne (by omega), st_ne (by omega), st_self]
          rw [e10, w32_id (x := p + 1 + 1) (by omega) (by omega)]
          refine inb_i (by omega) (by omega) (inb_i g0 (by omega) (inb_i g0 (by omega) (ih (i + 1) (p + 1 + 1) (up am i (hre T L (p + 1) - 48)) _ (by omega) (by omega) (by omega) (by omega) (st_self _ _ _ _) (by rw [st_ne (by omega), st_self]) (by rw [st_ne (by omega), st_ne (by omega), st_ne (by omega), st_ne (by omega)]; exact hw) (fun t a b => ?_) (fun b j y => by
            have y2 := y
            unfold fNM at y2
            rw [st_ne (by omega), st_ne (by omega), st_ne (by omega)]; exact ff1 b j y) er)))
          by_cases y : t = i
          · rw [y, up_s, st_ne (by omega), st_ne (by omega), st_self]
          · rw [up_n y, st_ne (by omega), st_ne (by omega), st_ne (by omega), st_ne (by omega)]; exact ha t a (by omega)
        · rw [thL_B c (by omega)] at er
          have hn : rdG T L = (false, R.2.1, 0, D0) := eB (fun y => by rw [← er] at y; cases y.1)
          rw [← er] at hn
          exact k0 _ (by rw [hn]) (by rw [hn, st_self]) ff1
      · rw [thL_F c] at er
        have hd := done i p am s i0 (by omega) p0 pL hp hi hw ha ff er
        rw [hi] at hd
        simp only [hp] at hd ⊢
        exact hd
  refine e_M_readsGiving fun _ => inb_i g0 (by omega) (e_M_readsThings fun _ => inb_i g0 (by omega) ?_)
  exact things 8 0 0 (fun _ => 0) _ (Int.le_refl 0) rfl (Int.le_refl 0) hL.1 (by rw [st_ne (by omega), st_ne (by omega)]; exact hq) (st_self _ _ _ _) (by rw [st_ne (by omega), st_self]) (fun t a b => by omega) (fun b j y => by
    unfold fNM at y
    rw [st_ne (by omega), st_ne (by omega)]) hR
