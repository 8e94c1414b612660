-- ===== takes, table
/-- the first of a list that is among the bits -/
theorem X_firstOf_ok {d : Nat} {K : Int → Mem → Prop} {σ : Mem} {g p b : Int} (h0 : 0 ≤ g) (h5 : g ≤ 5) (p0 : 0 ≤ p) (p7 : p < 7) (hs : 0 ≤ σ (7 + 43 * g) p ∧ σ (7 + 43 * g) p ≤ 8) (b0 : 0 ≤ b) (b1 : b < 256) (hl : ∀ i, 0 ≤ i → i < σ (7 + 43 * g) p → 0 ≤ σ (9 + 43 * g + p) i ∧ σ (9 + 43 * g + p) i < 8) (h : K (fsT (bt b) (σ (9 + 43 * g + p)) (σ (7 + 43 * g) p).toNat 0) σ) : AM2 i_Giving_firstOf (d + 1) [(2, 4 + 43 * g), (0, p), (0, b)] σ K := by
  have go : ∀ (m : Nat) (i : Int), 0 ≤ i → i + m = σ (7 + 43 * g) p → K (fsT (bt b) (σ (9 + 43 * g + p)) m i) σ → AW2 i_Giving_firstOf (d + 1) 12 [] [(2, (0, b)), (3, (2, 9 + 43 * g + p)), (4, (0, σ (7 + 43 * g) p)), (5, (0, i))] σ K := by
    intro m
    induction m with
    | zero => intro i i0 e h; exact s_Giving_firstOf_12 ⟨fun c => by omega, fun _ => h⟩
    | succ m ih =>
      intro i i0 e h
      have hq := hl i i0 (by omega)
      refine s_Giving_firstOf_12 ⟨fun _ => ?_, fun c => by omega⟩
      (try simp (disch := omega) only [w32_id, w64_id, inb_eq, st_self, st_ne, pt3, ck_g, ck_am, ck_he, ck_sz, ck_ls, ck_lv, ck_pa, ck_kn, sn_am, sn_he, sn_sz, sn_ls, sn_lv, sn_pa, sn_kn, pt_am, pt_he, pt_sz, pt_ls, pt_lv, pt_pa, pt_kn, ck_lr, ck_vr, ck_pr, sn_lr, sn_vr, sn_pr, pt_lr, pt_vr, pt_pr, pt_sh, ck_sh, pt_to, ck_to, sn_to])
      rw [bit_e b0 (by omega) hq.1 (by omega)]
      cases q : bt b (σ (9 + 43 * g + p) i) with
      | true => rw [fsT_T q] at h; exact ⟨fun c => absurd c (by decide), fun _ => h⟩
      | false => rw [fsT_F q] at h; exact ⟨fun _ => ih (i + 1) (by omega) (by omega) h, fun c => absurd rfl c⟩
  refine e_Giving_firstOf fun _ _ => ?_
  (try simp (disch := omega) only [w32_id, w64_id, inb_eq, st_self, st_ne, pt3, ck_g, ck_am, ck_he, ck_sz, ck_ls, ck_lv, ck_pa, ck_kn, sn_am, sn_he, sn_sz, sn_ls, sn_lv, sn_pa, sn_kn, pt_am, pt_he, pt_sz, pt_ls, pt_lv, pt_pa, pt_kn, ck_lr, ck_vr, ck_pr, sn_lr, sn_vr, sn_pr, pt_lr, pt_vr, pt_pr, pt_sh, ck_sh, pt_to, ck_to, sn_to])
  exact go _ 0 (Int.le_refl 0) (by omega) h
theorem shl1_r {n : Int} (h1 : 1 ≤ n) (h8 : n ≤ 8) : 2 ≤ shlI 1 n ∧ shlI 1 n ≤ 256 := by
  rcases (by omega : n = 1 ∨ n = 2 ∨ n = 3 ∨ n = 4 ∨ n = 5 ∨ n = 6 ∨ n = 7 ∨ n = 8) with rfl | rfl | rfl | rfl | rfl | rfl | rfl | rfl
  all_goals decide
theorem call_takes {d : Nat} {σ : Mem} {g p l : Int} {P : Int → Int → Mem → Prop} (hI : I_giv σ) (h : ∀ r, P r r σ) :
    AM2 i_X_takes (d + 4) [(2, 0), (0, g), (0, p), (0, l)] σ (fun w1 σ1 => AM2 i_M_takes (d + 4) [(2, 356), (0, g), (0, p), (0, l)] σ1 (fun w2 σ2 => P w1 w2 σ2)) := by
  have bad0 : ¬ ((0 ≤ g ∧ g < σ 356 0) ∧ 0 ≤ p ∧ p < σ 357 g) → AM2 i_M_takes (d + 4) [(2, 356), (0, g), (0, p), (0, l)] σ (fun w2 σ2 => P (-1) w2 σ2) := fun c =>
    e_M_takes fun _ _ _ => Mp hI (fun a _ b x y _ _ _ _ => absurd ⟨⟨a, b⟩, x, y⟩ c) (fun _ => br0 (h _))
  refine e_X_takes fun _ _ _ => Xg hI (fun g0 g5 b hA hB hC => br1 ?_) (fun c => br0 (bad0 (by omega)))
  obtain ⟨⟨n1, n2, n3, n4, n5, n6⟩, ⟨m1, m2, m3⟩, ham, hsz, hls⟩ := hA
  (try simp (disch := omega) only [w32_id, w64_id, inb_eq, st_self, st_ne, pt3, ck_g, ck_am, ck_he, ck_sz, ck_ls, ck_lv, ck_pa, ck_kn, sn_am, sn_he, sn_sz, sn_ls, sn_lv, sn_pa, sn_kn, pt_am, pt_he, pt_sz, pt_ls, pt_lv, pt_pa, pt_kn, ck_lr, ck_vr, ck_pr, sn_lr, sn_vr, sn_pr, pt_lr, pt_vr, pt_pr, pt_sh, ck_sh, pt_to, ck_to, sn_to])
  refine X_isPerson_ok g0 (by omega) (fun p0 p1 => br1 ?_) (fun z => br0 (bad0 (by omega)))
  have hsh := shl1_r n3 n4
  have hz := hsz p p0 (by omega)
  have bad1 : ¬ (0 ≤ l ∧ l < shlI 1 (σ 358 g)) → AM2 i_M_takes (d + 4) [(2, 356), (0, g), (0, p), (0, l)] σ (fun w2 σ2 => P (-1) w2 σ2) := fun c => by
    refine e_M_takes fun _ _ _ => Mp hI (fun _ _ _ _ _ _ _ _ _ => br1 (Mg hI (fun _ _ _ _ _ _ => br1 ?_) (fun z => absurd ⟨g0, b⟩ z))) (fun z => absurd ⟨⟨g0, b⟩, by omega, by omega⟩ z)
    (try simp (disch := omega) only [w32_id, w64_id, inb_eq, st_self, st_ne, pt3, ck_g, ck_am, ck_he, ck_sz, ck_ls, ck_lv, ck_pa, ck_kn, sn_am, sn_he, sn_sz, sn_ls, sn_lv, sn_pa, sn_kn, pt_am, pt_he, pt_sz, pt_ls, pt_lv, pt_pa, pt_kn, ck_lr, ck_vr, ck_pr, sn_lr, sn_vr, sn_pr, pt_lr, pt_vr, pt_pr, pt_sh, ck_sh, pt_to, ck_to, sn_to])
    exact M_in_ok (fun x y => by omega) (fun _ => br0 (h _))
  (try simp (disch := omega) only [w32_id, w64_id, inb_eq, st_self, st_ne, pt3, ck_g, ck_am, ck_he, ck_sz, ck_ls, ck_lv, ck_pa, ck_kn, sn_am, sn_he, sn_sz, sn_ls, sn_lv, sn_pa, sn_kn, pt_am, pt_he, pt_sz, pt_ls, pt_lv, pt_pa, pt_kn, ck_lr, ck_vr, ck_pr, sn_lr, sn_vr, sn_pr, pt_lr, pt_vr, pt_pr, pt_sh, ck_sh, pt_to, ck_to, sn_to])
  rw [m2]
  refine ⟨fun c => bad1 (by omega), fun c => ⟨fun c2 => ?_, fun c2 => bad1 (by omega)⟩⟩
  refine X_firstOf_ok g0 (by omega) p0 (by omega) (by omega) (by omega) (by omega) (fun i i0 i1 => by have := hls p i p0 (by omega) i0 (by omega); omega) ?_
  have go : ∀ v, (∀ i, 0 ≤ i → i < σ 362 (7 * g + p) → σ (9 + 43 * g + p) i = σ 363 (56 * g + 8 * p + i) ∧ 0 ≤ σ 363 (56 * g + 8 * p + i) ∧ σ 363 (56 * g + 8 * p + i) < σ 358 g) → v = (let w := fsT (bt l) (σ (9 + 43 * g + p)) (σ (7 + 43 * g) p).toNat 0; if w < 0 then -2 else w) → AM2 i_M_takes (d + 4) [(2, 356), (0, g), (0, p), (0, l)] σ (fun w2 σ2 => P v w2 σ2) := by
    intro v hl hv
    refine e_M_takes fun _ _ _ => Mp hI (fun _ _ _ _ _ _ _ _ _ => br1 (Mg hI (fun _ _ _ _ _ _ => br1 ?_) (fun z => absurd ⟨g0, b⟩ z))) (fun z => absurd ⟨⟨g0, b⟩, by omega, by omega⟩ z)
    (try simp (disch := omega) only [w32_id, w64_id, inb_eq, st_self, st_ne, pt3, ck_g, ck_am, ck_he, ck_sz, ck_ls, ck_lv, ck_pa, ck_kn, sn_am, sn_he, sn_sz, sn_ls, sn_lv, sn_pa, sn_kn, pt_am, pt_he, pt_sz, pt_ls, pt_lv, pt_pa, pt_kn, ck_lr, ck_vr, ck_pr, sn_lr, sn_vr, sn_pr, pt_lr, pt_vr, pt_pr, pt_sh, ck_sh, pt_to, ck_to, sn_to])
    refine M_in_ok (fun x y => br1 ?_) (fun z => absurd ⟨by omega, by omega⟩ z)
    have lp : ∀ (m : Nat) (i : Int), 0 ≤ i → i + m = σ 362 (7 * g + p) → v = (let w := fsT (bt l) (σ (9 + 43 * g + p)) m i; if w < 0 then -2 else w) → AW2 i_M_takes (d + 4) 27 [] [(0, (2, 356)), (1, (0, g)), (2, (0, p)), (3, (0, l)), (4, (0, i))] σ (fun w2 σ2 => P v w2 σ2) := by
      intro m
      induction m with
      | zero =>
        intro i i0 e hv
        refine s_M_takes_27 ?_
        (try simp (disch := omega) only [w32_id, w64_id, inb_eq, st_self, st_ne, pt3, ck_g, ck_am, ck_he, ck_sz, ck_ls, ck_lv, ck_pa, ck_kn, sn_am, sn_he, sn_sz, sn_ls, sn_lv, sn_pa, sn_kn, pt_am, pt_he, pt_sz, pt_ls, pt_lv, pt_pa, pt_kn, ck_lr, ck_vr, ck_pr, sn_lr, sn_vr, sn_pr, pt_lr, pt_vr, pt_pr, pt_sh, ck_sh, pt_to, ck_to, sn_to])
        exact ⟨fun c => by omega, fun _ => by rw [hv]; exact h _⟩
      | succ m ih =>
        intro i i0 e hv
        have hq := hl i i0 (by omega)
        refine s_M_takes_27 ?_
        (try simp (disch := omega) only [w32_id, w64_id, inb_eq, st_self, st_ne, pt3, ck_g, ck_am, ck_he, ck_sz, ck_ls, ck_lv, ck_pa, ck_kn, sn_am, sn_he, sn_sz, sn_ls, sn_lv, sn_pa, sn_kn, pt_am, pt_he, pt_sz, pt_ls, pt_lv, pt_pa, pt_kn, ck_lr, ck_vr, ck_pr, sn_lr, sn_vr, sn_pr, pt_lr, pt_vr, pt_pr, pt_sh, ck_sh, pt_to, ck_to, sn_to])
        refine ⟨fun _ => ?_, fun c => by omega⟩
        rw [bit_e (by omega) (by omega) hq.2.1 (by omega), ← hq.1]
        cases q : bt l (σ (9 + 43 * g + p) i) with
        | true => rw [fsT_T q] at hv; dsimp only at hv; rw [if_neg (by omega)] at hv; exact ⟨fun _ => by rw [hv]; exact h _, fun c => absurd rfl c⟩
        | false => rw [fsT_F q] at hv; exact ⟨fun c => absurd c (by decide), fun _ => ih (i + 1) (by omega) (by omega) hv⟩
    exact lp (σ 362 (7 * g + p)).toNat 0 (Int.le_refl 0) (by omega) (by rw [hv, hz.1])
  refine ⟨fun c => go _ (fun i i0 i1 => hls p i p0 (by omega) i0 i1) ?_, fun c => go _ (fun i i0 i1 => hls p i p0 (by omega) i0 i1) ?_⟩
  · dsimp only; rw [if_pos c]
  · dsimp only; rw [if_neg c]
