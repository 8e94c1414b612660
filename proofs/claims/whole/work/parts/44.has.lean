theorem countOf_ok {d : Nat} {K : Int → Mem → Prop} {s : Mem} {h n m p t : Int} {S : RS} (hh : h = 263 ∨ h = 285) (hn : n ≤ 7) (hS : HR s h n m S) (p0 : 0 ≤ p) (p1 : p < n) (hg : 0 ≤ S.2.1 p ∧ S.2.1 p ≤ 3) (k : K (hs S p t) s) : AM2 i_Hand_countOf (d + 1) [(2, h), (0, p), (0, t)] s K := by
  have e2 := hS.2.1 p p0 p1
  have go : ∀ (q : Nat) (i a : Int), 0 ≤ i → i + q = S.2.1 p → 0 ≤ a → a ≤ i → K (sm (fun i => if S.2.2.1 p i = t then 1 else 0) q i a) s → AW2 i_Hand_countOf (d + 1) 4 [] [(0, (2, h)), (1, (0, p)), (2, (0, t)), (3, (0, a)), (4, (0, i))] s K := by
    intro q
    induction q with
    | zero =>
      intro i a i0 e a0 a1 k
      refine s_Hand_countOf_4 ?_
      (try simp (disch := omega) only [w32_id, w64_id, inb_eq, st_self, st_ne, pt3, ck_g, ck_am, ck_he, ck_sz, ck_ls, ck_lv, ck_pa, ck_kn, sn_am, sn_he, sn_sz, sn_ls, sn_lv, sn_pa, sn_kn, pt_am, pt_he, pt_sz, pt_ls, pt_lv, pt_pa, pt_kn, ck_lr, ck_vr, ck_pr, sn_lr, sn_vr, sn_pr, pt_lr, pt_vr, pt_pr, pt_sh, ck_sh, pt_to, ck_to, sn_to, ck_h, ck_hl, ck_hg, ck_ht, ck_hm, ck_tr, ck_mr, sn_hl, sn_hg, sn_ht, sn_hm, sn_tr, sn_mr, pt_hl, pt_hg, pt_ht, pt_hm, pt_tr, pt_mr, e2])
      exact ⟨fun z => by omega, fun _ => k⟩
    | succ q ih =>
      intro i a i0 e a0 a1 k
      have e3 := (hS.2.2.1 p i p0 p1 i0 (by omega)).1
      refine s_Hand_countOf_4 ?_
      (try simp (disch := omega) only [w32_id, w64_id, inb_eq, st_self, st_ne, pt3, ck_g, ck_am, ck_he, ck_sz, ck_ls, ck_lv, ck_pa, ck_kn, sn_am, sn_he, sn_sz, sn_ls, sn_lv, sn_pa, sn_kn, pt_am, pt_he, pt_sz, pt_ls, pt_lv, pt_pa, pt_kn, ck_lr, ck_vr, ck_pr, sn_lr, sn_vr, sn_pr, pt_lr, pt_vr, pt_pr, pt_sh, ck_sh, pt_to, ck_to, sn_to, ck_h, ck_hl, ck_hg, ck_ht, ck_hm, ck_tr, ck_mr, sn_hl, sn_hg, sn_ht, sn_hm, sn_tr, sn_mr, pt_hl, pt_hg, pt_ht, pt_hm, pt_tr, pt_mr, e2, e3])
      unfold sm at k
      refine ⟨fun _ => ⟨fun z => ?_, fun z => ?_⟩, fun z => by omega⟩
      · rw [if_pos z] at k; exact ih (i + 1) (a + 1) (by omega) (by omega) (by omega) (by omega) k
      · rw [if_neg z] at k; exact ih (i + 1) a (by omega) (by omega) (by omega) (by omega) (by rw [show a + 0 = a by omega] at k; exact k)
  exact e_Hand_countOf fun _ _ => go _ 0 0 (Int.le_refl 0) (by omega) (Int.le_refl 0) (Int.le_refl 0) k
theorem call_has {d : Nat} {σ : Mem} {p t : Int} {P : Int → Int → Mem → Prop} (hI : I_giv σ) (hU : I_run σ) (h : ∀ r, P r r σ) :
    AM2 i_X_has (d + 4) [(2, 0), (0, p), (0, t)] σ (fun w1 σ1 => AM2 i_M_has (d + 4) [(2, 356), (0, p), (0, t)] σ1 (fun w2 σ2 => P w1 w2 σ2)) := by
  refine e_X_has fun _ _ => ?_
  rcases hU with ⟨u1, u2⟩ | ⟨g, S, ⟨g0, g1⟩, ⟨u1, u2⟩, hH, hPI, hM⟩
  rotate_left
  subst u2
  rotate_left
  · refine ⟨fun _ => e_M_has fun _ _ => ?_, fun z => absurd u1 z⟩
    rw [u2]
    exact Mp hI (fun a _ _ _ _ _ _ _ _ => by omega) (fun _ => br0 (h _))
  · have bad : ¬ ((0 ≤ p ∧ p < σ 357 (σ 356 14)) ∧ 0 ≤ t ∧ t < σ 358 (σ 356 14)) → AM2 i_M_has (d + 4) [(2, 356), (0, p), (0, t)] σ (fun w2 σ2 => P (-1) w2 σ2) := fun c => e_M_has fun _ _ => by
      exact Mp hI (fun _ _ _ x y _ _ _ _ => br1 (Mt hI (fun _ _ _ u v _ _ _ _ => absurd ⟨⟨x, y⟩, u, v⟩ c) (fun _ => br0 (h _)))) (fun _ => br0 (h _))
    obtain ⟨hA, hB, hC⟩ := hI.2.2.2 _ g0 g1
    have hn := hA.1
    have hm := hA.2.1
    have hi5 := hI.2.2.1
    refine ⟨fun z => by omega, fun _ => ?_⟩
    rw [u1]
    refine X_isPerson_ok g0 (by omega) (fun x y => br1 ?_) (fun z => br0 (bad (by omega)))
    rw [u1]
    refine X_isThing_ok g0 (by omega) (fun u v => br1 ?_) (fun z => br0 (bad (by omega)))
    refine countOf_ok (Or.inl rfl) (by omega) hH x (by omega) (hPI.2 p x (by omega)) ?_
    refine e_M_has fun _ _ => ?_
    refine Mp hI (fun _ _ _ _ _ _ _ _ _ => br1 (Mt hI (fun _ _ _ _ _ _ _ _ _ => br1 ?_) (fun z => absurd ⟨⟨g0, g1⟩, by omega, by omega⟩ z))) (fun z => absurd ⟨⟨g0, g1⟩, by omega, by omega⟩ z)
    (try simp (disch := omega) only [w32_id, w64_id, inb_eq, st_self, st_ne, pt3, ck_g, ck_am, ck_he, ck_sz, ck_ls, ck_lv, ck_pa, ck_kn, sn_am, sn_he, sn_sz, sn_ls, sn_lv, sn_pa, sn_kn, pt_am, pt_he, pt_sz, pt_ls, pt_lv, pt_pa, pt_kn, ck_lr, ck_vr, ck_pr, sn_lr, sn_vr, sn_pr, pt_lr, pt_vr, pt_pr, pt_sh, ck_sh, pt_to, ck_to, sn_to, hM.2.2.2 p t x (by omega) u (by omega)])
    exact h _
theorem call_left {d : Nat} {σ : Mem} {t : Int} {P : Int → Int → Mem → Prop} (hI : I_giv σ) (hU : I_run σ) (h : ∀ r, P r r σ) :
    AM2 i_X_left (d + 4) [(2, 0), (0, t)] σ (fun w1 σ1 => AM2 i_M_left (d + 4) [(2, 356), (0, t)] σ1 (fun w2 σ2 => P w1 w2 σ2)) := by
  refine e_X_left fun _ => ?_
  rcases hU with ⟨u1, u2⟩ | ⟨g, S, ⟨g0, g1⟩, ⟨u1, u2⟩, hH, hPI, hM⟩
  rotate_left
  subst u2
  rotate_left
  · refine ⟨fun _ => e_M_left fun _ => ?_, fun z => absurd u1 z⟩
    rw [u2]
    exact Mt hI (fun a _ _ _ _ _ _ _ _ => by omega) (fun _ => br0 (h _))
  · have bad : ¬ (0 ≤ t ∧ t < σ 358 (σ 356 14)) → AM2 i_M_left (d + 4) [(2, 356), (0, t)] σ (fun w2 σ2 => P (-1) w2 σ2) := fun c => e_M_left fun _ => by
      exact Mt hI (fun _ _ _ u v _ _ _ _ => absurd ⟨u, v⟩ c) (fun _ => br0 (h _))
    obtain ⟨hA, hB, hC⟩ := hI.2.2.2 _ g0 g1
    have hn := hA.1
    have hm := hA.2.1
    have hi5 := hI.2.2.1
    refine ⟨fun z => by omega, fun _ => ?_⟩
    rw [u1]
    refine X_isThing_ok g0 (by omega) (fun u v => br1 (inb_i u (by omega) ?_)) (fun z => br0 (bad (by omega)))
    refine e_M_left fun _ => ?_
    refine Mt hI (fun _ _ _ _ _ _ _ _ _ => br1 (inb_i u (by omega) ?_)) (fun z => absurd ⟨⟨g0, g1⟩, by omega, by omega⟩ z)
    rw [hM.1 t u (by omega), show σ 264 t = S.1 t from hH.1 t u (by omega)]
    exact h _
theorem X_isNoSide_ok {d : Nat} {K : Int → Mem → Prop} {σ : Mem} {q : Int} (k0 : (q = 0 ∨ q = 1) → K 0 σ) (k1 : ¬ (q = 0 ∨ q = 1) → K 1 σ) : AM2 i_X_isNoSide (d + 1) [(0, q)] σ K :=
  e_X_isNoSide fun _ => ⟨fun z => k0 (Or.inl z), fun z => ⟨fun y => k0 (Or.inr y), fun y => k1 (by omega)⟩⟩
theorem call_led {d : Nat} {σ : Mem} {p i q : Int} {P : Int → Int → Mem → Prop} (hI : I_giv σ) (hU : I_run σ) (h : ∀ r, P r r σ) :
    AM2 i_X_led (d + 4) [(2, 0), (0, p), (0, i), (0, q)] σ (fun w1 σ1 => AM2 i_M_led (d + 4) [(2, 356), (0, p), (0, i), (0, q)] σ1 (fun w2 σ2 => P w1 w2 σ2)) := by
  refine e_X_led fun _ _ _ => ?_
  rcases hU with ⟨u1, u2⟩ | ⟨g, S, ⟨g0, g1⟩, ⟨u1, u2⟩, hH, hPI, hM⟩
  rotate_left
  subst u2
  rotate_left
  · refine ⟨fun _ => e_M_led fun _ _ _ => ?_, fun z => absurd u1 z⟩
    rw [u2]
    exact Mp hI (fun a _ _ _ _ _ _ _ _ => by omega) (fun _ => br0 (h _))
  · obtain ⟨hA, hB, hC⟩ := hI.2.2.2 _ g0 g1
    have hn := hA.1
    have hm := hA.2.1
    have hi5 := hI.2.2.1
    have go : ∀ v, (0 ≤ p → p < σ 357 (σ 356 14) → (q = 0 ∨ q = 1) → 0 ≤ i → i < S.2.1 p → v = if q = 0 then S.2.2.2 p i else S.2.2.1 p i) → (¬ ((0 ≤ p ∧ p < σ 357 (σ 356 14)) ∧ (q = 0 ∨ q = 1) ∧ 0 ≤ i ∧ i < S.2.1 p) → v = -1) → AM2 i_M_led (d + 4) [(2, 356), (0, p), (0, i), (0, q)] σ (fun w2 σ2 => P v w2 σ2) := fun v v1 v2 => e_M_led fun _ _ _ => by
      refine Mp hI (fun _ _ _ x y _ _ _ _ => br1 (M_in_ok (fun z0 z1 => br1 (M_in_ok (fun _ _ => br1 (inb_i x (by omega) ?_)) (fun z => absurd ⟨by omega, by omega⟩ z))) (fun z => br0 (by rw [v2 (by omega)]; exact h _)))) (fun z => br0 (by rw [v2 (by omega)]; exact h _))
      have e2 := hM.2.1 p x y
      have hg := hPI.2 p x y
      (try simp (disch := omega) only [w32_id, w64_id, inb_eq, st_self, st_ne, pt3, ck_g, ck_am, ck_he, ck_sz, ck_ls, ck_lv, ck_pa, ck_kn, sn_am, sn_he, sn_sz, sn_ls, sn_lv, sn_pa, sn_kn, pt_am, pt_he, pt_sz, pt_ls, pt_lv, pt_pa, pt_kn, ck_lr, ck_vr, ck_pr, sn_lr, sn_vr, sn_pr, pt_lr, pt_vr, pt_pr, pt_sh, ck_sh, pt_to, ck_to, sn_to, e2])
      refine M_in_ok (fun a b => br1 ⟨fun c => ?_, fun c => ?_⟩) (fun z => br0 (by rw [v2 (by omega)]; exact h _))
      · (try simp (disch := omega) only [w32_id, w64_id, inb_eq, st_self, st_ne, pt3, ck_g, ck_am, ck_he, ck_sz, ck_ls, ck_lv, ck_pa, ck_kn, sn_am, sn_he, sn_sz, sn_ls, sn_lv, sn_pa, sn_kn, pt_am, pt_he, pt_sz, pt_ls, pt_lv, pt_pa, pt_kn, ck_lr, ck_vr, ck_pr, sn_lr, sn_vr, sn_pr, pt_lr, pt_vr, pt_pr, pt_sh, ck_sh, pt_to, ck_to, sn_to])
        rw [(hM.2.2.1 p i x y a (by omega)).2, v1 x y (by omega) a (by omega), if_pos c]; exact h _
      · (try simp (disch := omega) only [w32_id, w64_id, inb_eq, st_self, st_ne, pt3, ck_g, ck_am, ck_he, ck_sz, ck_ls, ck_lv, ck_pa, ck_kn, sn_am, sn_he, sn_sz, sn_ls, sn_lv, sn_pa, sn_kn, pt_am, pt_he, pt_sz, pt_ls, pt_lv, pt_pa, pt_kn, ck_lr, ck_vr, ck_pr, sn_lr, sn_vr, sn_pr, pt_lr, pt_vr, pt_pr, pt_sh, ck_sh, pt_to, ck_to, sn_to])
        rw [(hM.2.2.1 p i x y a (by omega)).1, v1 x y (by omega) a (by omega), if_neg c]; exact h _
    refine ⟨fun z => by omega, fun _ => ?_⟩
    rw [u1]
    refine X_isPerson_ok g0 (by omega) (fun x y => br1 (X_isNoSide_ok (fun hq => br0 ⟨fun c => go _ (fun _ _ _ a _ => by omega) (fun _ => rfl), fun c => inb_i x (by omega) ⟨fun c2 => ?_, fun c2 => ?_⟩⟩) (fun hq => br1 (go _ (fun _ _ a _ _ => absurd a hq) (fun _ => rfl))))) (fun z => br0 (go _ (fun a b _ _ _ => by omega) (fun _ => rfl)))
    · have e2 := hH.2.1 p x (by omega)
      have e3 := hPI.2 p x (by omega)
      rw [show (263 + 2 : Int) = 265 from rfl] at e2
      have e4 := hH.2.2.1 p i x (by omega) (by omega) (by omega)
      have a4 := pt_tr (h := 263) (Or.inl rfl) x (by omega)
      have a5 := pt_mr (h := 263) (Or.inl rfl) x (by omega)
      rw [show (263 + 3 : Int) = 266 from rfl] at a4
      rw [show (263 + 11 : Int) = 274 from rfl] at a5
      rw [a4, a5]
      (try simp (disch := omega) only [w32_id, w64_id, inb_eq, st_self, st_ne, pt3, ck_g, ck_am, ck_he, ck_sz, ck_ls, ck_lv, ck_pa, ck_kn, sn_am, sn_he, sn_sz, sn_ls, sn_lv, sn_pa, sn_kn, pt_am, pt_he, pt_sz, pt_ls, pt_lv, pt_pa, pt_kn, ck_lr, ck_vr, ck_pr, sn_lr, sn_vr, sn_pr, pt_lr, pt_vr, pt_pr, pt_sh, ck_sh, pt_to, ck_to, sn_to, ck_h, ck_hl, ck_hg, ck_ht, ck_hm, ck_tr, ck_mr, sn_hl, sn_hg, sn_ht, sn_hm, sn_tr, sn_mr, pt_hl, pt_hg, pt_ht, pt_hm, pt_tr, pt_mr])
      refine ⟨fun c3 => ?_, fun c3 => ?_⟩
      · rw [e4.2]; exact go _ (fun _ _ _ _ _ => by rw [if_pos c3]) (fun z => absurd ⟨⟨x, by omega⟩, hq, by omega, by omega⟩ z)
      · rw [e4.1]; exact go _ (fun _ _ _ _ _ => by rw [if_neg c3]) (fun z => absurd ⟨⟨x, by omega⟩, hq, by omega, by omega⟩ z)
    · have e2 := hH.2.1 p x (by omega)
      rw [show (263 + 2 : Int) = 265 from rfl] at e2
      exact go _ (fun _ _ _ _ _ => by omega) (fun _ => rfl)
