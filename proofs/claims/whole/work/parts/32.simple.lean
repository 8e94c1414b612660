-- ===== of, rounds, level, listed
theorem call_of {d : Nat} {σ : Mem} {g q : Int} {P : Int → Int → Mem → Prop} (hI : I_giv σ) (h : ∀ r, P r r σ) :
    AM2 i_X_of (d + 3) [(2, 0), (0, g), (0, q)] σ (fun w1 σ1 => AM2 i_M_of (d + 3) [(2, 356), (0, g), (0, q)] σ1 (fun w2 σ2 => P w1 w2 σ2)) := by
  refine e_X_of fun _ hq => Xg hI (fun a a5 b hA hB hC => br1 ?_) (fun c => br0 (e_M_of fun _ _ => Mg hI (fun a _ b _ _ _ => absurd ⟨a, b⟩ c) (fun _ => br0 (h _))))
  obtain ⟨⟨n1, n2, n3, n4, n5, n6⟩, ⟨m1, m2, m3⟩, ham, hsz, hls⟩ := hA
  unfold r32 at hq
  have go : ∀ v : Int, (q = 0 → v = σ 357 g) → (q = 1 → v = σ 358 g) → (q = 2 → v = σ 359 g) → (10 ≤ q → q < 10 + σ 358 g → v = σ 360 (8 * g + (q - 10))) → (20 ≤ q → q < 20 + σ 357 g → v = σ 361 (7 * g + (q - 20))) → (¬ (0 ≤ q ∧ q ≤ 2 ∨ 10 ≤ q ∧ q < 10 + σ 358 g ∨ 20 ≤ q ∧ q < 20 + σ 357 g) → v = -2000000000) → AM2 i_M_of (d + 3) [(2, 356), (0, g), (0, q)] σ (fun w2 σ2 => P v w2 σ2) := by
    intro v v0 v1 v2 v3 v4 v5
    refine e_M_of fun _ _ => Mg hI (fun _ _ _ _ _ _ => br1 ?_) (fun c => absurd ⟨a, b⟩ c)
    (try simp (disch := omega) only [w32_id, w64_id, inb_eq, st_self, st_ne, pt3, ck_g, ck_am, ck_he, ck_sz, ck_ls, ck_lv, ck_pa, ck_kn, sn_am, sn_he, sn_sz, sn_ls, sn_lv, sn_pa, sn_kn, pt_am, pt_he, pt_sz, pt_ls, pt_lv, pt_pa, pt_kn, ck_lr, ck_vr, ck_pr, sn_lr, sn_vr, sn_pr, pt_lr, pt_vr, pt_pr, pt_sh, ck_sh, pt_to, ck_to, sn_to])
    refine M_in_ok (fun x y => br1 ?_) (fun x => br0 ?_)
    · (try simp (disch := omega) only [w32_id, w64_id, inb_eq, st_self, st_ne, pt3, ck_g, ck_am, ck_he, ck_sz, ck_ls, ck_lv, ck_pa, ck_kn, sn_am, sn_he, sn_sz, sn_ls, sn_lv, sn_pa, sn_kn, pt_am, pt_he, pt_sz, pt_ls, pt_lv, pt_pa, pt_kn, ck_lr, ck_vr, ck_pr, sn_lr, sn_vr, sn_pr, pt_lr, pt_vr, pt_pr, pt_sh, ck_sh, pt_to, ck_to, sn_to])
      refine M_in_ok (fun _ _ => br1 ?_) (fun z => absurd ⟨by omega, by omega⟩ z)
      (try simp (disch := omega) only [w32_id, w64_id, inb_eq, st_self, st_ne, pt3, ck_g, ck_am, ck_he, ck_sz, ck_ls, ck_lv, ck_pa, ck_kn, sn_am, sn_he, sn_sz, sn_ls, sn_lv, sn_pa, sn_kn, pt_am, pt_he, pt_sz, pt_ls, pt_lv, pt_pa, pt_kn, ck_lr, ck_vr, ck_pr, sn_lr, sn_vr, sn_pr, pt_lr, pt_vr, pt_pr, pt_sh, ck_sh, pt_to, ck_to, sn_to])
      rw [← v3 x (by omega)]; exact h _
    · (try simp (disch := omega) only [w32_id, w64_id, inb_eq, st_self, st_ne, pt3, ck_g, ck_am, ck_he, ck_sz, ck_ls, ck_lv, ck_pa, ck_kn, sn_am, sn_he, sn_sz, sn_ls, sn_lv, sn_pa, sn_kn, pt_am, pt_he, pt_sz, pt_ls, pt_lv, pt_pa, pt_kn, ck_lr, ck_vr, ck_pr, sn_lr, sn_vr, sn_pr, pt_lr, pt_vr, pt_pr, pt_sh, ck_sh, pt_to, ck_to, sn_to])
      refine M_in_ok (fun x y => br1 ?_) (fun z => br0 ?_)
      · refine M_in_ok (fun _ _ => br1 ?_) (fun z => absurd ⟨by omega, by omega⟩ z)
        (try simp (disch := omega) only [w32_id, w64_id, inb_eq, st_self, st_ne, pt3, ck_g, ck_am, ck_he, ck_sz, ck_ls, ck_lv, ck_pa, ck_kn, sn_am, sn_he, sn_sz, sn_ls, sn_lv, sn_pa, sn_kn, pt_am, pt_he, pt_sz, pt_ls, pt_lv, pt_pa, pt_kn, ck_lr, ck_vr, ck_pr, sn_lr, sn_vr, sn_pr, pt_lr, pt_vr, pt_pr, pt_sh, ck_sh, pt_to, ck_to, sn_to])
        rw [← v4 x (by omega)]; exact h _
      · refine ⟨fun c => ?_, fun c0 => ⟨fun c => ?_, fun c1 => ⟨fun c => ?_, fun c2 => ?_⟩⟩⟩
        · (try simp (disch := omega) only [w32_id, w64_id, inb_eq, st_self, st_ne, pt3, ck_g, ck_am, ck_he, ck_sz, ck_ls, ck_lv, ck_pa, ck_kn, sn_am, sn_he, sn_sz, sn_ls, sn_lv, sn_pa, sn_kn, pt_am, pt_he, pt_sz, pt_ls, pt_lv, pt_pa, pt_kn, ck_lr, ck_vr, ck_pr, sn_lr, sn_vr, sn_pr, pt_lr, pt_vr, pt_pr, pt_sh, ck_sh, pt_to, ck_to, sn_to]); rw [← v0 c]; exact h _
        · (try simp (disch := omega) only [w32_id, w64_id, inb_eq, st_self, st_ne, pt3, ck_g, ck_am, ck_he, ck_sz, ck_ls, ck_lv, ck_pa, ck_kn, sn_am, sn_he, sn_sz, sn_ls, sn_lv, sn_pa, sn_kn, pt_am, pt_he, pt_sz, pt_ls, pt_lv, pt_pa, pt_kn, ck_lr, ck_vr, ck_pr, sn_lr, sn_vr, sn_pr, pt_lr, pt_vr, pt_pr, pt_sh, ck_sh, pt_to, ck_to, sn_to]); rw [← v1 c]; exact h _
        · (try simp (disch := omega) only [w32_id, w64_id, inb_eq, st_self, st_ne, pt3, ck_g, ck_am, ck_he, ck_sz, ck_ls, ck_lv, ck_pa, ck_kn, sn_am, sn_he, sn_sz, sn_ls, sn_lv, sn_pa, sn_kn, pt_am, pt_he, pt_sz, pt_ls, pt_lv, pt_pa, pt_kn, ck_lr, ck_vr, ck_pr, sn_lr, sn_vr, sn_pr, pt_lr, pt_vr, pt_pr, pt_sh, ck_sh, pt_to, ck_to, sn_to]); rw [← v2 c]; exact h _
        · rw [← v5 (by omega)]; exact h _
  (try simp (disch := omega) only [w32_id, w64_id, inb_eq, st_self, st_ne, pt3, ck_g, ck_am, ck_he, ck_sz, ck_ls, ck_lv, ck_pa, ck_kn, sn_am, sn_he, sn_sz, sn_ls, sn_lv, sn_pa, sn_kn, pt_am, pt_he, pt_sz, pt_ls, pt_lv, pt_pa, pt_kn, ck_lr, ck_vr, ck_pr, sn_lr, sn_vr, sn_pr, pt_lr, pt_vr, pt_pr, pt_sh, ck_sh, pt_to, ck_to, sn_to])
  refine ⟨fun c20 => ⟨fun c10 => ⟨fun c => ?_, fun c0 => ⟨fun c => ?_, fun c1 => ⟨fun c => ?_, fun c2 => ?_⟩⟩⟩, fun c10 => ?_⟩, fun c20 => ?_⟩
  · rw [m1]; exact go _ (fun _ => rfl) (fun _ => by omega) (fun _ => by omega) (fun _ => by omega) (fun _ => by omega) (fun _ => by omega)
  · rw [m2]; exact go _ (fun _ => by omega) (fun _ => rfl) (fun _ => by omega) (fun _ => by omega) (fun _ => by omega) (fun _ => by omega)
  · rw [m3]; exact go _ (fun _ => by omega) (fun _ => by omega) (fun _ => rfl) (fun _ => by omega) (fun _ => by omega) (fun _ => by omega)
  · exact go _ (fun _ => by omega) (fun _ => by omega) (fun _ => by omega) (fun _ => by omega) (fun _ => by omega) (fun _ => rfl)
  · (try simp (disch := omega) only [w32_id, w64_id, inb_eq, st_self, st_ne, pt3, ck_g, ck_am, ck_he, ck_sz, ck_ls, ck_lv, ck_pa, ck_kn, sn_am, sn_he, sn_sz, sn_ls, sn_lv, sn_pa, sn_kn, pt_am, pt_he, pt_sz, pt_ls, pt_lv, pt_pa, pt_kn, ck_lr, ck_vr, ck_pr, sn_lr, sn_vr, sn_pr, pt_lr, pt_vr, pt_pr, pt_sh, ck_sh, pt_to, ck_to, sn_to])
    refine X_isThing_ok a (by omega) (fun x y => br1 ?_) (fun z => br0 ?_)
    · (try simp (disch := omega) only [w32_id, w64_id, inb_eq, st_self, st_ne, pt3, ck_g, ck_am, ck_he, ck_sz, ck_ls, ck_lv, ck_pa, ck_kn, sn_am, sn_he, sn_sz, sn_ls, sn_lv, sn_pa, sn_kn, pt_am, pt_he, pt_sz, pt_ls, pt_lv, pt_pa, pt_kn, ck_lr, ck_vr, ck_pr, sn_lr, sn_vr, sn_pr, pt_lr, pt_vr, pt_pr, pt_sh, ck_sh, pt_to, ck_to, sn_to])
      have e := ham (q - 10) (by omega) (by omega)
      exact go _ (fun _ => by omega) (fun _ => by omega) (fun _ => by omega) (fun _ _ => e.1) (fun _ => by omega) (fun _ => by omega)
    · exact go _ (fun _ => by omega) (fun _ => by omega) (fun _ => by omega) (fun _ => by omega) (fun _ => by omega) (fun _ => rfl)
  · (try simp (disch := omega) only [w32_id, w64_id, inb_eq, st_self, st_ne, pt3, ck_g, ck_am, ck_he, ck_sz, ck_ls, ck_lv, ck_pa, ck_kn, sn_am, sn_he, sn_sz, sn_ls, sn_lv, sn_pa, sn_kn, pt_am, pt_he, pt_sz, pt_ls, pt_lv, pt_pa, pt_kn, ck_lr, ck_vr, ck_pr, sn_lr, sn_vr, sn_pr, pt_lr, pt_vr, pt_pr, pt_sh, ck_sh, pt_to, ck_to, sn_to])
    refine X_isPerson_ok a (by omega) (fun x y => br1 ?_) (fun z => br0 ?_)
    · (try simp (disch := omega) only [w32_id, w64_id, inb_eq, st_self, st_ne, pt3, ck_g, ck_am, ck_he, ck_sz, ck_ls, ck_lv, ck_pa, ck_kn, sn_am, sn_he, sn_sz, sn_ls, sn_lv, sn_pa, sn_kn, pt_am, pt_he, pt_sz, pt_ls, pt_lv, pt_pa, pt_kn, ck_lr, ck_vr, ck_pr, sn_lr, sn_vr, sn_pr, pt_lr, pt_vr, pt_pr, pt_sh, ck_sh, pt_to, ck_to, sn_to])
      have e := hB.1 (q - 20) (by omega) (by omega)
      exact go _ (fun _ => by omega) (fun _ => by omega) (fun _ => by omega) (fun _ => by omega) (fun _ _ => e.1) (fun _ => by omega)
    · exact go _ (fun _ => by omega) (fun _ => by omega) (fun _ => by omega) (fun _ => by omega) (fun _ => by omega) (fun _ => rfl)
theorem call_level {d : Nat} {σ : Mem} {g p t : Int} {P : Int → Int → Mem → Prop} (hI : I_giv σ) (h : ∀ r, P r r σ) :
    AM2 i_X_level (d + 4) [(2, 0), (0, g), (0, p), (0, t)] σ (fun w1 σ1 => AM2 i_M_level (d + 4) [(2, 356), (0, g), (0, p), (0, t)] σ1 (fun w2 σ2 => P w1 w2 σ2)) := by
  have bad : ¬ ((0 ≤ g ∧ g < σ 356 0) ∧ (0 ≤ p ∧ p < σ 357 g) ∧ 0 ≤ t ∧ t < σ 358 g) → AM2 i_M_level (d + 4) [(2, 356), (0, g), (0, p), (0, t)] σ (fun w2 σ2 => P (-2000000000) w2 σ2) := fun c =>
    e_M_level fun _ _ _ => Mp hI (fun a _ b x y _ _ _ _ => br1 (Mt hI (fun _ _ _ u v _ _ _ _ => absurd ⟨⟨a, b⟩, ⟨x, y⟩, u, v⟩ c) (fun _ => br0 (h _)))) (fun _ => br0 (h _))
  refine e_X_level fun _ _ _ => Xg hI (fun a a5 b hA hB hC => br1 ?_) (fun c => br0 (bad (by omega)))
  have hA0 := hA.1
  obtain ⟨m1, m2, m3⟩ := hA.2.1
  (try simp (disch := omega) only [w32_id, w64_id, inb_eq, st_self, st_ne, pt3, ck_g, ck_am, ck_he, ck_sz, ck_ls, ck_lv, ck_pa, ck_kn, sn_am, sn_he, sn_sz, sn_ls, sn_lv, sn_pa, sn_kn, pt_am, pt_he, pt_sz, pt_ls, pt_lv, pt_pa, pt_kn, ck_lr, ck_vr, ck_pr, sn_lr, sn_vr, sn_pr, pt_lr, pt_vr, pt_pr, pt_sh, ck_sh, pt_to, ck_to, sn_to])
  refine X_isPerson_ok a (by omega) (fun x y => br1 ?_) (fun z => br0 (bad (by omega)))
  (try simp (disch := omega) only [w32_id, w64_id, inb_eq, st_self, st_ne, pt3, ck_g, ck_am, ck_he, ck_sz, ck_ls, ck_lv, ck_pa, ck_kn, sn_am, sn_he, sn_sz, sn_ls, sn_lv, sn_pa, sn_kn, pt_am, pt_he, pt_sz, pt_ls, pt_lv, pt_pa, pt_kn, ck_lr, ck_vr, ck_pr, sn_lr, sn_vr, sn_pr, pt_lr, pt_vr, pt_pr, pt_sh, ck_sh, pt_to, ck_to, sn_to])
  refine X_isThing_ok a (by omega) (fun u v => br1 ?_) (fun z => br0 (bad (by omega)))
  (try simp (disch := omega) only [w32_id, w64_id, inb_eq, st_self, st_ne, pt3, ck_g, ck_am, ck_he, ck_sz, ck_ls, ck_lv, ck_pa, ck_kn, sn_am, sn_he, sn_sz, sn_ls, sn_lv, sn_pa, sn_kn, pt_am, pt_he, pt_sz, pt_ls, pt_lv, pt_pa, pt_kn, ck_lr, ck_vr, ck_pr, sn_lr, sn_vr, sn_pr, pt_lr, pt_vr, pt_pr, pt_sh, ck_sh, pt_to, ck_to, sn_to])
  refine e_M_level fun _ _ _ => Mp hI (fun _ _ _ _ _ _ _ _ _ => br1 (Mt hI (fun _ _ _ _ _ _ _ _ _ => br1 ?_) (fun z => absurd ⟨⟨a, b⟩, by omega, by omega⟩ z))) (fun z => absurd ⟨⟨a, b⟩, by omega, by omega⟩ z)
  (try simp (disch := omega) only [w32_id, w64_id, inb_eq, st_self, st_ne, pt3, ck_g, ck_am, ck_he, ck_sz, ck_ls, ck_lv, ck_pa, ck_kn, sn_am, sn_he, sn_sz, sn_ls, sn_lv, sn_pa, sn_kn, pt_am, pt_he, pt_sz, pt_ls, pt_lv, pt_pa, pt_kn, ck_lr, ck_vr, ck_pr, sn_lr, sn_vr, sn_pr, pt_lr, pt_vr, pt_pr, pt_sh, ck_sh, pt_to, ck_to, sn_to])
  rw [(hB.2 p t x (by omega) u (by omega)).1]
  exact h _
theorem call_listed {d : Nat} {σ : Mem} {g p i : Int} {P : Int → Int → Mem → Prop} (hI : I_giv σ) (h : ∀ r, P r r σ) :
    AM2 i_X_listed (d + 4) [(2, 0), (0, g), (0, p), (0, i)] σ (fun w1 σ1 => AM2 i_M_listed (d + 4) [(2, 356), (0, g), (0, p), (0, i)] σ1 (fun w2 σ2 => P w1 w2 σ2)) := by
  have bad0 : ¬ ((0 ≤ g ∧ g < σ 356 0) ∧ 0 ≤ p ∧ p < σ 357 g) → AM2 i_M_listed (d + 4) [(2, 356), (0, g), (0, p), (0, i)] σ (fun w2 σ2 => P (-1) w2 σ2) := fun c =>
    e_M_listed fun _ _ _ => Mp hI (fun a _ b x y _ _ _ _ => absurd ⟨⟨a, b⟩, x, y⟩ c) (fun _ => br0 (s_M_listed_33 (h _)))
  refine e_X_listed fun _ _ hi => Xg hI (fun a a5 b hA hB hC => br1 ?_) (fun c => br0 (bad0 (by omega)))
  have hA0 := hA.1
  unfold r32 at hi
  obtain ⟨m1, m2, m3⟩ := hA.2.1
  (try simp (disch := omega) only [w32_id, w64_id, inb_eq, st_self, st_ne, pt3, ck_g, ck_am, ck_he, ck_sz, ck_ls, ck_lv, ck_pa, ck_kn, sn_am, sn_he, sn_sz, sn_ls, sn_lv, sn_pa, sn_kn, pt_am, pt_he, pt_sz, pt_ls, pt_lv, pt_pa, pt_kn, ck_lr, ck_vr, ck_pr, sn_lr, sn_vr, sn_pr, pt_lr, pt_vr, pt_pr, pt_sh, ck_sh, pt_to, ck_to, sn_to])
  refine X_isPerson_ok a (by omega) (fun x y => br1 ?_) (fun z => br0 (bad0 (by omega)))
  have hs := hA.2.2.2.1 p x (by omega)
  have go : ∀ v : Int, (i = -1 → v = σ 362 (7 * g + p)) → (0 ≤ i → i < σ 362 (7 * g + p) → v = σ 363 (56 * g + 8 * p + i)) → (¬ (-1 ≤ i ∧ i < σ 362 (7 * g + p)) → v = -1) → AM2 i_M_listed (d + 4) [(2, 356), (0, g), (0, p), (0, i)] σ (fun w2 σ2 => P v w2 σ2) := by
    intro v v0 v1 v2
    refine e_M_listed fun _ _ _ => Mp hI (fun _ _ _ _ _ _ _ _ _ => br1 (Mp hI (fun _ _ _ _ _ _ _ _ _ => br1 (s_M_listed_18 (Mp hI (fun _ _ _ _ _ _ _ _ _ => br1 (s_M_listed_27 (chkK_i rfl ?_))) (fun z => absurd ⟨⟨a, b⟩, by omega, by omega⟩ z)))) (fun z => absurd ⟨⟨a, b⟩, by omega, by omega⟩ z))) (fun z => absurd ⟨⟨a, b⟩, by omega, by omega⟩ z)
    rw [show sN 362 = 42 from rfl]
    (try simp (disch := omega) only [w32_id, w64_id, inb_eq, st_self, st_ne, pt3, ck_g, ck_am, ck_he, ck_sz, ck_ls, ck_lv, ck_pa, ck_kn, sn_am, sn_he, sn_sz, sn_ls, sn_lv, sn_pa, sn_kn, pt_am, pt_he, pt_sz, pt_ls, pt_lv, pt_pa, pt_kn, ck_lr, ck_vr, ck_pr, sn_lr, sn_vr, sn_pr, pt_lr, pt_vr, pt_pr, pt_sh, ck_sh, pt_to, ck_to, sn_to])
    refine M_in_ok (fun x y => br1 ?_) (fun x => br0 (s_M_listed_33 ?_))
    · refine ⟨fun c => ?_, fun c => ⟨fun c2 => absurd c2 (by omega), fun c2 => s_M_listed_61 (chkK_i rfl ?_)⟩⟩
      · (try simp (disch := omega) only [w32_id, w64_id, inb_eq, st_self, st_ne, pt3, ck_g, ck_am, ck_he, ck_sz, ck_ls, ck_lv, ck_pa, ck_kn, sn_am, sn_he, sn_sz, sn_ls, sn_lv, sn_pa, sn_kn, pt_am, pt_he, pt_sz, pt_ls, pt_lv, pt_pa, pt_kn, ck_lr, ck_vr, ck_pr, sn_lr, sn_vr, sn_pr, pt_lr, pt_vr, pt_pr, pt_sh, ck_sh, pt_to, ck_to, sn_to]); rw [← v0 c]; exact s_M_listed_63 (h _)
      · rw [show sN 363 = 336 from rfl]
        (try simp (disch := omega) only [w32_id, w64_id, inb_eq, st_self, st_ne, pt3, ck_g, ck_am, ck_he, ck_sz, ck_ls, ck_lv, ck_pa, ck_kn, sn_am, sn_he, sn_sz, sn_ls, sn_lv, sn_pa, sn_kn, pt_am, pt_he, pt_sz, pt_ls, pt_lv, pt_pa, pt_kn, ck_lr, ck_vr, ck_pr, sn_lr, sn_vr, sn_pr, pt_lr, pt_vr, pt_pr, pt_sh, ck_sh, pt_to, ck_to, sn_to]); rw [← v1 (by omega) (by omega)]; exact s_M_listed_63 (h _)
    · rw [v2 (by omega)]; exact h _
  (try simp (disch := omega) only [w32_id, w64_id, inb_eq, st_self, st_ne, pt3, ck_g, ck_am, ck_he, ck_sz, ck_ls, ck_lv, ck_pa, ck_kn, sn_am, sn_he, sn_sz, sn_ls, sn_lv, sn_pa, sn_kn, pt_am, pt_he, pt_sz, pt_ls, pt_lv, pt_pa, pt_kn, ck_lr, ck_vr, ck_pr, sn_lr, sn_vr, sn_pr, pt_lr, pt_vr, pt_pr, pt_sh, ck_sh, pt_to, ck_to, sn_to])
  refine ⟨fun c => ?_, fun c => ⟨fun c2 => ?_, fun c2 => ⟨fun c3 => ?_, fun c3 => ?_⟩⟩⟩
  · rw [hs.1]; exact go _ (fun _ => rfl) (fun _ => by omega) (fun _ => by omega)
  · exact go _ (fun _ => by omega) (fun _ => by omega) (fun _ => rfl)
  · have e := hA.2.2.2.2 p i x (by omega) (by omega) (by omega)
    (try simp (disch := omega) only [w32_id, w64_id, inb_eq, st_self, st_ne, pt3, ck_g, ck_am, ck_he, ck_sz, ck_ls, ck_lv, ck_pa, ck_kn, sn_am, sn_he, sn_sz, sn_ls, sn_lv, sn_pa, sn_kn, pt_am, pt_he, pt_sz, pt_ls, pt_lv, pt_pa, pt_kn, ck_lr, ck_vr, ck_pr, sn_lr, sn_vr, sn_pr, pt_lr, pt_vr, pt_pr, pt_sh, ck_sh, pt_to, ck_to, sn_to]); exact go _ (fun _ => by omega) (fun _ _ => e.1) (fun _ => by omega)
  · exact go _ (fun _ => by omega) (fun _ => by omega) (fun _ => rfl)
