theorem lex_u {n p p' t t' : Int} (h : p' * n + t' = p * n + t) (t0 : 0 ≤ t) (t1 : t < n) (t0' : 0 ≤ t') (t1' : t' < n) : p' = p ∧ t' = t := by
  rcases Int.lt_trichotomy p' p with c | c | c
  · have := Int.mul_le_mul_of_nonneg_right (show p' + 1 ≤ p by omega) (show 0 ≤ n by omega)
    rw [Int.add_mul, Int.one_mul] at this
    omega
  · subst c; exact ⟨rfl, by omega⟩
  · have := Int.mul_le_mul_of_nonneg_right (show p + 1 ≤ p' by omega) (show 0 ≤ n by omega)
    rw [Int.add_mul, Int.one_mul] at this
    omega
theorem lex_dm {n p t : Int} (t0 : 0 ≤ t) (t1 : t < n) : (p * n + t) / n = p ∧ (p * n + t) % n = t := by
  refine ⟨?_, ?_⟩
  · rw [Int.add_comm, Int.add_mul_ediv_right _ _ (by omega), Int.ediv_eq_zero_of_lt t0 t1]; omega
  · rw [Int.add_comm, Int.add_mul_emod_self_right, Int.emod_eq_of_lt t0 t1]
theorem lex_le {n p N : Int} (n0 : 0 ≤ n) (h : p < N) : p * n + n ≤ N * n := by
  have := Int.mul_le_mul_of_nonneg_right (show p + 1 ≤ N by omega) n0
  rw [Int.add_mul, Int.one_mul] at this
  exact this
theorem lex_b {n N : Int} (n0 : 0 ≤ n) (n8 : n ≤ 8) (N0 : 0 ≤ N) (N7 : N ≤ 7) : 0 ≤ N * n ∧ N * n ≤ 56 := by
  refine ⟨Int.mul_nonneg N0 n0, ?_⟩
  have := Int.mul_le_mul N7 n8 n0 (by omega)
  omega
theorem call_table {d : Nat} {σ : Mem} {g s i : Int} {P : Int → Int → Mem → Prop} (hI : I_giv σ) (hS : I_shelf σ) (hY : I_byte σ) (h : ∀ r σ2, (σ2 = σ ∨ (0 ≤ g ∧ g < σ 356 0 ∧ TE σ σ2 g)) → I_giv σ2 → P r r σ2) :
    AM2 i_X_table (d + 3) [(2, 0), (0, g), (0, s), (0, i)] σ (fun w1 σ1 => AM2 i_M_table (d + 3) [(2, 356), (0, g), (0, s), (0, i)] σ1 (fun w2 σ2 => P w1 w2 σ2)) := by
  have hh := fun r => h r σ (Or.inl rfl) hI
  have bad : ¬ ((0 ≤ g ∧ g < σ 356 0) ∧ 0 ≤ s ∧ s < 6) → AM2 i_M_table (d + 3) [(2, 356), (0, g), (0, s), (0, i)] σ (fun w2 σ2 => P (-1) w2 σ2) := fun c =>
    e_M_table fun _ _ _ => Mg hI (fun a _ b _ _ _ => br1 (M_in_ok (fun x y => absurd ⟨⟨a, b⟩, x, by omega⟩ c) (fun _ => br0 (s_M_table_9 (hh _))))) (fun _ => br0 (s_M_table_9 (hh _)))
  refine e_X_table fun _ _ hi => Xg hI (fun g0 g5 b hA hB hC => br1 (X_isShelf_ok (fun s0 s6 => br1 ?_) (fun c => br0 (bad (by omega))))) (fun c => br0 (bad (by omega)))
  unfold r32 at hi
  obtain ⟨⟨n1, n2, n3, n4, n5, n6⟩, ⟨m1, m2, m3⟩, ham, hsz, hls⟩ := hA
  obtain ⟨p1, p2, p3, p4, p5⟩ := sh_at s s0 s6
  rw [p1]
  have en : ∀ {K : Int → Mem → Prop} {σ1 : Mem}, (∀ b j, 356 ≤ b → ¬ (b = 365) → σ1 b j = σ b j) → ((σ 375 s < 0 → (0 < σ 376 s → K (-12) σ1) ∧ (¬ 0 < σ 376 s → AW2 i_M_table (d + 3) 38 [] [(0, (2, 356)), (1, (0, g)), (2, (0, s)), (3, (0, i)), (4, (0, 0)), (5, (0, if σ 376 s = 0 ∧ 0 ≤ i then 1 else 0)), (6, (0, 0))] σ1 K)) ∧ (¬ σ 375 s < 0 → K (-12) σ1)) → AM2 i_M_table (d + 3) [(2, 356), (0, g), (0, s), (0, i)] σ1 K := by
    intro K σ1 f k
    have hq := giv_P2 (σ1 := σ1) hI (fun b j q _ => f b j q (by omega))
    have e0 : mG σ1 = σ 356 0 := f _ _ (by omega) (by omega)
    refine e_M_table fun _ _ _ => M_isGiving_ok hq.1 (fun _ _ => br1 (M_in_ok (fun _ _ => br1 (inb_i s0 s6 ?_)) (fun z => absurd ⟨by omega, by omega⟩ z))) (fun z => absurd ⟨g0, by omega⟩ z)
    rw [f 375 s (by omega) (by omega), f 376 s (by omega) (by omega)]
    refine ⟨fun c => inb_i s0 s6 ⟨fun c2 => s_M_table_21 ((k.1 c).1 c2), fun c2 => inb_i s0 s6 ⟨fun c3 => ⟨fun c4 => s_M_table_34 (s_M_table_35 ?_), fun c4 => s_M_table_35 ?_⟩, fun c3 => s_M_table_34 (s_M_table_35 ?_)⟩⟩, fun c => s_M_table_21 (k.2 c)⟩
    · have := (k.1 c).2 c2; rw [if_neg (by omega)] at this; exact this
    · have := (k.1 c).2 c2; rw [if_pos (by omega)] at this; exact this
    · have := (k.1 c).2 c2; rw [if_neg (by omega)] at this; exact this
  refine inb_i s0 s6 (chkK_i p2 ?_)
  rcases hS s s0 s6 with ⟨e1, e2, e3⟩ | ⟨e1, e2, e3, e4, e5⟩ | ⟨e1, e2, e3, e4, e5, e6, e7⟩
  · refine ⟨fun _ => en (fun _ _ _ _ => rfl) ⟨fun _ => ⟨fun z => by omega, fun _ => ?_⟩, fun z => by omega⟩, fun z => absurd e1 z⟩
    rw [if_neg (by omega)]
    have l2 : ∀ (p : Int), 0 ≤ p → p < σ 357 g → ∀ (m : Nat) (t : Int), 0 ≤ t → t + m = σ 358 g → AW2 i_M_table (d + 3) 38 [] [(0, (2, 356)), (1, (0, g)), (2, (0, s)), (3, (0, i)), (4, (0, 0)), (5, (0, 0)), (6, (0, p + 1))] σ (fun w2 σ2 => P 0 w2 σ2) → AW2 i_M_table (d + 3) 46 [] [(0, (2, 356)), (1, (0, g)), (2, (0, s)), (3, (0, i)), (4, (0, 0)), (5, (0, 0)), (6, (0, p)), (7, (0, t))] σ (fun w2 σ2 => P 0 w2 σ2) := by
      intro p p0 p1 m t t0 e k
      refine s_M_table_46 ?_
      (try simp (disch := omega) only [w32_id, w64_id, inb_eq, st_self, st_ne, pt3, ck_g, ck_am, ck_he, ck_sz, ck_ls, ck_lv, ck_pa, ck_kn, sn_am, sn_he, sn_sz, sn_ls, sn_lv, sn_pa, sn_kn, pt_am, pt_he, pt_sz, pt_ls, pt_lv, pt_pa, pt_kn, ck_lr, ck_vr, ck_pr, sn_lr, sn_vr, sn_pr, pt_lr, pt_vr, pt_pr, pt_sh, ck_sh, pt_to, ck_to, sn_to])
      refine ⟨fun _ => ⟨fun _ => s_M_table_107 ?_, fun z => by simp at z⟩, fun _ => s_M_table_107 ?_⟩
      · (try simp (disch := omega) only [w32_id, w64_id, inb_eq, st_self, st_ne, pt3, ck_g, ck_am, ck_he, ck_sz, ck_ls, ck_lv, ck_pa, ck_kn, sn_am, sn_he, sn_sz, sn_ls, sn_lv, sn_pa, sn_kn, pt_am, pt_he, pt_sz, pt_ls, pt_lv, pt_pa, pt_kn, ck_lr, ck_vr, ck_pr, sn_lr, sn_vr, sn_pr, pt_lr, pt_vr, pt_pr, pt_sh, ck_sh, pt_to, ck_to, sn_to]); exact k
      · (try simp (disch := omega) only [w32_id, w64_id, inb_eq, st_self, st_ne, pt3, ck_g, ck_am, ck_he, ck_sz, ck_ls, ck_lv, ck_pa, ck_kn, sn_am, sn_he, sn_sz, sn_ls, sn_lv, sn_pa, sn_kn, pt_am, pt_he, pt_sz, pt_ls, pt_lv, pt_pa, pt_kn, ck_lr, ck_vr, ck_pr, sn_lr, sn_vr, sn_pr, pt_lr, pt_vr, pt_pr, pt_sh, ck_sh, pt_to, ck_to, sn_to]); exact k
    have l1 : ∀ (m : Nat) (p : Int), 0 ≤ p → p + m = σ 357 g → AW2 i_M_table (d + 3) 38 [] [(0, (2, 356)), (1, (0, g)), (2, (0, s)), (3, (0, i)), (4, (0, 0)), (5, (0, 0)), (6, (0, p))] σ (fun w2 σ2 => P 0 w2 σ2) := by
      intro m
      induction m with
      | zero => intro p p0 e; refine s_M_table_38 ?_; (try simp (disch := omega) only [w32_id, w64_id, inb_eq, st_self, st_ne, pt3, ck_g, ck_am, ck_he, ck_sz, ck_ls, ck_lv, ck_pa, ck_kn, sn_am, sn_he, sn_sz, sn_ls, sn_lv, sn_pa, sn_kn, pt_am, pt_he, pt_sz, pt_ls, pt_lv, pt_pa, pt_kn, ck_lr, ck_vr, ck_pr, sn_lr, sn_vr, sn_pr, pt_lr, pt_vr, pt_pr, pt_sh, ck_sh, pt_to, ck_to, sn_to]); exact ⟨fun c => by omega, fun _ => hh _⟩
      | succ m ih => intro p p0 e; refine s_M_table_38 ?_; (try simp (disch := omega) only [w32_id, w64_id, inb_eq, st_self, st_ne, pt3, ck_g, ck_am, ck_he, ck_sz, ck_ls, ck_lv, ck_pa, ck_kn, sn_am, sn_he, sn_sz, sn_ls, sn_lv, sn_pa, sn_kn, pt_am, pt_he, pt_sz, pt_ls, pt_lv, pt_pa, pt_kn, ck_lr, ck_vr, ck_pr, sn_lr, sn_vr, sn_pr, pt_lr, pt_vr, pt_pr, pt_sh, ck_sh, pt_to, ck_to, sn_to]); exact ⟨fun _ => l2 p p0 (by omega) (σ 358 g).toNat 0 (Int.le_refl 0) (by omega) (ih (p + 1) (by omega) (by omega)), fun c => by omega⟩
    exact l1 (σ 357 g).toNat 0 (Int.le_refl 0) (by omega)
  · refine ⟨fun z => by omega, fun _ => chkK_i p2 ⟨fun z => by omega, fun _ => en (fun _ _ _ _ => rfl) ⟨fun z => by omega, fun _ => hh _⟩⟩⟩
  · refine ⟨fun z => by omega, fun _ => chkK_i p2 ⟨fun _ => chkK_i p2 ⟨fun c0 => ?_, fun c0 => en (fun _ _ _ _ => rfl) ⟨fun _ => ⟨fun _ => hh _, fun z => by omega⟩, fun z => by omega⟩⟩, fun z => absurd e1 z⟩⟩
    have ez : σ 376 s = 0 := by omega
    have hN := lex_b (n := σ 358 g) (N := σ 357 g) (by omega) (by omega) (by omega) (by omega)
    (try simp (disch := omega) only [w32_id, w64_id, inb_eq, st_self, st_ne, pt3, ck_g, ck_am, ck_he, ck_sz, ck_ls, ck_lv, ck_pa, ck_kn, sn_am, sn_he, sn_sz, sn_ls, sn_lv, sn_pa, sn_kn, pt_am, pt_he, pt_sz, pt_ls, pt_lv, pt_pa, pt_kn, ck_lr, ck_vr, ck_pr, sn_lr, sn_vr, sn_pr, pt_lr, pt_vr, pt_pr, pt_sh, ck_sh, pt_to, ck_to, sn_to])
    generalize hE : (fun k : Int => σ 378 (60 * s + i + k)) = E
    generalize hok : (fun k : Int => (0 ≤ i ∧ i + k < σ 377 s) ∧ 0 ≤ E k ∧ E k ≤ 60) = ok
    have hEk : ∀ k, E k = σ 378 (60 * s + i + k) := fun k => by rw [← hE]
    have hokk : ∀ k, ok k ↔ ((0 ≤ i ∧ i + k < σ 377 s) ∧ 0 ≤ E k ∧ E k ≤ 60) := fun k => by rw [← hok]
    have hby : ∀ k, 0 ≤ i → 0 ≤ k → i + k < σ 377 s → -128 ≤ E k ∧ E k ≤ 127 := fun k i0 k0 k1 => by
      have := hY s (i + k) s0 s6 ez (by omega) (by omega)
      rw [hEk, show 60 * s + i + k = 60 * s + (i + k) by omega]; exact this
    -- the model, from a state that the class has left
    have mo : ∀ (c : Int) (σ1 : Mem), 0 ≤ c → (∀ k, 0 ≤ k → k < c → ok k) → c ≤ σ 357 g * σ 358 g → (c = σ 357 g * σ 358 g ∨ ¬ ok c) → (∀ b j, 356 ≤ b → σ1 b j = σ b j) →
        (∀ σ2 : Mem, (∀ p t, 0 ≤ p → p < σ 357 g → 0 ≤ t → t < σ 358 g → σ2 365 (56 * g + 8 * p + t) = if p * σ 358 g + t < c then E (p * σ 358 g + t) else σ 365 (56 * g + 8 * p + t)) → (∀ b j, ¬ (b = 365 ∧ 56 * g ≤ j ∧ j < 56 * g + 56) → σ2 b j = σ1 b j) → P c c σ2) →
        AM2 i_M_table (d + 3) [(2, 356), (0, g), (0, s), (0, i)] σ1 (fun w2 σ2 => P c w2 σ2) := by
      intro c σ1 c0 hc1 hc2 hc3 f k
      refine en (fun b j q _ => f b j q) ⟨fun _ => ⟨fun z => by omega, fun _ => ?_⟩, fun z => by omega⟩
      have l2 : ∀ (p : Int), 0 ≤ p → p < σ 357 g → (∀ (q v : Int) (s2 : Mem), 0 ≤ q → q ≤ c → (v = 0 ∧ q = c ∨ v = 1 ∧ q = p * σ 358 g + σ 358 g ∧ 0 ≤ i) → (∀ p' t, 0 ≤ p' → p' < σ 357 g → 0 ≤ t → t < σ 358 g → s2 365 (56 * g + 8 * p' + t) = if p' * σ 358 g + t < q then E (p' * σ 358 g + t) else σ 365 (56 * g + 8 * p' + t)) → (∀ b j, ¬ (b = 365 ∧ 56 * g ≤ j ∧ j < 56 * g + 56) → s2 b j = σ1 b j) → AW2 i_M_table (d + 3) 38 [] [(0, (2, 356)), (1, (0, g)), (2, (0, s)), (3, (0, i)), (4, (0, q)), (5, (0, v)), (6, (0, p + 1))] s2 (fun w2 σ2 => P c w2 σ2)) →
          ∀ (m : Nat) (t q v : Int) (s2 : Mem), 0 ≤ t → t + m = σ 358 g → 0 ≤ q → q ≤ c → (v = 0 ∧ q = c ∨ v = 1 ∧ q = p * σ 358 g + t ∧ 0 ≤ i) → (∀ p' t, 0 ≤ p' → p' < σ 357 g → 0 ≤ t → t < σ 358 g → s2 365 (56 * g + 8 * p' + t) = if p' * σ 358 g + t < q then E (p' * σ 358 g + t) else σ 365 (56 * g + 8 * p' + t)) → (∀ b j, ¬ (b = 365 ∧ 56 * g ≤ j ∧ j < 56 * g + 56) → s2 b j = σ1 b j) →
          AW2 i_M_table (d + 3) 46 [] [(0, (2, 356)), (1, (0, g)), (2, (0, s)), (3, (0, i)), (4, (0, q)), (5, (0, v)), (6, (0, p)), (7, (0, t))] s2 (fun w2 σ2 => P c w2 σ2) := by
        intro p p0 p1 kk m
        induction m with
        | zero =>
          intro t q v s2 t0 e q0 qc hv hx hf
          have e8 : s2 358 g = σ 358 g := by rw [hf _ _ (by omega), f _ _ (by omega)]
          refine s_M_table_46 (inb_i g0 (by omega) ⟨fun z => by omega, fun _ => s_M_table_107 ?_⟩)
          rw [w32_id (by omega) (by omega)]
          exact kk q v s2 q0 qc (by omega) hx hf
        | succ m ih =>
          intro t q v s2 t0 e q0 qc hv hx hf
          have e8 : s2 358 g = σ 358 g := by rw [hf _ _ (by omega), f _ _ (by omega)]
          have e77 : s2 377 s = σ 377 s := by rw [hf _ _ (by omega), f _ _ (by omega)]
          have e378 : ∀ j, s2 378 j = σ 378 j := fun j => by rw [hf _ _ (by omega), f _ _ (by omega)]
          have hle := lex_le (n := σ 358 g) (by omega) p1
          refine s_M_table_46 (inb_i g0 (by omega) ⟨fun _ => ⟨fun v0 => s_M_table_107 ?_, fun v1 => inb_i s0 s6 ?_⟩, fun z => by omega⟩)
          · rw [w32_id (by omega) (by omega)]
            exact kk q v s2 q0 qc (by omega) hx hf
          · obtain ⟨rfl, hq, i0⟩ := (show v = 1 ∧ q = p * σ 358 g + t ∧ 0 ≤ i by omega)
            have ht7 : t + 1 ≤ 8 := by omega
            rw [e77, w32_id (x := σ 377 s - 1) (by omega) (by omega), w32_id (x := σ 377 s - 1 - q) (by omega) (by omega)]
            refine ⟨fun c5 => s_M_table_67 ⟨fun _ => s_M_table_83 (M_in_ok (fun z => by omega) (fun _ => br0 (s_M_table_105 ?_))), fun z => absurd rfl z⟩, fun c5 => s_M_table_67 ⟨fun z => absurd z (by decide), fun _ => ?_⟩⟩
            · rw [w32_id (by omega) (by omega)]
              have hnk : ¬ ok q := fun z => by have := (hokk q).1 z; omega
              have hqc : q = c := by
                by_cases z : q = c
                · exact z
                · exact absurd (hc1 q q0 (by omega)) hnk
              exact ih (t + 1) q 0 s2 (by omega) (by omega) q0 qc (Or.inl ⟨rfl, hqc⟩) hx hf
            · rw [e378, w32_id (x := 60 * s) (by omega) (by omega), w32_id (x := 60 * s + i) (by omega) (by omega), w32_id (x := 60 * s + i + q) (by omega) (by omega), ← hEk]
              have hb := hby q i0 q0 (by omega)
              rw [l2iI_id (by omega) (by omega)]
              refine inb_i (by omega) (by omega) (s_M_table_83 (M_in_ok (fun x x2 => br1 ?_) (fun z => br0 (s_M_table_105 ?_))))
              · rw [w32_id (x := 56 * g) (by omega) (by omega), w32_id (x := 8 * p) (by omega) (by omega), w32_id (x := 56 * g + 8 * p) (by omega) (by omega), w32_id (x := 56 * g + 8 * p + t) (by omega) (by omega), w32_id (x := q + 1) (by omega) (by omega)]
                refine inb_i (by omega) (by omega) (s_M_table_105 ?_)
                rw [w32_id (x := t + 1) (by omega) (by omega)]
                have hqc : q < c := by
                  by_cases z : q = c
                  · rcases hc3 with y | y
                    · omega
                    · exact absurd ((hokk c).2 ⟨⟨i0, by omega⟩, by rw [← z]; exact ⟨x, x2⟩⟩) y
                  · omega
                refine ih (t + 1) (q + 1) 1 _ (by omega) (by omega) (by omega) (by omega) (Or.inr ⟨rfl, by omega, i0⟩) (fun p' t' a0 a1 b0 b1 => ?_) (fun b j z => ?_)
                · by_cases z : p' = p ∧ t' = t
                  · obtain ⟨rfl, rfl⟩ := z
                    rw [st_self, if_pos (by omega), hq]
                  · rw [st_ne (by omega), hx p' t' a0 a1 b0 b1]
                    have : ¬ p' * σ 358 g + t' = q := fun y => z (lex_u (y.trans hq) t0 (by omega) b0 b1)
                    by_cases y : p' * σ 358 g + t' < q
                    · rw [if_pos y, if_pos (by omega)]
                    · rw [if_neg y, if_neg (by omega)]
                · rw [st_ne (by omega)]; exact hf b j z
              · rw [w32_id (by omega) (by omega)]
                have hnk : ¬ ok q := fun y => by have := (hokk q).1 y; omega
                have hqc : q = c := by
                  by_cases z : q = c
                  · exact z
                  · exact absurd (hc1 q q0 (by omega)) hnk
                exact ih (t + 1) q 0 s2 (by omega) (by omega) q0 qc (Or.inl ⟨rfl, hqc⟩) hx hf
      have l1 : ∀ (m : Nat) (p q v : Int) (s2 : Mem), 0 ≤ p → p + m = σ 357 g → 0 ≤ q → q ≤ c → (v = 0 ∧ q = c ∨ v = 1 ∧ q = p * σ 358 g ∧ 0 ≤ i) → (∀ p' t, 0 ≤ p' → p' < σ 357 g → 0 ≤ t → t < σ 358 g → s2 365 (56 * g + 8 * p' + t) = if p' * σ 358 g + t < q then E (p' * σ 358 g + t) else σ 365 (56 * g + 8 * p' + t)) → (∀ b j, ¬ (b = 365 ∧ 56 * g ≤ j ∧ j < 56 * g + 56) → s2 b j = σ1 b j) →
          AW2 i_M_table (d + 3) 38 [] [(0, (2, 356)), (1, (0, g)), (2, (0, s)), (3, (0, i)), (4, (0, q)), (5, (0, v)), (6, (0, p))] s2 (fun w2 σ2 => P c w2 σ2) := by
        intro m
        induction m with
        | zero =>
          intro p q v s2 p0 e q0 qc hv hx hf
          have e7 : s2 357 g = σ 357 g := by rw [hf _ _ (by omega), f _ _ (by omega)]
          refine s_M_table_38 (inb_i g0 (by omega) ⟨fun z => by omega, fun _ => ?_⟩)
          obtain rfl : p = σ 357 g := by omega
          obtain rfl : q = c := by omega
          exact k s2 hx hf
        | succ m ih =>
          intro p q v s2 p0 e q0 qc hv hx hf
          have e7 : s2 357 g = σ 357 g := by rw [hf _ _ (by omega), f _ _ (by omega)]
          refine s_M_table_38 (inb_i g0 (by omega) ⟨fun _ => ?_, fun z => by omega⟩)
          refine l2 p p0 (by omega) (fun q' v' s3 a1 a2 a3 a4 a5 => ih (p + 1) q' v' s3 (by omega) (by omega) a1 a2 ?_ a4 a5) (σ 358 g).toNat 0 q v s2 (Int.le_refl 0) (by omega) q0 qc (by omega) hx hf
          rw [Int.add_mul, Int.one_mul]; exact a3
      refine l1 (σ 357 g).toNat 0 0 _ σ1 (Int.le_refl 0) (by omega) (Int.le_refl 0) c0 ?_ (fun p t a0 a1 b0 b1 => ?_) (fun _ _ _ => rfl)
      · by_cases i0 : 0 ≤ i
        · rw [if_pos ⟨ez, i0⟩]; exact Or.inr ⟨rfl, by omega, i0⟩
        · rw [if_neg (by omega)]
          refine Or.inl ⟨rfl, ?_⟩
          by_cases z : 0 = c
          · exact z
          · have := (hokk 0).1 (hc1 0 (Int.le_refl 0) (by omega)); omega
      · have := Int.mul_nonneg a0 (show 0 ≤ σ 358 g by omega)
        rw [if_neg (by omega), f _ _ (by omega)]
    -- the class
    have fin : ∀ (c : Int) (σ1 : Mem), 0 ≤ c → (∀ k, 0 ≤ k → k < c → ok k) → c ≤ σ 357 g * σ 358 g → (c = σ 357 g * σ 358 g ∨ ¬ ok c) → (∀ p t, 0 ≤ p → p < σ 357 g → 0 ≤ t → t < σ 358 g → σ1 (25 + 43 * g + p) t = if p * σ 358 g + t < c then E (p * σ 358 g + t) else σ (25 + 43 * g + p) t) → (∀ b j, ¬ (25 + 43 * g ≤ b ∧ b ≤ 31 + 43 * g) → σ1 b j = σ b j) →
        AM2 i_X_forgetTable (d + 2) [(2, 0), (2, 4 + 43 * g)] σ1 (fun w1 σ1 => AM2 i_M_table (d + 3) [(2, 356), (0, g), (0, s), (0, i)] σ1 (fun w2 σ2 => P c w2 σ2)) := by
      intro c σ1 c0 hc1 hc2 hc3 hx hf
      refine X_forgetTable_ok g0 (by omega) ?_
      refine mo c _ c0 hc1 hc2 hc3 (fun b j q => by rw [st_ne (by omega), st_ne (by omega), st_ne (by omega), hf b j (by omega)]) (fun σ2 y1 y2 => ?_)
      have te : TE σ σ2 g := by
        refine ⟨⟨?_, ?_, ?_⟩, fun b j h1 h2 h3 h4 h5 => ?_⟩
        · rw [y2 _ _ (by omega), st_ne (by omega), st_ne (by omega), st_self]
        · rw [y2 _ _ (by omega), st_ne (by omega), st_self]
        · rw [y2 _ _ (by omega), st_self]
        · rw [y2 _ _ (by omega), st_ne (by omega), st_ne (by omega), st_ne (by omega), hf _ _ (by omega)]
      refine h _ _ (Or.inr ⟨g0, b, te⟩) (TE_giv hI g0 b te (fun p t p0 p1 t0 t1 => ?_))
      have e7 : σ2 357 g = σ 357 g := te.2 _ _ (by omega) (by omega) (by omega) (by omega) (by omega)
      have e8 : σ2 358 g = σ 358 g := te.2 _ _ (by omega) (by omega) (by omega) (by omega) (by omega)
      rw [e7] at p1
      rw [e8] at t1
      rw [y1 p t p0 p1 t0 t1, y2 _ _ (by omega), st_ne (by omega), st_ne (by omega), st_ne (by omega), hx p t p0 p1 t0 t1]
      have hq := hC p t p0 p1 t0 t1
      by_cases z : p * σ 358 g + t < c
      · have q0 := Int.mul_nonneg p0 (show 0 ≤ σ 358 g by omega)
        rw [if_pos z, if_pos z]
        exact ⟨rfl, ((hokk _).1 (hc1 _ (by omega) z)).2⟩
      · rw [if_neg z, if_neg z]; exact hq
    have lp : ∀ (m : Nat) (p t : Int) (σ1 : Mem), p * σ 358 g + t + m = σ 357 g * σ 358 g → 0 ≤ p → 0 ≤ t → (p < σ 357 g ∧ t < σ 358 g ∨ p = σ 357 g ∧ t = 0) → (∀ k, 0 ≤ k → k < p * σ 358 g + t → ok k) → (∀ p' t', 0 ≤ p' → p' < σ 357 g → 0 ≤ t' → t' < σ 358 g → σ1 (25 + 43 * g + p') t' = if p' * σ 358 g + t' < p * σ 358 g + t then E (p' * σ 358 g + t') else σ (25 + 43 * g + p') t') → (∀ b j, ¬ (25 + 43 * g ≤ b ∧ b ≤ 31 + 43 * g) → σ1 b j = σ b j) →
        AW2 i_X_table (d + 3) 37 [] [(0, (2, 0)), (3, (0, i)), (4, (2, 344 + 2 * s)), (5, (2, 4 + 43 * g)), (6, (0, p * σ 358 g + t)), (7, (0, p * σ 358 g + t))] σ1 (fun w1 σ1 => AM2 i_M_table (d + 3) [(2, 356), (0, g), (0, s), (0, i)] σ1 (fun w2 σ2 => P w1 w2 σ2)) := by
      intro m
      induction m with
      | zero =>
        intro p t σ1 e p0 t0 hpt hok1 hx hf
        have q0 := Int.mul_nonneg p0 (show 0 ≤ σ 358 g by omega)
        refine s_X_table_37 ?_
        rw [hf _ _ (by omega), hf _ _ (by omega), m1, m2]
        (try simp (disch := omega) only [w32_id, w64_id, inb_eq, st_self, st_ne, pt3, ck_g, ck_am, ck_he, ck_sz, ck_ls, ck_lv, ck_pa, ck_kn, sn_am, sn_he, sn_sz, sn_ls, sn_lv, sn_pa, sn_kn, pt_am, pt_he, pt_sz, pt_ls, pt_lv, pt_pa, pt_kn, ck_lr, ck_vr, ck_pr, sn_lr, sn_vr, sn_pr, pt_lr, pt_vr, pt_pr, pt_sh, ck_sh, pt_to, ck_to, sn_to])
        exact ⟨fun z => by omega, fun _ => fin _ σ1 (by omega) hok1 (by omega) (Or.inl (by omega)) hx hf⟩
      | succ m ih =>
        intro p t σ1 e p0 t0 hpt hok1 hx hf
        have q0 := Int.mul_nonneg p0 (show 0 ≤ σ 358 g by omega)
        have hpt2 : p < σ 357 g ∧ t < σ 358 g := by
          rcases hpt with z | ⟨z1, z2⟩
          · exact z
          · subst z1; omega
        have hdm := lex_dm (n := σ 358 g) (p := p) t0 hpt2.2
        have hle := lex_le (n := σ 358 g) (by omega) hpt2.1
        have eA : σ1 (4 + 43 * g) 1 = σ 357 g := by rw [hf _ _ (by omega), m1]
        have eB : σ1 (4 + 43 * g) 0 = σ 358 g := by rw [hf _ _ (by omega), m2]
        have eL : σ1 (344 + 2 * s) 4 = σ 377 s := by rw [hf _ _ (by omega), e5]
        refine s_X_table_37 ?_
        rw [eA, eB]
        (try simp (disch := omega) only [w32_id, w64_id, inb_eq, st_self, st_ne, pt3, ck_g, ck_am, ck_he, ck_sz, ck_ls, ck_lv, ck_pa, ck_kn, sn_am, sn_he, sn_sz, sn_ls, sn_lv, sn_pa, sn_kn, pt_am, pt_he, pt_sz, pt_ls, pt_lv, pt_pa, pt_kn, ck_lr, ck_vr, ck_pr, sn_lr, sn_vr, sn_pr, pt_lr, pt_vr, pt_pr, pt_sh, ck_sh, pt_to, ck_to, sn_to])
        generalize hk : p * σ 358 g + t = k at *
        have stop : ¬ ok k → AM2 i_X_forgetTable (d + 2) [(2, 0), (2, 4 + 43 * g)] σ1 (fun w1 σ1 => AM2 i_M_table (d + 3) [(2, 356), (0, g), (0, s), (0, i)] σ1 (fun w2 σ2 => P k w2 σ2)) := fun z => fin k σ1 (by omega) hok1 (by omega) (Or.inr z) hx hf
        refine ⟨fun _ => chkK_i p2 (e_Shelf_hasRoom fun _ _ => ⟨fun c => br0 (stop (fun z => by have := (hokk k).1 z; omega)), fun c => ⟨fun c2 => by omega, fun _ => chkK_i p2 ?_⟩⟩), fun z => by omega⟩
        rw [eL, w64_id (by omega) (by omega)]
        refine ⟨fun c2 => br0 (stop (fun z => by have := (hokk k).1 z; omega)), fun c2 => br1 (chkK_i p2 ?_)⟩
        have hik : i + k < 60 := by omega
        have ec : σ1 (344 + 1 + 2 * s) (i + k) = E k := by
          rw [hf _ _ (by omega), hEk, e7 (i + k) (by omega) (by omega)]; congr 1; omega
        have i0 : 0 ≤ i := by
          by_cases z : k = 0
          · omega
          · exact ((hokk 0).1 (hok1 0 (Int.le_refl 0) (by omega))).1.1
        have hb := hby k (by omega) (by omega) (by omega)
        rw [p3, p5, l2iI_id (by omega) (by omega)]
        refine chkK_i p4 (inb_i (by omega) (by omega) (e_Giving_isPart fun _ => ?_))
        rw [ec]
        refine ⟨fun c => br0 (stop (fun z => by have := (hokk k).1 z; omega)), fun c => ⟨fun c3 => br0 (stop (fun z => by have := (hokk k).1 z; omega)), fun c3 => br1 ?_⟩⟩
        rw [eB, divI_nn (by omega) (by omega) (by omega) (by omega), remI_nn (by omega) (by omega) (by omega) (by omega), hdm.1, hdm.2, l2iI_id (by omega) (by omega)]
        (try simp (disch := omega) only [w32_id, w64_id, inb_eq, st_self, st_ne, pt3, ck_g, ck_am, ck_he, ck_sz, ck_ls, ck_lv, ck_pa, ck_kn, sn_am, sn_he, sn_sz, sn_ls, sn_lv, sn_pa, sn_kn, pt_am, pt_he, pt_sz, pt_ls, pt_lv, pt_pa, pt_kn, ck_lr, ck_vr, ck_pr, sn_lr, sn_vr, sn_pr, pt_lr, pt_vr, pt_pr, pt_sh, ck_sh, pt_to, ck_to, sn_to])
        refine nzP_i (by omega) (nzP_i (by omega) (chkK_i p2 (chkK_i p4 ?_)))
        have hokk1 : ∀ j, 0 ≤ j → j < k + 1 → ok j := fun j j0 j1 => by
          by_cases z : j = k
          · rw [z]; exact (hokk k).2 ⟨⟨by omega, by omega⟩, by omega, by omega⟩
          · exact hok1 j j0 (by omega)
        have hx1 : ∀ p' t', 0 ≤ p' → p' < σ 357 g → 0 ≤ t' → t' < σ 358 g → st σ1 (25 + 43 * g + p) t (E k) (25 + 43 * g + p') t' = if p' * σ 358 g + t' < k + 1 then E (p' * σ 358 g + t') else σ (25 + 43 * g + p') t' := fun p' t' a0 a1 b0 b1 => by
          by_cases z : p' = p ∧ t' = t
          · obtain ⟨rfl, rfl⟩ := z
            rw [st_self, if_pos (by omega), hk]
          · rw [st_ne (by omega), hx p' t' a0 a1 b0 b1]
            have : ¬ p' * σ 358 g + t' = k := fun y => z (lex_u (y.trans hk.symm) t0 hpt2.2 b0 b1)
            by_cases y : p' * σ 358 g + t' < k
            · rw [if_pos y, if_pos (by omega)]
            · rw [if_neg y, if_neg (by omega)]
        have hf1 : ∀ b j, ¬ (25 + 43 * g ≤ b ∧ b ≤ 31 + 43 * g) → st σ1 (25 + 43 * g + p) t (E k) b j = σ b j := fun b j z => by rw [st_ne (by omega), hf b j z]
        by_cases z : t + 1 < σ 358 g
        · have := ih p (t + 1) (st σ1 (25 + 43 * g + p) t (E k)) (by omega) p0 (by omega) (Or.inl ⟨hpt2.1, z⟩)
          rw [show p * σ 358 g + (t + 1) = k + 1 by omega] at this
          exact this hokk1 hx1 hf1
        · have e1 : (p + 1) * σ 358 g + 0 = k + 1 := by rw [Int.add_mul, Int.one_mul]; omega
          have := ih (p + 1) 0 (st σ1 (25 + 43 * g + p) t (E k)) (by omega) (by omega) (Int.le_refl 0) (by omega)
          rw [e1] at this
          exact this hokk1 hx1 hf1
    have hl := lp (σ 357 g * σ 358 g).toNat 0 0 σ (by omega) (Int.le_refl 0) (Int.le_refl 0) (by omega) (fun k a b => by omega) (fun p' t' a0 _ b0 _ => by
      have := Int.mul_nonneg a0 (show 0 ≤ σ 358 g by omega)
      rw [if_neg (by omega)]) (fun _ _ _ => rfl)
    rw [show (0 : Int) * σ 358 g + 0 = 0 by omega] at hl
    exact hl
