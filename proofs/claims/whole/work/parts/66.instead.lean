-- ===== a giving as another one
/-- the class's cells of a slot that are copied -/
def cpC (c j : Int) : Prop := (c = 5 ∧ 0 ≤ j ∧ j < 8) ∨ ((c = 6 ∨ c = 7) ∧ 0 ≤ j ∧ j < 7) ∨ ((9 ≤ c ∧ c ≤ 15 ∨ 17 ≤ c ∧ c ≤ 23 ∨ 25 ≤ c ∧ c ≤ 31) ∧ 0 ≤ j ∧ j < 8)
def CPX (s s2 : Mem) (a b : Int) : Prop := (s2 (4 + 43 * b) 0 = s (4 + 43 * a) 0 ∧ s2 (4 + 43 * b) 1 = s (4 + 43 * a) 1 ∧ s2 (4 + 43 * b) 2 = s (4 + 43 * a) 2) ∧ ∀ c j, cpC c j → s2 (c + 43 * b) j = s (c + 43 * a) j
theorem X_become_ok {d : Nat} {K : Int → Mem → Prop} {s : Mem} {a b : Int} (a0 : 0 ≤ a) (a5 : a ≤ 5) (b0 : 0 ≤ b) (b5 : b ≤ 5) (hab : ¬ a = b) (k : ∀ s2 : Mem, CPX s s2 a b → (∀ k, 0 ≤ k → k < 7 → s2 (33 + 43 * b + 2 * k) 2 = 0) → s2 (4 + 43 * b) 10 = 0 → (∀ x j, ¬ (4 + 43 * b ≤ x ∧ x ≤ 31 + 43 * b) → ¬ (33 + 43 * b ≤ x ∧ x < 47 + 43 * b ∧ j = 2) → s2 x j = s x j) → K 0 s2) : AM2 i_Giving_become (d + 2) [(2, 4 + 43 * b), (2, 4 + 43 * a)] s K := by
  have cka := fun {P : Prop} => ck_g (P := P) a0 a5
  have ckb := fun {P : Prop} => ck_g (P := P) b0 b5
  have lp : ∀ (q : Nat) (p : Int) (s1 : Mem), 0 ≤ p → p + q = 7 → (s1 (4 + 43 * b) 0 = s (4 + 43 * a) 0 ∧ s1 (4 + 43 * b) 1 = s (4 + 43 * a) 1 ∧ s1 (4 + 43 * b) 2 = s (4 + 43 * a) 2) → (∀ c j, cpC c j → (c ≤ 7 ∨ (9 ≤ c ∧ c < 9 + p) ∨ (17 ≤ c ∧ c < 17 + p) ∨ (25 ≤ c ∧ c < 25 + p)) → s1 (c + 43 * b) j = s (c + 43 * a) j) → (∀ x j, ¬ (4 + 43 * b ≤ x ∧ x ≤ 31 + 43 * b) → s1 x j = s x j) → AW2 i_Giving_become (d + 2) 38 [] [(0, (2, 4 + 43 * b)), (1, (2, 4 + 43 * a)), (2, (0, p))] s1 K := by
    intro q
    induction q with
    | zero =>
      intro p s1 p0 e h0 hc f
      refine s_Giving_become_38 (brF_i (by omega) ?_)
      rw [ckb]
      refine X_forgetAll_ok b0 b5 (fun s2 y1 y2 y3 => k s2 ⟨⟨by rw [y3 _ _ (by omega) (by omega)]; exact h0.1, by rw [y3 _ _ (by omega) (by omega)]; exact h0.2.1, by rw [y3 _ _ (by omega) (by omega)]; exact h0.2.2⟩, fun c j z => ?_⟩ y1 y2 (fun x j z1 z2 => by rw [y3 x j z2 (by omega)]; exact f x j z1))
      have z2 := z
      unfold cpC at z2
      rw [y3 _ _ (by omega) (by omega)]; exact hc c j z (by omega)
    | succ q ih =>
      intro p s1 p0 e h0 hc f
      refine s_Giving_become_38 (brT_i (by omega) ?_)
      (try simp (disch := omega) only [w32_id, w64_id, inb_eq, st_self, st_ne, pt3, ck_g, ck_am, ck_he, ck_sz, ck_ls, ck_lv, ck_pa, ck_kn, sn_am, sn_he, sn_sz, sn_ls, sn_lv, sn_pa, sn_kn, pt_am, pt_he, pt_sz, pt_ls, pt_lv, pt_pa, pt_kn, ck_lr, ck_vr, ck_pr, sn_lr, sn_vr, sn_pr, pt_lr, pt_vr, pt_pr, pt_sh, ck_sh, pt_to, ck_to, sn_to, cpP_eq])
      refine ih (p + 1) _ (by omega) (by omega) ?_ (fun c j z1 z2 => ?_) (fun x j z => ?_)
      · rw [cpy_at, if_neg (by omega), cpy_at, if_neg (by omega), cpy_at, if_neg (by omega), cpy_at, if_neg (by omega), cpy_at, if_neg (by omega), cpy_at, if_neg (by omega), cpy_at, if_neg (by omega), cpy_at, if_neg (by omega), cpy_at, if_neg (by omega)]
        exact h0
      · have z3 := z1
        unfold cpC at z3
        by_cases w3 : c = 25 + p
        · rw [cpy_at, if_pos (by omega), show (0 : Int) + (j - 0) = j by omega, cpy_at, if_neg (by omega), cpy_at, if_neg (by omega), f _ _ (by omega)]
          congr 1; omega
        · rw [cpy_at, if_neg (by omega)]
          by_cases w2 : c = 17 + p
          · rw [cpy_at, if_pos (by omega), show (0 : Int) + (j - 0) = j by omega, cpy_at, if_neg (by omega), f _ _ (by omega)]
            congr 1; omega
          · rw [cpy_at, if_neg (by omega)]
            by_cases w1 : c = 9 + p
            · rw [cpy_at, if_pos (by omega), show (0 : Int) + (j - 0) = j by omega, f _ _ (by omega)]
              congr 1; omega
            · rw [cpy_at, if_neg (by omega)]
              exact hc c j z1 (by omega)
      · rw [cpy_at, if_neg (by omega), cpy_at, if_neg (by omega), cpy_at, if_neg (by omega)]; exact f x j z
  refine e_Giving_become ?_
  (try simp (disch := omega) only [w32_id, w64_id, inb_eq, st_self, st_ne, pt3, ck_g, ck_am, ck_he, ck_sz, ck_ls, ck_lv, ck_pa, ck_kn, sn_am, sn_he, sn_sz, sn_ls, sn_lv, sn_pa, sn_kn, pt_am, pt_he, pt_sz, pt_ls, pt_lv, pt_pa, pt_kn, ck_lr, ck_vr, ck_pr, sn_lr, sn_vr, sn_pr, pt_lr, pt_vr, pt_pr, pt_sh, ck_sh, pt_to, ck_to, sn_to, cpP_eq])
  refine lp 7 0 _ (Int.le_refl 0) rfl ?_ (fun c j z1 z2 => ?_) (fun x j z => ?_)
  · rw [cpy_at, if_neg (by omega), cpy_at, if_neg (by omega), cpy_at, if_neg (by omega), cpy_at, if_neg (by omega), cpy_at, if_neg (by omega), cpy_at, if_neg (by omega), cpy_at, if_neg (by omega), cpy_at, if_neg (by omega), cpy_at, if_neg (by omega)]
    refine ⟨?_, ?_, ?_⟩
    · rw [st_ne (by omega), st_ne (by omega), st_self]
    · rw [st_ne (by omega), st_self]
    · rw [st_self]
  · unfold cpC at z1
    by_cases w3 : c = 7
    · rw [cpy_at, if_pos (by omega), show (0 : Int) + (j - 0) = j by omega, cpy_at, if_neg (by omega), cpy_at, if_neg (by omega), st_ne (by omega), st_ne (by omega), st_ne (by omega), w3]
    · rw [cpy_at, if_neg (by omega)]
      by_cases w2 : c = 6
      · rw [cpy_at, if_pos (by omega), show (0 : Int) + (j - 0) = j by omega, cpy_at, if_neg (by omega), st_ne (by omega), st_ne (by omega), st_ne (by omega), w2]
      · rw [cpy_at, if_neg (by omega)]
        rw [cpy_at, if_pos (by omega), show (0 : Int) + (j - 0) = j by omega, st_ne (by omega), st_ne (by omega), st_ne (by omega), show c = 5 by omega]
  · rw [cpy_at, if_neg (by omega), cpy_at, if_neg (by omega), cpy_at, if_neg (by omega), st_ne (by omega), st_ne (by omega), st_ne (by omega)]
def CPM (s s2 : Mem) (a b : Int) : Prop := (s2 357 b = s 357 a ∧ s2 358 b = s 358 a ∧ s2 359 b = s 359 a) ∧ (∀ t, 0 ≤ t → t < 8 → s2 360 (8 * b + t) = s 360 (8 * a + t)) ∧ (∀ p, 0 ≤ p → p < 7 → s2 361 (7 * b + p) = s 361 (7 * a + p) ∧ s2 362 (7 * b + p) = s 362 (7 * a + p)) ∧ ∀ i, 0 ≤ i → i < 56 → s2 363 (56 * b + i) = s 363 (56 * a + i) ∧ s2 364 (56 * b + i) = s 364 (56 * a + i) ∧ s2 365 (56 * b + i) = s 365 (56 * a + i)
def fCM (g b j : Int) : Prop := ((b = 357 ∨ b = 358 ∨ b = 359) ∧ j = g) ∨ (b = 360 ∧ 8 * g ≤ j ∧ j < 8 * g + 8) ∨ ((b = 361 ∨ b = 362) ∧ 7 * g ≤ j ∧ j < 7 * g + 7) ∨ ((b = 363 ∨ b = 364 ∨ b = 365) ∧ 56 * g ≤ j ∧ j < 56 * g + 56)
theorem M_copies_ok {d : Nat} {K : Int → Mem → Prop} {s : Mem} {a b : Int} (a0 : 0 ≤ a) (a5 : a ≤ 5) (b0 : 0 ≤ b) (b5 : b ≤ 5) (hab : ¬ a = b) (k : ∀ s2 : Mem, CPM s s2 a b → (∀ x j, ¬ fCM b x j → s2 x j = s x j) → K 0 s2) : AM2 i_M_copies (d + 1) [(2, 356), (0, a), (0, b)] s K := by
  have l88 : ∀ (q : Nat) (i : Int) (s1 : Mem), 0 ≤ i → i + q = 56 → (s1 357 b = s 357 a ∧ s1 358 b = s 358 a ∧ s1 359 b = s 359 a) → (∀ t, 0 ≤ t → t < 8 → s1 360 (8 * b + t) = s 360 (8 * a + t)) → (∀ p, 0 ≤ p → p < 7 → s1 361 (7 * b + p) = s 361 (7 * a + p) ∧ s1 362 (7 * b + p) = s 362 (7 * a + p)) → (∀ j, 0 ≤ j → j < i → s1 363 (56 * b + j) = s 363 (56 * a + j) ∧ s1 364 (56 * b + j) = s 364 (56 * a + j) ∧ s1 365 (56 * b + j) = s 365 (56 * a + j)) → (∀ x j, ¬ fCM b x j → s1 x j = s x j) → AW2 i_M_copies (d + 1) 88 [] [(0, (2, 356)), (1, (0, a)), (2, (0, b)), (3, (0, i))] s1 K := by
    intro q
    induction q with
    | zero => intro i s1 i0 e h0 h1 h2 h3 f; exact s_M_copies_88 (brF_i (by omega) (k s1 ⟨h0, h1, h2, fun j u v => h3 j u (by omega)⟩ f))
    | succ q ih =>
      intro i s1 i0 e h0 h1 h2 h3 f
      refine s_M_copies_88 (brT_i (by omega) ?_)
      have g3 := f 363 (56 * a + i) (by unfold fCM; omega)
      have g4 := f 364 (56 * a + i) (by unfold fCM; omega)
      have g5 := f 365 (56 * a + i) (by unfold fCM; omega)
      (try simp (disch := omega) only [w32_id, w64_id, inb_eq, st_self, st_ne, pt3, ck_g, ck_am, ck_he, ck_sz, ck_ls, ck_lv, ck_pa, ck_kn, sn_am, sn_he, sn_sz, sn_ls, sn_lv, sn_pa, sn_kn, pt_am, pt_he, pt_sz, pt_ls, pt_lv, pt_pa, pt_kn, ck_lr, ck_vr, ck_pr, sn_lr, sn_vr, sn_pr, pt_lr, pt_vr, pt_pr, pt_sh, ck_sh, pt_to, ck_to, sn_to])
      refine ih (i + 1) _ (by omega) (by omega) ?_ (fun t u v => ?_) (fun p u v => ?_) (fun j u v => ?_) (fun x j z => ?_)
      · rw [st_ne (by omega), st_ne (by omega), st_ne (by omega), st_ne (by omega), st_ne (by omega), st_ne (by omega), st_ne (by omega), st_ne (by omega), st_ne (by omega)]; exact h0
      · rw [st_ne (by omega), st_ne (by omega), st_ne (by omega)]; exact h1 t u v
      · rw [st_ne (by omega), st_ne (by omega), st_ne (by omega), st_ne (by omega), st_ne (by omega), st_ne (by omega)]; exact h2 p u v
      · by_cases z : j = i
        · rw [z]
          refine ⟨?_, ?_, ?_⟩
          · rw [st_ne (by omega), st_ne (by omega), st_self, g3]
          · rw [st_ne (by omega), st_self, g4]
          · rw [st_self, g5]
        · rw [st_ne (by omega), st_ne (by omega), st_ne (by omega), st_ne (by omega), st_ne (by omega), st_ne (by omega), st_ne (by omega), st_ne (by omega), st_ne (by omega)]; exact h3 j u (by omega)
      · have z2 := z
        unfold fCM at z2
        rw [st_ne (by omega), st_ne (by omega), st_ne (by omega)]; exact f x j z
  have l49 : ∀ (q : Nat) (i : Int) (s1 : Mem), 0 ≤ i → i + q = 7 → (s1 357 b = s 357 a ∧ s1 358 b = s 358 a ∧ s1 359 b = s 359 a) → (∀ t, 0 ≤ t → t < 8 → s1 360 (8 * b + t) = s 360 (8 * a + t)) → (∀ p, 0 ≤ p → p < i → s1 361 (7 * b + p) = s 361 (7 * a + p) ∧ s1 362 (7 * b + p) = s 362 (7 * a + p)) → (∀ x j, ¬ fCM b x j → s1 x j = s x j) → AW2 i_M_copies (d + 1) 49 [] [(0, (2, 356)), (1, (0, a)), (2, (0, b)), (3, (0, i))] s1 K := by
    intro q
    induction q with
    | zero => intro i s1 i0 e h0 h1 h2 f; exact s_M_copies_49 (brF_i (by omega) (l88 56 0 s1 (Int.le_refl 0) rfl h0 h1 (fun p u v => h2 p u (by omega)) (fun j u v => by omega) f))
    | succ q ih =>
      intro i s1 i0 e h0 h1 h2 f
      refine s_M_copies_49 (brT_i (by omega) ?_)
      have g3 := f 361 (7 * a + i) (by unfold fCM; omega)
      have g4 := f 362 (7 * a + i) (by unfold fCM; omega)
      (try simp (disch := omega) only [w32_id, w64_id, inb_eq, st_self, st_ne, pt3, ck_g, ck_am, ck_he, ck_sz, ck_ls, ck_lv, ck_pa, ck_kn, sn_am, sn_he, sn_sz, sn_ls, sn_lv, sn_pa, sn_kn, pt_am, pt_he, pt_sz, pt_ls, pt_lv, pt_pa, pt_kn, ck_lr, ck_vr, ck_pr, sn_lr, sn_vr, sn_pr, pt_lr, pt_vr, pt_pr, pt_sh, ck_sh, pt_to, ck_to, sn_to])
      refine ih (i + 1) _ (by omega) (by omega) ?_ (fun t u v => ?_) (fun p u v => ?_) (fun x j z => ?_)
      · rw [st_ne (by omega), st_ne (by omega), st_ne (by omega), st_ne (by omega), st_ne (by omega), st_ne (by omega)]; exact h0
      · rw [st_ne (by omega), st_ne (by omega)]; exact h1 t u v
      · by_cases z : p = i
        · rw [z]
          refine ⟨?_, ?_⟩
          · rw [st_ne (by omega), st_self, g3]
          · rw [st_self, g4]
        · rw [st_ne (by omega), st_ne (by omega), st_ne (by omega), st_ne (by omega)]; exact h2 p u (by omega)
      · have z2 := z
        unfold fCM at z2
        rw [st_ne (by omega), st_ne (by omega)]; exact f x j z
  have l26 : ∀ (q : Nat) (i : Int) (s1 : Mem), 0 ≤ i → i + q = 8 → (s1 357 b = s 357 a ∧ s1 358 b = s 358 a ∧ s1 359 b = s 359 a) → (∀ t, 0 ≤ t → t < i → s1 360 (8 * b + t) = s 360 (8 * a + t)) → (∀ x j, ¬ fCM b x j → s1 x j = s x j) → AW2 i_M_copies (d + 1) 26 [] [(0, (2, 356)), (1, (0, a)), (2, (0, b)), (3, (0, i))] s1 K := by
    intro q
    induction q with
    | zero => intro i s1 i0 e h0 h1 f; exact s_M_copies_26 (brF_i (by omega) (l49 7 0 s1 (Int.le_refl 0) rfl h0 (fun t u v => h1 t u (by omega)) (fun p u v => by omega) f))
    | succ q ih =>
      intro i s1 i0 e h0 h1 f
      refine s_M_copies_26 (brT_i (by omega) ?_)
      have g3 := f 360 (8 * a + i) (by unfold fCM; omega)
      (try simp (disch := omega) only [w32_id, w64_id, inb_eq, st_self, st_ne, pt3, ck_g, ck_am, ck_he, ck_sz, ck_ls, ck_lv, ck_pa, ck_kn, sn_am, sn_he, sn_sz, sn_ls, sn_lv, sn_pa, sn_kn, pt_am, pt_he, pt_sz, pt_ls, pt_lv, pt_pa, pt_kn, ck_lr, ck_vr, ck_pr, sn_lr, sn_vr, sn_pr, pt_lr, pt_vr, pt_pr, pt_sh, ck_sh, pt_to, ck_to, sn_to])
      refine ih (i + 1) _ (by omega) (by omega) ?_ (fun t u v => ?_) (fun x j z => ?_)
      · rw [st_ne (by omega), st_ne (by omega), st_ne (by omega)]; exact h0
      · by_cases z : t = i
        · rw [z, st_self, g3]
        · rw [st_ne (by omega)]; exact h1 t u (by omega)
      · have z2 := z
        unfold fCM at z2
        rw [st_ne (by omega)]; exact f x j z
  refine e_M_copies fun _ _ => ?_
  (try simp (disch := omega) only [w32_id, w64_id, inb_eq, st_self, st_ne, pt3, ck_g, ck_am, ck_he, ck_sz, ck_ls, ck_lv, ck_pa, ck_kn, sn_am, sn_he, sn_sz, sn_ls, sn_lv, sn_pa, sn_kn, pt_am, pt_he, pt_sz, pt_ls, pt_lv, pt_pa, pt_kn, ck_lr, ck_vr, ck_pr, sn_lr, sn_vr, sn_pr, pt_lr, pt_vr, pt_pr, pt_sh, ck_sh, pt_to, ck_to, sn_to])
  refine l26 8 0 _ (Int.le_refl 0) rfl ⟨?_, ?_, ?_⟩ (fun t u v => by omega) (fun x j z => ?_)
  · rw [st_ne (by omega), st_ne (by omega), st_self]
  · rw [st_ne (by omega), st_self]
  · rw [st_self]
  · unfold fCM at z
    rw [st_ne (by omega), st_ne (by omega), st_ne (by omega)]
