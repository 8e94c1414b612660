/-- the class's cells of a list -/
def fLX (g p b j : Int) : Prop := (b = 1 ∧ j = 2) ∨ (b = 6 + 43 * g ∧ j = p) ∨ (b = 7 + 43 * g ∧ j = p) ∨ b = 9 + 43 * g + p ∨ b = 17 + 43 * g + p
theorem X_plist {d : Nat} {K : Int → Mem → Prop} {T : Int → Int} {L g p m : Int} (g0 : 0 ≤ g) (g5 : g ≤ 5) (p0 : 0 ≤ p) (p7 : p < 7) (hm : 1 ≤ m ∧ m ≤ 8) : ∀ (f : Nat) (q l z : Int) (ls lv : Int → Int) (s : Mem), (f : Int) + z = 8 → 0 ≤ z → TX s T L → s 1 2 = q → 0 ≤ q → q ≤ L → 0 ≤ l → l ≤ z → s (4 + 43 * g) 0 = m → s (7 + 43 * g) p = z → (∀ i, 0 ≤ i → i < z → s (9 + 43 * g + p) i = ls i) → (∀ t, 0 ≤ t → t < 8 → s (17 + 43 * g + p) t = lv t) →
    (∀ s2 : Mem, (plL T L m f q l z ls lv).1 = true → s2 1 2 = (plL T L m f q l z ls lv).2.1 → s2 (7 + 43 * g) p = (plL T L m f q l z ls lv).2.2.1 → (∀ i, 0 ≤ i → i < (plL T L m f q l z ls lv).2.2.1 → s2 (9 + 43 * g + p) i = (plL T L m f q l z ls lv).2.2.2.1 i) → (∀ t, 0 ≤ t → t < 8 → s2 (17 + 43 * g + p) t = (plL T L m f q l z ls lv).2.2.2.2 t) → (∀ b j, ¬ (b = 1 ∧ j = 2) → ¬ (b = 7 + 43 * g ∧ j = p) → ¬ b = 9 + 43 * g + p → ¬ b = 17 + 43 * g + p → s2 b j = s b j) → K 1 s2) →
    (∀ s2 : Mem, (plL T L m f q l z ls lv).1 = false → s2 1 2 = (plL T L m f q l z ls lv).2.1 → (∀ b j, ¬ (b = 1 ∧ j = 2) → ¬ (b = 7 + 43 * g ∧ j = p) → ¬ b = 9 + 43 * g + p → ¬ b = 17 + 43 * g + p → s2 b j = s b j) → K 0 s2) →
    AW2 i_Tape_readList (d + 2) 30 [] [(0, (2, 1)), (1, (2, 4 + 43 * g)), (2, (0, p)), (3, (0, l)), (4, (0, z))] s K := by
  have ck := fun {P : Prop} => ck_g (P := P) g0 g5
  intro f
  induction f with
  | zero =>
    intro q l z ls lv s e z0 hT hq q0 q1 l0 l1 em hz hls hlv k1 k0
    exact s_Tape_readList_30 (brF_i (by omega) (k0 s rfl hq (fun _ _ _ _ _ _ => rfl)))
  | succ f ih =>
    intro q l z ls lv s e z0 hT hq q0 q1 l0 l1 em hz hls hlv k1 k0
    have hL := hT.2.1
    have hr := hre_r (L := L) (fun i a b => (hT.2.2 i a b).2) q0
    refine s_Tape_readList_30 (brT_i (by omega) (X_next_ok hT hq q0 ?_))
    rw [w32_id (x := hre T L q - 97) (by omega) (by omega)]
    generalize ht : hre T L q - 97 = t at *
    refine X_isThing_ok g0 g5 (fun a b => br1 ?_) (fun c => br0 (k0 s ?_ ?_ (fun _ _ _ _ _ _ => rfl)))
    · have hlt := hlv t a (by omega)
      rw [ck, pt_lv g0 g5, sn_lv g0 g5, ck_lv g0 g5, pt_vr g0 g5 p0 p7, ck_vr g0 g5 p0 p7, sn_vr g0 g5 p0 p7, hlt]
      refine inb_i p0 p7 (inb_i a (by omega) ⟨fun c => ?_, fun c => k0 s ?_ ?_ (fun _ _ _ _ _ _ => rfl)⟩)
      · have hqL : q < L := hre_in (c := hre T L q) rfl (by omega)
        have hc : 0 ≤ hre T L q - 97 ∧ hre T L q - 97 < m ∧ lv (hre T L q - 97) < 0 := by rw [ht]; omega
        rw [plL_T hc, ht] at k1 k0
        rw [ck]
        refine X_append_ok g0 g5 p0 p7 a (by omega) hz z0 (by omega) ?_
        generalize hs1 : st (st (st s (9 + 43 * g + p) z t) (17 + 43 * g + p) t l) (7 + 43 * g) p (z + 1) = s1
        have f1 : ∀ b j, ¬ (b = 7 + 43 * g ∧ j = p) → ¬ (b = 9 + 43 * g + p ∧ j = z) → ¬ (b = 17 + 43 * g + p ∧ j = t) → s1 b j = s b j := fun b j y1 y2 y3 => by rw [← hs1, st_ne y1, st_ne y3, st_ne y2]
        have hz1 : s1 (7 + 43 * g) p = z + 1 := by rw [← hs1, st_self]
        have hls1 : ∀ i, 0 ≤ i → i < z + 1 → s1 (9 + 43 * g + p) i = up ls z t i := fun i a1 b1 => by
          by_cases y : i = z
          · rw [y, up_s, ← hs1, st_ne (by omega), st_ne (by omega), st_self]
          · rw [up_n y, f1 _ _ (by omega) (by omega) (by omega)]; exact hls i a1 (by omega)
        have hlv1 : ∀ u, 0 ≤ u → u < 8 → s1 (17 + 43 * g + p) u = up lv t l u := fun u a1 b1 => by
          by_cases y : u = t
          · rw [y, up_s, ← hs1, st_ne (by omega), st_self]
          · rw [up_n y, f1 _ _ (by omega) (by omega) (by omega)]; exact hlv u a1 b1
        rw [f1 1 2 (by omega) (by omega) (by omega), hq, w32_id (x := q + 1) (by omega) (by omega)]
        have hT2 : TX (st s1 1 2 (q + 1)) T L := TX_fr hT (fun b j y => by rw [st_ne (by omega), f1 b j (by omega) (by omega) (by omega)])
        have hr2 := hre_r (p := q + 1) (L := L) (fun i a b => (hT.2.2 i a b).2) (by omega)
        have nxt : ∀ l', (l' = l ∨ l' = l + 1) → q + 1 < L → (∀ s2 : Mem, (plL T L m f (q + 1 + 1) l' (z + 1) (up ls z t) (up lv t l)).1 = true → s2 1 2 = (plL T L m f (q + 1 + 1) l' (z + 1) (up ls z t) (up lv t l)).2.1 → s2 (7 + 43 * g) p = (plL T L m f (q + 1 + 1) l' (z + 1) (up ls z t) (up lv t l)).2.2.1 → (∀ i, 0 ≤ i → i < (plL T L m f (q + 1 + 1) l' (z + 1) (up ls z t) (up lv t l)).2.2.1 → s2 (9 + 43 * g + p) i = (plL T L m f (q + 1 + 1) l' (z + 1) (up ls z t) (up lv t l)).2.2.2.1 i) → (∀ u, 0 ≤ u → u < 8 → s2 (17 + 43 * g + p) u = (plL T L m f (q + 1 + 1) l' (z + 1) (up ls z t) (up lv t l)).2.2.2.2 u) → (∀ b j, ¬ (b = 1 ∧ j = 2) → ¬ (b = 7 + 43 * g ∧ j = p) → ¬ b = 9 + 43 * g + p → ¬ b = 17 + 43 * g + p → s2 b j = s b j) → K 1 s2) → (∀ s2 : Mem, (plL T L m f (q + 1 + 1) l' (z + 1) (up ls z t) (up lv t l)).1 = false → s2 1 2 = (plL T L m f (q + 1 + 1) l' (z + 1) (up ls z t) (up lv t l)).2.1 → (∀ b j, ¬ (b = 1 ∧ j = 2) → ¬ (b = 7 + 43 * g ∧ j = p) → ¬ b = 9 + 43 * g + p → ¬ b = 17 + 43 * g + p → s2 b j = s b j) → K 0 s2) → AW2 i_Tape_readList (d + 2) 30 [] [(0, (2, 1)), (1, (2, 4 + 43 * g)), (2, (0, p)), (3, (0, l')), (4, (0, w32 (z + 1)))] (st (st s1 1 2 (q + 1)) 1 2 (w32 ((st s1 1 2 (q + 1)) 1 2 + 1))) K := by
          intro l' hl' hqL2 c1 c0
          rw [st_self, w32_id (x := z + 1) (by omega) (by omega), w32_id (x := q + 1 + 1) (by omega) (by omega)]
          exact ih (q + 1 + 1) l' (z + 1) (up ls z t) (up lv t l) _ (by omega) (by omega) (TX_fr hT2 (fun b j y => by rw [st_ne (by omega)])) (st_self _ _ _ _) (by omega) (by omega) (by omega) (by omega) (by rw [st_ne (by omega), st_ne (by omega), f1 _ _ (by omega) (by omega) (by omega)]; exact em) (by rw [st_ne (by omega), st_ne (by omega)]; exact hz1) (fun i a1 b1 => by rw [st_ne (by omega), st_ne (by omega)]; exact hls1 i a1 b1) (fun u a1 b1 => by rw [st_ne (by omega), st_ne (by omega)]; exact hlv1 u a1 b1)
            (fun s2 x1 x2 x3 x4 x5 x6 => c1 s2 x1 x2 x3 x4 x5 (fun b j y1 y2 y3 y4 => by rw [x6 b j y1 y2 y3 y4, st_ne (by omega), st_ne (by omega), f1 b j (by omega) (by omega) (by omega)])) (fun s2 x1 x2 x6 => c0 s2 x1 x2 (fun b j y1 y2 y3 y4 => by rw [x6 b j y1 y2 y3 y4, st_ne (by omega), st_ne (by omega), f1 b j (by omega) (by omega) (by omega)]))
        refine X_next_ok hT2 (st_self _ _ _ _) (by omega) ⟨fun c2 => ?_, fun c2 => X_next_ok hT2 (st_self _ _ _ _) (by omega) ⟨fun c3 => ?_, fun c3 => ?_⟩⟩
        · rw [if_pos c2] at k1 k0
          rw [w32_id (x := l + 1) (by omega) (by omega)]
          exact nxt (l + 1) (Or.inr rfl) (hre_in c2 (by decide)) k1 k0
        · rw [if_neg c2, if_pos c3] at k1 k0
          exact nxt l (Or.inl rfl) (hre_in c3 (by decide)) k1 k0
        · rw [if_neg c2, if_neg c3] at k1
          refine k1 _ rfl (st_self _ _ _ _) (by rw [st_ne (by omega)]; exact hz1) (fun i a1 b1 => by rw [st_ne (by omega)]; exact hls1 i a1 b1) (fun u a1 b1 => by rw [st_ne (by omega)]; exact hlv1 u a1 b1) (fun b j y1 y2 y3 y4 => by rw [st_ne y1, f1 b j y2 (by omega) (by omega)])
      · rw [plL_F (by rw [ht]; omega)]
      · rw [plL_F (by rw [ht]; omega)]; exact hq
    · rw [plL_F (by rw [ht]; omega)]
    · rw [plL_F (by rw [ht]; omega)]; exact hq
theorem X_unlist_ok {d : Nat} {K : Int → Mem → Prop} {s : Mem} {g p : Int} (g0 : 0 ≤ g) (g5 : g ≤ 5) (p0 : 0 ≤ p) (p7 : p < 7) (k : ∀ s2 : Mem, s2 (6 + 43 * g) p = -1 → s2 (7 + 43 * g) p = 0 → (∀ t, 0 ≤ t → t < 8 → s2 (17 + 43 * g + p) t = -1) → (∀ b j, ¬ (b = 6 + 43 * g ∧ j = p) → ¬ (b = 7 + 43 * g ∧ j = p) → ¬ (b = 17 + 43 * g + p ∧ 0 ≤ j ∧ j < 8) → s2 b j = s b j) → K 0 s2) : AM2 i_Giving_unlist (d + 2) [(2, 4 + 43 * g), (0, p)] s K := by
  refine e_Giving_unlist fun _ => ?_
  (try simp (disch := omega) only [w32_id, w64_id, inb_eq, st_self, st_ne, pt3, ck_g, ck_am, ck_he, ck_sz, ck_ls, ck_lv, ck_pa, ck_kn, sn_am, sn_he, sn_sz, sn_ls, sn_lv, sn_pa, sn_kn, pt_am, pt_he, pt_sz, pt_ls, pt_lv, pt_pa, pt_kn, ck_lr, ck_vr, ck_pr, sn_lr, sn_vr, sn_pr, pt_lr, pt_vr, pt_pr, pt_sh, ck_sh, pt_to, ck_to, sn_to])
  have hk := (gR g0 g5 p0 p7).1
  refine Fill_I_ok hk.2.2.1 (by rw [hk.2.2.2.1]; decide) (by rw [hk.2.2.2.1]; decide) (fun s2 x1 x2 => ?_)
  rw [hk.2.2.2.1] at x1 x2
  exact k s2 (by rw [x2 _ _ (by omega), st_ne (by omega), st_self]) (by rw [x2 _ _ (by omega), st_self]) (fun t a b => x1 t a b) (fun b j y1 y2 y3 => by rw [x2 b j y3, st_ne y2, st_ne y1])
theorem X_heldOf_ok {d : Nat} {K : Int → Mem → Prop} {s : Mem} {g n t : Int} {hc : Int} (g0 : 0 ≤ g) (g5 : g ≤ 5) (hn : 0 ≤ n ∧ n ≤ 7) (en : s (4 + 43 * g) 1 = n) (k : K (sm (fun p => if s (6 + 43 * g) p = t then 1 else 0) n.toNat 0 0) s) : AM2 i_Giving_heldOf (d + 1) [(2, 4 + 43 * g), (0, t)] s K := by
  have ck := fun {P : Prop} => ck_g (P := P) g0 g5
  have go : ∀ (q : Nat) (i a : Int), 0 ≤ i → i + q = n → 0 ≤ a → a ≤ i → K (sm (fun p => if s (6 + 43 * g) p = t then 1 else 0) q i a) s → AW2 i_Giving_heldOf (d + 1) 4 [] [(0, (2, 4 + 43 * g)), (1, (0, t)), (2, (0, a)), (3, (0, i))] s K := by
    intro q
    induction q with
    | zero =>
      intro i a i0 e a0 a1 k
      refine s_Giving_heldOf_4 ?_
      rw [ck, en]
      exact brF_i (by omega) k
    | succ q ih =>
      intro i a i0 e a0 a1 k
      have k : K (sm (fun p => if s (6 + 43 * g) p = t then 1 else 0) q (i + 1) (a + (if s (6 + 43 * g) i = t then 1 else 0))) s := k
      refine s_Giving_heldOf_4 ?_
      rw [ck, en]
      (try simp (disch := omega) only [w32_id, w64_id, inb_eq, st_self, st_ne, pt3, ck_g, ck_am, ck_he, ck_sz, ck_ls, ck_lv, ck_pa, ck_kn, sn_am, sn_he, sn_sz, sn_ls, sn_lv, sn_pa, sn_kn, pt_am, pt_he, pt_sz, pt_ls, pt_lv, pt_pa, pt_kn, ck_lr, ck_vr, ck_pr, sn_lr, sn_vr, sn_pr, pt_lr, pt_vr, pt_pr, pt_sh, ck_sh, pt_to, ck_to, sn_to])
      refine brT_i (by omega) ⟨fun z => ?_, fun z => ?_⟩
      · rw [if_pos z] at k; exact ih (i + 1) (a + 1) (by omega) (by omega) (by omega) (by omega) k
      · rw [if_neg z] at k; exact ih (i + 1) a (by omega) (by omega) (by omega) (by omega) (by rw [show a + 0 = a by omega] at k; exact k)
  exact e_Giving_heldOf fun _ => go n.toNat 0 0 (Int.le_refl 0) (by omega) (Int.le_refl 0) (Int.le_refl 0) k
/-- a list is read into the class's cells -/
def RLX (s2 : Mem) (g p : Int) (r : Bool × Int × Int × Int × (Int → Int) × (Int → Int)) : Prop := s2 (6 + 43 * g) p = r.2.2.1 ∧ s2 (7 + 43 * g) p = r.2.2.2.1 ∧ (∀ i, 0 ≤ i → i < r.2.2.2.1 → s2 (9 + 43 * g + p) i = r.2.2.2.2.1 i) ∧ ∀ t, 0 ≤ t → t < 8 → s2 (17 + 43 * g + p) t = r.2.2.2.2.2 t
theorem X_readList_ok {d : Nat} {K : Int → Mem → Prop} {s : Mem} {T : Int → Int} {L g p m n q : Int} {am hc : Int → Int} (g0 : 0 ≤ g) (g5 : g ≤ 5) (p0 : 0 ≤ p) (p7 : p < 7) (hm : 1 ≤ m ∧ m ≤ 8) (hn : p < n ∧ n ≤ 7) (hT : TX s T L) (hq : s 1 2 = q) (q0 : 0 ≤ q) (q1 : q ≤ L) (em : s (4 + 43 * g) 0 = m) (en : s (4 + 43 * g) 1 = n) (ha : ∀ t, 0 ≤ t → t < m → s (5 + 43 * g) t = am t) (hh : ∀ t, 0 ≤ t → t < m → sm (fun v => if (if v = p then -1 else s (6 + 43 * g) v) = t then 1 else 0) n.toNat 0 0 = hc t)
    (k1 : ∀ s2 : Mem, (rdL T L m am hc q).1 = true → s2 1 2 = (rdL T L m am hc q).2.1 → RLX s2 g p (rdL T L m am hc q) → (∀ b j, ¬ fLX g p b j → s2 b j = s b j) → K 1 s2) (k0 : ∀ s2 : Mem, (rdL T L m am hc q).1 = false → s2 1 2 = (rdL T L m am hc q).2.1 → (∀ b j, ¬ fLX g p b j → s2 b j = s b j) → K 0 s2) : AM2 i_Tape_readList (d + 3) [(2, 1), (2, 4 + 43 * g), (0, p)] s K := by
  have ck := fun {P : Prop} => ck_g (P := P) g0 g5
  have hL := hT.2.1
  have hr := hre_r (L := L) (fun i a b => (hT.2.2 i a b).2) q0
  refine e_Tape_readList fun _ => ?_
  rw [ck]
  refine X_unlist_ok g0 g5 p0 p7 (fun s1 w1 w2 w3 f1 => ?_)
  have hT1 : TX s1 T L := TX_fr hT (fun b j y => f1 b j (by omega) (by omega) (by omega))
  have hq1 : s1 1 2 = q := by rw [f1 _ _ (by omega) (by omega) (by omega)]; exact hq
  -- behind what is held: from a place on, with what is held
  have cont : ∀ (q2 h : Int) (s3 : Mem), TX s3 T L → s3 1 2 = q2 → 0 ≤ q2 → q2 ≤ L → s3 (6 + 43 * g) p = h → s3 (7 + 43 * g) p = 0 → (∀ t, 0 ≤ t → t < 8 → s3 (17 + 43 * g + p) t = -1) → (∀ b j, ¬ fLX g p b j → s3 b j = s b j) → rdL T L m am hc q = ((rdC T L m q2).1, (rdC T L m q2).2.1, h, (rdC T L m q2).2.2) → AM2 i_Tape_next (d + 2) [(2, 1)] s3 (fun w4 σ4 => (w4 = 45 → K 1 (st σ4 1 2 (w32 ((σ4 1 2) + 1)))) ∧ (¬ w4 = 45 → AW2 i_Tape_readList (d + 3) 30 [] [(0, (2, 1)), (1, (2, 4 + 43 * g)), (2, (0, p)), (3, (0, 0)), (4, (0, 0))] σ4 K)) := by
    intro q2 h s3 hT3 hq3 q20 q21 v1 v2 v3 f3 er
    rw [er] at k1 k0
    refine X_next_ok hT3 hq3 q20 ⟨fun c => ?_, fun c => ?_⟩
    · have e1 : rdC T L m q2 = (true, q2 + 1, 0, fun _ => 0, fun _ => -1) := if_pos c
      have := hre_in c (by decide)
      rw [e1] at k1
      rw [hq3, w32_id (by omega) (by omega)]
      refine k1 _ rfl (st_self _ _ _ _) ⟨by rw [st_ne (by omega)]; exact v1, by rw [st_ne (by omega)]; exact v2, fun i a b => by have b : i < 0 := b; omega, fun t a b => by rw [st_ne (by omega)]; exact v3 t a b⟩ (fun b j y => by
        rw [st_ne (by unfold fLX at y; omega)]; exact f3 b j y)
    · have e1 : rdC T L m q2 = plL T L m 8 q2 0 0 (fun _ => 0) (fun _ => -1) := if_neg c
      rw [e1] at k1 k0
      refine X_plist (d := d + 1) g0 g5 p0 p7 hm 8 q2 0 0 (fun _ => 0) (fun _ => -1) s3 rfl (Int.le_refl 0) hT3 hq3 q20 q21 (Int.le_refl 0) (Int.le_refl 0) (by rw [f3 _ _ (by unfold fLX; omega)]; exact em) v2 (fun i a b => by omega) v3 (fun s4 x1 x2 x3 x4 x5 x6 => k1 s4 x1 x2 ⟨by rw [x6 _ _ (by omega) (by omega) (by omega) (by omega)]; exact v1, x3, x4, x5⟩ (fun b j y => by
        have y2 := y; unfold fLX at y2
        rw [x6 b j (by omega) (by omega) (by omega) (by omega)]; exact f3 b j y)) (fun s4 x1 x2 x6 => k0 s4 x1 x2 (fun b j y => by
        have y2 := y; unfold fLX at y2
        rw [x6 b j (by omega) (by omega) (by omega) (by omega)]; exact f3 b j y))
  have fo : ∀ b j, ¬ fLX g p b j → s1 b j = s b j := fun b j y => by unfold fLX at y; exact f1 b j (by omega) (by omega) (by omega)
  refine X_next_ok hT1 hq1 q0 ⟨fun c => ?_, fun c => ?_⟩
  · have hqL := hre_in c (by decide)
    have hr2 := hre_r (p := q + 1) (L := L) (fun i a b => (hT.2.2 i a b).2) (by omega)
    have er : rdL T L m am hc q = (if 0 ≤ hre T L (q + 1) - 97 ∧ hre T L (q + 1) - 97 < m ∧ hc (hre T L (q + 1) - 97) < am (hre T L (q + 1) - 97) then
      ((rdC T L m (q + 1 + 1)).1, (rdC T L m (q + 1 + 1)).2.1, hre T L (q + 1) - 97, (rdC T L m (q + 1 + 1)).2.2)
    else (false, q + 1, -1, 0, fun _ => 0, fun _ => -1)) := if_pos c
    refine e_Tape_readHeld fun _ => ?_
    rw [hq1, w32_id (x := q + 1) (by omega) (by omega)]
    have hT2 : TX (st s1 1 2 (q + 1)) T L := TX_fr hT1 (fun b j y => by rw [st_ne (by omega)])
    have bad : ¬ (0 ≤ hre T L (q + 1) - 97 ∧ hre T L (q + 1) - 97 < m ∧ hc (hre T L (q + 1) - 97) < am (hre T L (q + 1) - 97)) → K 0 (st s1 1 2 (q + 1)) := fun z => by
      rw [if_neg z] at er
      rw [er] at k0
      exact k0 _ rfl (st_self _ _ _ _) (fun b j y => by rw [st_ne (by unfold fLX at y; omega)]; exact fo b j y)
    refine X_next_ok hT2 (st_self _ _ _ _) (by omega) ?_
    rw [w32_id (x := hre T L (q + 1) - 97) (by omega) (by omega)]
    generalize ht : hre T L (q + 1) - 97 = t at *
    have em1 : st s1 1 2 (q + 1) (4 + 43 * g) 0 = m := by rw [st_ne (by omega), fo _ _ (by unfold fLX; omega)]; exact em
    refine X_isThing_ok g0 g5 (fun a b => br1 ?_) (fun z => br0 (br0 (bad (by omega))))
    rw [ck]
    refine X_heldOf_ok (hc := 0) (n := n) g0 g5 (by omega) (by rw [st_ne (by omega), fo _ _ (by unfold fLX; omega)]; exact en) ?_
    have eh : sm (fun v => if (st s1 1 2 (q + 1)) (6 + 43 * g) v = t then 1 else 0) n.toNat 0 0 = hc t := by
      rw [← hh t a (by omega)]
      refine sm_congr _ 0 0 (fun v v0 v1 => ?_)
      rw [st_ne (by omega)]
      by_cases y : v = p
      · rw [if_pos y, y, w1]
      · rw [if_neg y, f1 _ _ (by omega) (by omega) (by omega)]
    rw [eh]
    have e5 : st s1 1 2 (q + 1) (5 + 43 * g) t = am t := by rw [st_ne (by omega), fo _ _ (by unfold fLX; omega)]; exact ha t a (by omega)
    (try simp (disch := omega) only [w32_id, w64_id, inb_eq, st_self, st_ne, pt3, ck_g, ck_am, ck_he, ck_sz, ck_ls, ck_lv, ck_pa, ck_kn, sn_am, sn_he, sn_sz, sn_ls, sn_lv, sn_pa, sn_kn, pt_am, pt_he, pt_sz, pt_ls, pt_lv, pt_pa, pt_kn, ck_lr, ck_vr, ck_pr, sn_lr, sn_vr, sn_pr, pt_lr, pt_vr, pt_pr, pt_sh, ck_sh, pt_to, ck_to, sn_to])
    rw [show s1 (5 + 43 * g) t = am t by rw [st_ne (by omega)] at e5; exact e5]
    refine ⟨fun z => ?_, fun z => ⟨fun _ => bad (by omega), fun y => absurd trivial y⟩⟩
    have hqL2 : q + 1 < L := hre_in (T := T) (L := L) (p := q + 1) rfl (by omega)
    rw [if_pos ⟨a, by omega, z⟩] at er
    (try simp (disch := omega) only [w32_id, w64_id, inb_eq, st_self, st_ne, pt3, ck_g, ck_am, ck_he, ck_sz, ck_ls, ck_lv, ck_pa, ck_kn, sn_am, sn_he, sn_sz, sn_ls, sn_lv, sn_pa, sn_kn, pt_am, pt_he, pt_sz, pt_ls, pt_lv, pt_pa, pt_kn, ck_lr, ck_vr, ck_pr, sn_lr, sn_vr, sn_pr, pt_lr, pt_vr, pt_pr, pt_sh, ck_sh, pt_to, ck_to, sn_to])
    refine brF_i (by decide) (cont (q + 1 + 1) t _ (TX_fr hT2 (fun b j y => by rw [st_ne (by omega), st_ne (by omega)])) (st_self _ _ _ _) (by omega) (by omega) (by rw [st_ne (by omega), st_self]) (by rw [st_ne (by omega), st_ne (by omega), st_ne (by omega)]; exact w2) (fun u a1 b1 => by rw [st_ne (by omega), st_ne (by omega), st_ne (by omega)]; exact w3 u a1 b1) (fun b j y => by
      rw [st_ne (by unfold fLX at y; omega), st_ne (by unfold fLX at y; omega), st_ne (by unfold fLX at y; omega)]; exact fo b j y) er)
  · exact cont q (-1) s1 hT1 hq1 q0 q1 w1 w2 w3 fo (if_neg c)
