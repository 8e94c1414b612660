-- ===== the model reads
def TM (s : Mem) (T : Int → Int) (L : Int) : Prop := s 356 13 = L ∧ (0 ≤ L ∧ L ≤ 120) ∧ ∀ i, 0 ≤ i → i < L → s 367 i = T i ∧ 0 ≤ T i ∧ T i ≤ 255
theorem TM_fr {s s2 : Mem} {T : Int → Int} {L : Int} (h : TM s T L) (f : ∀ b j, (b = 356 ∧ j = 13) ∨ b = 367 → s2 b j = s b j) : TM s2 T L := by
  obtain ⟨e, l, h⟩ := h
  exact ⟨by rw [f 356 13 (by omega)]; exact e, l, fun i a b => by rw [f 367 i (by omega)]; exact h i a b⟩
theorem M_hre_ok {d : Nat} {K : Int → Mem → Prop} {s : Mem} {T : Int → Int} {L p : Int} (hT : TM s T L) (hp : s 356 31 = p) (p0 : 0 ≤ p) (k : K (hre T L p) s) : AM2 i_M_here (d + 1) [(2, 356)] s K := by
  obtain ⟨e, ⟨l0, l1⟩, h⟩ := hT
  unfold hre at k
  refine e_M_here ?_
  rw [hp, e]
  refine ⟨fun z => inb_i p0 (by omega) ?_, fun z => ?_⟩
  · rw [if_pos z] at k; rw [(h p p0 z).1]; exact k
  · rw [if_neg z] at k; exact k
def fLM (X b j : Int) : Prop := (b = 356 ∧ j = 31) ∨ ((b = 361 ∨ b = 362) ∧ j = X) ∨ ((b = 363 ∨ b = 364) ∧ 8 * X ≤ j ∧ j < 8 * X + 8)
def RLM (s2 : Mem) (X : Int) (r : Bool × Int × Int × Int × (Int → Int) × (Int → Int)) : Prop := s2 361 X = r.2.2.1 ∧ s2 362 X = r.2.2.2.1 ∧ (∀ i, 0 ≤ i → i < r.2.2.2.1 → s2 363 (8 * X + i) = r.2.2.2.2.1 i) ∧ ∀ t, 0 ≤ t → t < 8 → s2 364 (8 * X + t) = r.2.2.2.2.2 t
theorem M_plist {d : Nat} {K : Int → Mem → Prop} {T : Int → Int} {L g X m : Int} (g0 : 0 ≤ g) (g5 : g ≤ 5) (X0 : 0 ≤ X) (X7 : X < 42) (hm : 1 ≤ m ∧ m ≤ 8) : ∀ (f : Nat) (q l z : Int) (ls lv : Int → Int) (s : Mem), (f : Int) + z = 8 → PlI m l z ls lv → TM s T L → s 356 31 = q → 0 ≤ q → q ≤ L → s 358 g = m → s 362 X = z → (∀ i, 0 ≤ i → i < z → s 363 (8 * X + i) = ls i) → (∀ t, 0 ≤ t → t < 8 → s 364 (8 * X + t) = lv t) →
    (∀ s2 : Mem, (plL T L m f q l z ls lv).1 = true → s2 356 31 = (plL T L m f q l z ls lv).2.1 → s2 362 X = (plL T L m f q l z ls lv).2.2.1 → (∀ i, 0 ≤ i → i < (plL T L m f q l z ls lv).2.2.1 → s2 363 (8 * X + i) = (plL T L m f q l z ls lv).2.2.2.1 i) → (∀ t, 0 ≤ t → t < 8 → s2 364 (8 * X + t) = (plL T L m f q l z ls lv).2.2.2.2 t) → (∀ b j, ¬ fLM X b j → s2 b j = s b j) → s2 361 X = s 361 X → K 1 s2) →
    (∀ s2 : Mem, (plL T L m f q l z ls lv).1 = false → s2 356 31 = (plL T L m f q l z ls lv).2.1 → (∀ b j, ¬ fLM X b j → s2 b j = s b j) → K 0 s2) →
    AW2 i_M_readsList (d + 2) 102 [] [(0, (2, 356)), (1, (0, g)), (3, (0, X)), (4, (0, l)), (5, (0, 1))] s K := by
  intro f
  induction f with
  | zero =>
    intro q l z ls lv s e hI hT hq q0 q1 em hz hls hlv k1 k0
    have hL := hT.2.1
    have hr := hre_r (L := L) (fun i a b => (hT.2.2 i a b).2) q0
    refine s_M_readsList_102 (brF_i (by decide) (M_hre_ok hT hq q0 (inb_i g0 (by omega) ?_)))
    rw [em, w32_id (x := m - 1) (by omega) (by omega), w32_id (x := hre T L q - 97) (by omega) (by omega)]
    refine M_in_ok (fun a b => br1 ?_) (fun _ => br0 (k0 s rfl hq (fun _ _ _ => rfl)))
    rw [w32_id (x := 8 * X) (by omega) (by omega), w32_id (x := 8 * X + (hre T L q - 97)) (by omega) (by omega), hlv _ a (by omega)]
    refine inb_i (by omega) (by omega) (brF_i ?_ (k0 s rfl hq (fun _ _ _ => rfl)))
    intro c
    have h1 := nul_pos a (show hre T L q - 97 < m by omega) c
    have h2 := hI.2.2.2
    have h3 := hI.1.1
    omega
  | succ f ih =>
    intro q l z ls lv s e hI hT hq q0 q1 em hz hls hlv k1 k0
    have hL := hT.2.1
    have hr := hre_r (L := L) (fun i a b => (hT.2.2 i a b).2) q0
    have hlz := hI.2.1
    have hzm := hI.1.1
    refine s_M_readsList_102 (brF_i (by decide) (M_hre_ok hT hq q0 (inb_i g0 (by omega) ?_)))
    rw [em, w32_id (x := m - 1) (by omega) (by omega), w32_id (x := hre T L q - 97) (by omega) (by omega)]
    generalize ht : hre T L q - 97 = t at *
    refine M_in_ok (fun a b => br1 ?_) (fun c => br0 (k0 s ?_ ?_ (fun _ _ _ => rfl)))
    · rw [w32_id (x := 8 * X) (by omega) (by omega), w32_id (x := 8 * X + t) (by omega) (by omega), hlv t a (by omega)]
      refine inb_i (by omega) (by omega) ⟨fun c => ?_, fun c => k0 s ?_ ?_ (fun _ _ _ => rfl)⟩
      · have hqL : q < L := hre_in (c := hre T L q) rfl (by omega)
        have hc : 0 ≤ hre T L q - 97 ∧ hre T L q - 97 < m ∧ lv (hre T L q - 97) < 0 := by rw [ht]; omega
        rw [plL_T hc, ht] at k1 k0
        (try simp (disch := omega) only [w32_id, w64_id, inb_eq, st_self, st_ne, pt3, ck_g, ck_am, ck_he, ck_sz, ck_ls, ck_lv, ck_pa, ck_kn, sn_am, sn_he, sn_sz, sn_ls, sn_lv, sn_pa, sn_kn, pt_am, pt_he, pt_sz, pt_ls, pt_lv, pt_pa, pt_kn, ck_lr, ck_vr, ck_pr, sn_lr, sn_vr, sn_pr, pt_lr, pt_vr, pt_pr, pt_sh, ck_sh, pt_to, ck_to, sn_to, hz])
        rw [hq]
        generalize hs1 : st (st (st (st s 364 (8 * X + t) l) 363 (8 * X + z) t) 362 X (z + 1)) 356 31 (q + 1) = s1
        have f1 : ∀ b j, ¬ (b = 362 ∧ j = X) → ¬ (b = 363 ∧ j = 8 * X + z) → ¬ (b = 364 ∧ j = 8 * X + t) → ¬ (b = 356 ∧ j = 31) → s1 b j = s b j := fun b j y1 y2 y3 y4 => by rw [← hs1, st_ne y4, st_ne y1, st_ne y2, st_ne y3]
        have hz1 : s1 362 X = z + 1 := by rw [← hs1, st_ne (by omega), st_self]
        have hq1 : s1 356 31 = q + 1 := by rw [← hs1, st_self]
        have hls1 : ∀ i, 0 ≤ i → i < z + 1 → s1 363 (8 * X + i) = up ls z t i := fun i a1 b1 => by
          by_cases y : i = z
          · rw [y, up_s, ← hs1, st_ne (by omega), st_ne (by omega), st_self]
          · rw [up_n y, f1 _ _ (by omega) (by omega) (by omega) (by omega)]; exact hls i a1 (by omega)
        have hlv1 : ∀ u, 0 ≤ u → u < 8 → s1 364 (8 * X + u) = up lv t l u := fun u a1 b1 => by
          by_cases y : u = t
          · rw [y, up_s, ← hs1, st_ne (by omega), st_ne (by omega), st_ne (by omega), st_self]
          · rw [up_n y, f1 _ _ (by omega) (by omega) (by omega) (by omega)]; exact hlv u a1 b1
        have ff : ∀ b j, ¬ fLM X b j → s1 b j = s b j := fun b j y => by unfold fLM at y; exact f1 b j (by omega) (by omega) (by omega) (by omega)
        have f361 : s1 361 X = s 361 X := f1 _ _ (by omega) (by omega) (by omega) (by omega)
        have hT2 : TM s1 T L := TM_fr hT (fun b j y => f1 b j (by omega) (by omega) (by omega) (by omega))
        have em1 : s1 358 g = m := by rw [f1 _ _ (by omega) (by omega) (by omega) (by omega)]; exact em
        -- on to the next thing
        have nxt : ∀ c2 l', (c2 = 1 ∧ l' = l + 1 ∨ c2 = 0 ∧ l' = l) → q + 1 < L → (∀ s2 : Mem, (plL T L m f (q + 1 + 1) l' (z + 1) (up ls z t) (up lv t l)).1 = true → s2 356 31 = (plL T L m f (q + 1 + 1) l' (z + 1) (up ls z t) (up lv t l)).2.1 → s2 362 X = (plL T L m f (q + 1 + 1) l' (z + 1) (up ls z t) (up lv t l)).2.2.1 → (∀ i, 0 ≤ i → i < (plL T L m f (q + 1 + 1) l' (z + 1) (up ls z t) (up lv t l)).2.2.1 → s2 363 (8 * X + i) = (plL T L m f (q + 1 + 1) l' (z + 1) (up ls z t) (up lv t l)).2.2.2.1 i) → (∀ u, 0 ≤ u → u < 8 → s2 364 (8 * X + u) = (plL T L m f (q + 1 + 1) l' (z + 1) (up ls z t) (up lv t l)).2.2.2.2 u) → (∀ b j, ¬ fLM X b j → s2 b j = s b j) → s2 361 X = s 361 X → K 1 s2) → (∀ s2 : Mem, (plL T L m f (q + 1 + 1) l' (z + 1) (up ls z t) (up lv t l)).1 = false → s2 356 31 = (plL T L m f (q + 1 + 1) l' (z + 1) (up ls z t) (up lv t l)).2.1 → (∀ b j, ¬ fLM X b j → s2 b j = s b j) → K 0 s2) → AW2 i_M_readsList (d + 2) 187 [(0, c2), (0, l)] [(0, (2, 356)), (1, (0, g)), (3, (0, X)), (5, (0, 1))] s1 K := by
          intro c2 l' hl' hqL2 c1 c0
          refine s_M_readsList_187 (brF_i (by decide) (s_M_readsList_197 (chkK_i rfl ?_)))
          rw [hq1, w32_id (x := q + 1 + 1) (by omega) (by omega), w32_id (x := l + c2) (by omega) (by omega), show l + c2 = l' by omega]
          exact ih (q + 1 + 1) l' (z + 1) (up ls z t) (up lv t l) _ (by omega) (PlI_add hI a (by omega) c (by omega)) (TM_fr hT2 (fun b j y => by rw [st_ne (by omega)])) (st_self _ _ _ _) (by omega) (by omega) (by rw [st_ne (by omega)]; exact em1) (by rw [st_ne (by omega)]; exact hz1) (fun i a1 b1 => by rw [st_ne (by omega)]; exact hls1 i a1 b1) (fun u a1 b1 => by rw [st_ne (by omega)]; exact hlv1 u a1 b1)
            (fun s2 x1 x2 x3 x4 x5 x6 x7 => c1 s2 x1 x2 x3 x4 x5 (fun b j y => by rw [x6 b j y, st_ne (by unfold fLM at y; omega)]; exact ff b j y) (by rw [x7, st_ne (by omega)]; exact f361)) (fun s2 x1 x2 x6 => c0 s2 x1 x2 (fun b j y => by rw [x6 b j y, st_ne (by unfold fLM at y; omega)]; exact ff b j y))
        refine M_hre_ok hT2 hq1 (by omega) ⟨fun c2 => s_M_readsList_175 (s_M_readsList_178 (M_hre_ok hT2 hq1 (by omega) (brT_i c2 ?_))), fun c2 => M_hre_ok hT2 hq1 (by omega) ⟨fun c3 => s_M_readsList_175 (s_M_readsList_178 (M_hre_ok hT2 hq1 (by omega) (brF_i c2 ?_))), fun c3 => s_M_readsList_178 (M_hre_ok hT2 hq1 (by omega) (brF_i c2 ?_))⟩⟩
        · rw [if_pos c2] at k1 k0
          exact nxt 1 (l + 1) (Or.inl ⟨rfl, rfl⟩) (hre_in c2 (by decide)) k1 k0
        · rw [if_neg c2, if_pos c3] at k1 k0
          exact nxt 0 l (Or.inr ⟨rfl, rfl⟩) (hre_in c3 (by decide)) k1 k0
        · rw [if_neg c2, if_neg c3] at k1
          refine s_M_readsList_187 (brT_i rfl (s_M_readsList_197 (chkK_i rfl (s_M_readsList_102 (brT_i rfl ?_)))))
          rw [hq1, w32_id (x := q + 1 + 0) (by omega) (by omega), show q + 1 + 0 = q + 1 by omega]
          refine k1 _ rfl (st_self _ _ _ _) (by rw [st_ne (by omega)]; exact hz1) (fun i a1 b1 => by rw [st_ne (by omega)]; exact hls1 i a1 b1) (fun u a1 b1 => by rw [st_ne (by omega)]; exact hlv1 u a1 b1) (fun b j y => by rw [st_ne (by unfold fLM at y; omega)]; exact ff b j y) (by rw [st_ne (by omega)]; exact f361)
      · rw [plL_F (by rw [ht]; omega)]
      · rw [plL_F (by rw [ht]; omega)]; exact hq
    · rw [plL_F (by rw [ht]; omega)]
    · rw [plL_F (by rw [ht]; omega)]; exact hq
theorem M_heldOf_ok {d : Nat} {K : Int → Mem → Prop} {s : Mem} {g n t u : Int} (g0 : 0 ≤ g) (g5 : g ≤ 5) (hn : 0 ≤ n ∧ n ≤ 7) (en : s 357 g = n) (k : K (sm (fun p => if ¬ p = u ∧ s 361 (7 * g + p) = t then 1 else 0) n.toNat 0 0) s) : AM2 i_M_heldOf (d + 1) [(2, 356), (0, g), (0, t), (0, u)] s K := by
  have go : ∀ (q : Nat) (i a : Int), 0 ≤ i → i + q = n → 0 ≤ a → a ≤ i → K (sm (fun p => if ¬ p = u ∧ s 361 (7 * g + p) = t then 1 else 0) q i a) s → AW2 i_M_heldOf (d + 1) 4 [] [(0, (2, 356)), (1, (0, g)), (2, (0, t)), (3, (0, u)), (4, (0, a)), (5, (0, i))] s K := by
    intro q
    induction q with
    | zero =>
      intro i a i0 e a0 a1 k
      refine s_M_heldOf_4 ?_
      rw [en]
      exact inb_i g0 (by omega) (brF_i (by omega) k)
    | succ q ih =>
      intro i a i0 e a0 a1 k
      have k : K (sm (fun p => if ¬ p = u ∧ s 361 (7 * g + p) = t then 1 else 0) q (i + 1) (a + (if ¬ i = u ∧ s 361 (7 * g + i) = t then 1 else 0))) s := k
      refine s_M_heldOf_4 ?_
      rw [en, w32_id (x := a + 0) (by omega) (by omega), w32_id (x := a + 1) (by omega) (by omega), w32_id (x := i + 1) (by omega) (by omega), w32_id (x := 7 * g) (by omega) (by omega), w32_id (x := 7 * g + i) (by omega) (by omega)]
      refine inb_i g0 (by omega) (brT_i (by omega) ⟨fun z => ?_, fun z => inb_i (by omega) (by omega) ⟨fun y => ?_, fun y => ?_⟩⟩)
      · rw [if_neg (fun w => w.1 z)] at k; exact ih (i + 1) _ (by omega) (by omega) (by omega) (by omega) k
      · rw [if_pos ⟨z, y⟩] at k; exact ih (i + 1) _ (by omega) (by omega) (by omega) (by omega) k
      · rw [if_neg (fun w => y w.2)] at k; exact ih (i + 1) _ (by omega) (by omega) (by omega) (by omega) k
  exact e_M_heldOf fun _ _ _ => go n.toNat 0 0 (Int.le_refl 0) (by omega) (Int.le_refl 0) (Int.le_refl 0) k
theorem M_readsList_ok {d : Nat} {K : Int → Mem → Prop} {s : Mem} {T : Int → Int} {L g p m n q : Int} {am hc : Int → Int} (g0 : 0 ≤ g) (g5 : g ≤ 5) (p0 : 0 ≤ p) (p7 : p < 7) (hm : 1 ≤ m ∧ m ≤ 8) (hn : 0 ≤ n ∧ n ≤ 7) (hT : TM s T L) (hq : s 356 31 = q) (q0 : 0 ≤ q) (q1 : q ≤ L) (em : s 358 g = m) (en : s 357 g = n) (ha : ∀ t, 0 ≤ t → t < m → s 360 (8 * g + t) = am t) (hh : ∀ t, 0 ≤ t → t < m → sm (fun v => if ¬ v = p ∧ s 361 (7 * g + v) = t then 1 else 0) n.toNat 0 0 = hc t)
    (k1 : ∀ s2 : Mem, (rdL T L m am hc q).1 = true → s2 356 31 = (rdL T L m am hc q).2.1 → RLM s2 (7 * g + p) (rdL T L m am hc q) → (∀ b j, ¬ fLM (7 * g + p) b j → s2 b j = s b j) → K 1 s2) (k0 : ∀ s2 : Mem, (rdL T L m am hc q).1 = false → s2 356 31 = (rdL T L m am hc q).2.1 → (∀ b j, ¬ fLM (7 * g + p) b j → s2 b j = s b j) → K 0 s2) : AM2 i_M_readsList (d + 3) [(2, 356), (0, g), (0, p)] s K := by
  have hL := hT.2.1
  have hr := hre_r (L := L) (fun i a b => (hT.2.2 i a b).2) q0
  generalize hX : 7 * g + p = X at *
  have X0 : 0 ≤ X := by omega
  have X7 : X < 42 := by omega
  -- behind what is held
  have cont : ∀ (q2 h : Int) (s3 : Mem), TM s3 T L → s3 356 31 = q2 → 0 ≤ q2 → q2 ≤ L → s3 361 X = h → s3 362 X = 0 → (∀ t, 0 ≤ t → t < 8 → s3 364 (8 * X + t) = -1) → (∀ b j, ¬ fLM X b j → s3 b j = s b j) → rdL T L m am hc q = ((rdC T L m q2).1, (rdC T L m q2).2.1, h, (rdC T L m q2).2.2) → AW2 i_M_readsList (d + 3) 86 [] [(0, (2, 356)), (1, (0, g)), (3, (0, X))] s3 K := by
    intro q2 h s3 hT3 hq3 q20 q21 v1 v2 v3 f3 er
    rw [er] at k1 k0
    refine s_M_readsList_86 (M_hre_ok hT3 hq3 q20 ⟨fun c => ?_, fun c => ?_⟩)
    · have e1 : rdC T L m q2 = (true, q2 + 1, 0, fun _ => 0, fun _ => -1) := if_pos c
      have := hre_in c (by decide)
      rw [e1] at k1
      rw [hq3, w32_id (by omega) (by omega)]
      refine k1 _ rfl (st_self _ _ _ _) ⟨by rw [st_ne (by omega)]; exact v1, by rw [st_ne (by omega)]; exact v2, fun i a b => by have b : i < 0 := b; omega, fun t a b => by rw [st_ne (by omega)]; exact v3 t a b⟩ (fun b j y => by
        rw [st_ne (by unfold fLM at y; omega)]; exact f3 b j y)
    · have e1 : rdC T L m q2 = plL T L m 8 q2 0 0 (fun _ => 0) (fun _ => -1) := if_neg c
      rw [e1] at k1 k0
      refine M_plist (d := d + 1) g0 g5 X0 X7 hm 8 q2 0 0 (fun _ => 0) (fun _ => -1) s3 rfl (PlI_0 (by omega)) hT3 hq3 q20 q21 (by rw [f3 _ _ (by unfold fLM; omega)]; exact em) v2 (fun i a b => by omega) v3 (fun s4 x1 x2 x3 x4 x5 x6 x7 => k1 s4 x1 x2 ⟨by rw [x7]; exact v1, x3, x4, x5⟩ (fun b j y => by
        rw [x6 b j y]; exact f3 b j y)) (fun s4 x1 x2 x6 => k0 s4 x1 x2 (fun b j y => by
        rw [x6 b j y]; exact f3 b j y))
  have l13 : ∀ (k : Nat) (i : Int) (s1 : Mem), 0 ≤ i → i + k = 8 → s1 362 X = 0 → (∀ t, 0 ≤ t → t < i → s1 364 (8 * X + t) = -1) → (∀ b j, ¬ fLM X b j → s1 b j = s b j) → s1 356 31 = q → AW2 i_M_readsList (d + 3) 13 [] [(0, (2, 356)), (1, (0, g)), (2, (0, p)), (3, (0, X)), (4, (0, i))] s1 K := by
    intro k
    induction k with
    | zero =>
      intro i s1 i0 e v2 v3 f1 hq1
      have hT1 : TM (st s1 361 X (-1)) T L := TM_fr hT (fun b j y => by rw [st_ne (by omega)]; exact f1 b j (by unfold fLM; omega))
      have hq2 : st s1 361 X (-1) 356 31 = q := by rw [st_ne (by omega)]; exact hq1
      have f2 : ∀ b j, ¬ fLM X b j → st s1 361 X (-1) b j = s b j := fun b j y => by rw [st_ne (by unfold fLM at y; omega)]; exact f1 b j y
      refine s_M_readsList_13 (brF_i (by omega) (inb_i X0 X7 (M_hre_ok hT1 hq2 q0 ⟨fun c => ?_, fun c => ?_⟩)))
      · have hqL := hre_in c (by decide)
        have hr2 := hre_r (p := q + 1) (L := L) (fun i a b => (hT.2.2 i a b).2) (by omega)
        have er : rdL T L m am hc q = (if 0 ≤ hre T L (q + 1) - 97 ∧ hre T L (q + 1) - 97 < m ∧ hc (hre T L (q + 1) - 97) < am (hre T L (q + 1) - 97) then
          ((rdC T L m (q + 1 + 1)).1, (rdC T L m (q + 1 + 1)).2.1, hre T L (q + 1) - 97, (rdC T L m (q + 1 + 1)).2.2)
        else (false, q + 1, -1, 0, fun _ => 0, fun _ => -1)) := if_pos c
        rw [hq2, w32_id (x := q + 1) (by omega) (by omega)]
        have hT2 : TM (st (st s1 361 X (-1)) 356 31 (q + 1)) T L := TM_fr hT1 (fun b j y => by rw [st_ne (by omega)])
        have bad : ¬ (0 ≤ hre T L (q + 1) - 97 ∧ hre T L (q + 1) - 97 < m ∧ hc (hre T L (q + 1) - 97) < am (hre T L (q + 1) - 97)) → K 0 (st (st s1 361 X (-1)) 356 31 (q + 1)) := fun z => by
          rw [if_neg z] at er
          rw [er] at k0
          exact k0 _ rfl (st_self _ _ _ _) (fun b j y => by rw [st_ne (by unfold fLM at y; omega)]; exact f2 b j y)
        have f4 : ∀ b j, ¬ fLM X b j → st (st s1 361 X (-1)) 356 31 (q + 1) b j = s b j := fun b j y => by rw [st_ne (by unfold fLM at y; omega)]; exact f2 b j y
        refine M_hre_ok hT2 (st_self _ _ _ _) (by omega) (inb_i g0 (by omega) ?_)
        rw [f4 358 g (by unfold fLM; omega), em, w32_id (x := m - 1) (by omega) (by omega), w32_id (x := hre T L (q + 1) - 97) (by omega) (by omega)]
        generalize ht : hre T L (q + 1) - 97 = t at *
        refine M_in_ok (fun a b => br1 ?_) (fun z => br0 (bad (by omega)))
        refine M_heldOf_ok (n := n) g0 g5 hn (by rw [f4 _ _ (by unfold fLM; omega)]; exact en) ?_
        have eh : sm (fun v => if ¬ v = p ∧ (st (st s1 361 X (-1)) 356 31 (q + 1)) 361 (7 * g + v) = t then 1 else 0) n.toNat 0 0 = hc t := by
          rw [← hh t a (by omega)]
          refine sm_congr _ 0 0 (fun v v0 v1 => ?_)
          by_cases y : v = p
          · rw [if_neg (fun w => w.1 y), if_neg (fun w => w.1 y)]
          · rw [f4 361 (7 * g + v) (by unfold fLM; omega)]
        rw [eh, w32_id (x := 8 * g) (by omega) (by omega), w32_id (x := 8 * g + t) (by omega) (by omega), f4 360 _ (by unfold fLM; omega), ha t a (by omega)]
        refine inb_i (by omega) (by omega) ⟨fun z => inb_i X0 X7 ?_, fun z => bad (by omega)⟩
        have hqL2 : q + 1 < L := hre_in (T := T) (L := L) (p := q + 1) rfl (by omega)
        rw [if_pos ⟨a, by omega, z⟩] at er
        rw [st_ne (by omega), st_self, w32_id (x := q + 1 + 1) (by omega) (by omega)]
        refine cont (q + 1 + 1) t _ (TM_fr hT2 (fun b j y => by rw [st_ne (by omega), st_ne (by omega)])) (st_self _ _ _ _) (by omega) (by omega) (by rw [st_ne (by omega), st_self]) (by rw [st_ne (by omega), st_ne (by omega), st_ne (by omega), st_ne (by omega)]; exact v2) (fun u a1 b1 => by rw [st_ne (by omega), st_ne (by omega), st_ne (by omega), st_ne (by omega)]; exact v3 u a1 (by omega)) (fun b j y => by
          rw [st_ne (by unfold fLM at y; omega), st_ne (by unfold fLM at y; omega)]; exact f4 b j y) er
      · exact cont q (-1) _ hT1 hq2 q0 q1 (st_self _ _ _ _) (by rw [st_ne (by omega)]; exact v2) (fun t a b => by rw [st_ne (by omega)]; exact v3 t a (by omega)) f2 (if_neg c)
    | succ k ih =>
      intro i s1 i0 e v2 v3 f1 hq1
      refine s_M_readsList_13 (brT_i (by omega) ?_)
      rw [w32_id (x := 8 * X) (by omega) (by omega), w32_id (x := 8 * X + i) (by omega) (by omega), w32_id (x := i + 1) (by omega) (by omega)]
      refine inb_i (by omega) (by omega) (ih (i + 1) _ (by omega) (by omega) (by rw [st_ne (by omega)]; exact v2) (fun t a b => ?_) (fun b j y => by rw [st_ne (by unfold fLM at y; omega)]; exact f1 b j y) (by rw [st_ne (by omega)]; exact hq1))
      by_cases z : t = i
      · rw [z, st_self]
      · rw [st_ne (by omega)]; exact v3 t a (by omega)
  refine e_M_readsList fun _ _ => ?_
  rw [w32_id (x := 7 * g) (by omega) (by omega), w32_id (x := 7 * g + p) (by omega) (by omega), hX]
  exact inb_i X0 X7 (l13 8 0 _ (Int.le_refl 0) rfl (st_self _ _ _ _) (fun t a b => by omega) (fun b j y => by rw [st_ne (by unfold fLM at y; omega)]) (by rw [st_ne (by omega)]; exact hq))
