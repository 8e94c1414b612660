-- ===== whole texts
abbrev GD : Type := (Int → Int) × (Int → Int) × (Int → Int → Int) × (Int → Int → Int)
def thL (T : Int → Int) (L : Int) : Nat → Int → Int → (Int → Int) → Bool × Int × Int × (Int → Int)
  | 0, i, p, am => (true, p, i, am)
  | f + 1, i, p, am => if hre T L p = 97 + i then (if 1 ≤ hre T L (p + 1) - 48 ∧ hre T L (p + 1) - 48 ≤ 9 then thL T L f (i + 1) (p + 1 + 1) (up am i (hre T L (p + 1) - 48)) else (false, p + 1, i, am)) else (true, p, i, am)
def putD (D : GD) (p : Int) (r : Bool × Int × Int × Int × (Int → Int) × (Int → Int)) : GD := (up D.1 p r.2.2.1, up D.2.1 p r.2.2.2.1, fun q => if q = p then r.2.2.2.2.1 else D.2.2.1 q, fun q => if q = p then r.2.2.2.2.2 else D.2.2.2 q)
def hcD (D : GD) (n t : Int) : Int := sm (fun v => if D.1 v = t then 1 else 0) n.toNat 0 0
def lsH (T : Int → Int) (L m : Int) (am : Int → Int) : Nat → Int → Int → GD → Bool × Int × Int × GD
  | 0, who, p, D => (decide (p = L), p, who, D)
  | f + 1, who, p, D => if hre T L p = 59 then
      (if (rdL T L m am (hcD D who) (p + 1)).1 = true then lsH T L m am f (who + 1) (rdL T L m am (hcD D who) (p + 1)).2.1 (putD D who (rdL T L m am (hcD D who) (p + 1)))
       else (false, (rdL T L m am (hcD D who) (p + 1)).2.1, who, D))
    else (decide (p = L), p, who, D)
def D0 : GD := (fun _ => 0, fun _ => 0, fun _ _ => 0, fun _ _ => 0)
/-- a text: good, place, how many people, the lists; the things stand ahead -/
def rdG (T : Int → Int) (L : Int) : Bool × Int × Int × GD :=
  if (thL T L 8 0 0 (fun _ => 0)).1 = true ∧ 0 < (thL T L 8 0 0 (fun _ => 0)).2.2.1 ∧ hre T L (thL T L 8 0 0 (fun _ => 0)).2.1 = 59 then lsH T L (thL T L 8 0 0 (fun _ => 0)).2.2.1 (thL T L 8 0 0 (fun _ => 0)).2.2.2 7 0 (thL T L 8 0 0 (fun _ => 0)).2.1 D0
  else (false, (thL T L 8 0 0 (fun _ => 0)).2.1, 0, D0)
theorem thL_T {T : Int → Int} {L i p : Int} {am : Int → Int} {f : Nat} (h : hre T L p = 97 + i) (h2 : 1 ≤ hre T L (p + 1) - 48 ∧ hre T L (p + 1) - 48 ≤ 9) : thL T L (f + 1) i p am = thL T L f (i + 1) (p + 1 + 1) (up am i (hre T L (p + 1) - 48)) := by
  show (if hre T L p = 97 + i then (if 1 ≤ hre T L (p + 1) - 48 ∧ hre T L (p + 1) - 48 ≤ 9 then thL T L f (i + 1) (p + 1 + 1) (up am i (hre T L (p + 1) - 48)) else (false, p + 1, i, am)) else (true, p, i, am)) = _
  rw [if_pos h, if_pos h2]
theorem thL_B {T : Int → Int} {L i p : Int} {am : Int → Int} {f : Nat} (h : hre T L p = 97 + i) (h2 : ¬ (1 ≤ hre T L (p + 1) - 48 ∧ hre T L (p + 1) - 48 ≤ 9)) : thL T L (f + 1) i p am = (false, p + 1, i, am) := by
  show (if hre T L p = 97 + i then (if 1 ≤ hre T L (p + 1) - 48 ∧ hre T L (p + 1) - 48 ≤ 9 then thL T L f (i + 1) (p + 1 + 1) (up am i (hre T L (p + 1) - 48)) else (false, p + 1, i, am)) else (true, p, i, am)) = _
  rw [if_pos h, if_neg h2]
theorem thL_F {T : Int → Int} {L i p : Int} {am : Int → Int} {f : Nat} (h : ¬ hre T L p = 97 + i) : thL T L (f + 1) i p am = (true, p, i, am) := if_neg h
theorem thL_r {T : Int → Int} {L : Int} : ∀ (f : Nat) (i p : Int) (am : Int → Int), 0 ≤ i → 0 ≤ p → p ≤ L → (f : Int) + i = 8 → (∀ t, 0 ≤ t → t < i → 1 ≤ am t ∧ am t ≤ 9) → (0 ≤ (thL T L f i p am).2.1 ∧ (thL T L f i p am).2.1 ≤ L) ∧ (0 ≤ (thL T L f i p am).2.2.1 ∧ (thL T L f i p am).2.2.1 ≤ 8) ∧ ∀ t, 0 ≤ t → t < (thL T L f i p am).2.2.1 → 1 ≤ (thL T L f i p am).2.2.2 t ∧ (thL T L f i p am).2.2.2 t ≤ 9
  | 0, i, p, am, i0, p0, p1, e, h => ⟨⟨p0, p1⟩, ⟨i0, by show i ≤ 8; omega⟩, h⟩
  | f + 1, i, p, am, i0, p0, p1, e, h => by
    by_cases c : hre T L p = 97 + i
    · have h1 := hre_in c (by omega)
      by_cases c2 : 1 ≤ hre T L (p + 1) - 48 ∧ hre T L (p + 1) - 48 ≤ 9
      · rw [thL_T c c2]
        have h2 := hre_in (T := T) (L := L) (p := p + 1) rfl (by omega)
        refine thL_r f (i + 1) (p + 1 + 1) _ (by omega) (by omega) (by omega) (by omega) (fun t t0 t1 => ?_)
        by_cases z : t = i
        · rw [z, up_s]; exact c2
        · rw [up_n z]; exact h t t0 (by omega)
      · rw [thL_B c c2]
        exact ⟨⟨by show 0 ≤ p + 1; omega, by show p + 1 ≤ L; omega⟩, ⟨i0, by show i ≤ 8; omega⟩, h⟩
    · rw [thL_F c]
      exact ⟨⟨p0, p1⟩, ⟨i0, by show i ≤ 8; omega⟩, h⟩
theorem X_readThings_ok {d : Nat} {K : Int → Mem → Prop} {σ : Mem} {T : Int → Int} {L g : Int} (g0 : 0 ≤ g) (g5 : g ≤ 5) (hT : TX σ T L) (hq : σ 1 2 = 0) (hz : σ (4 + 43 * g) 0 = 0)
    (k : ∀ s2 : Mem, s2 1 2 = (thL T L 8 0 0 (fun _ => 0)).2.1 → s2 (4 + 43 * g) 0 = (thL T L 8 0 0 (fun _ => 0)).2.2.1 → (∀ t, 0 ≤ t → t < (thL T L 8 0 0 (fun _ => 0)).2.2.1 → s2 (5 + 43 * g) t = (thL T L 8 0 0 (fun _ => 0)).2.2.2 t) → (∀ b j, ¬ (b = 1 ∧ j = 2) → ¬ (b = 4 + 43 * g ∧ j = 0) → ¬ b = 5 + 43 * g → s2 b j = σ b j) → K (if (thL T L 8 0 0 (fun _ => 0)).1 = true ∧ 0 < (thL T L 8 0 0 (fun _ => 0)).2.2.1 then 1 else 0) s2) : AM2 i_Tape_readThings (d + 2) [(2, 1), (2, 4 + 43 * g)] σ K := by
  have ck := fun {P : Prop} => ck_g (P := P) g0 g5
  have hL := hT.2.1
  have go : ∀ (f : Nat) (i p : Int) (am : Int → Int) (s : Mem), 0 ≤ i → (f : Int) + i = 8 → 0 ≤ p → p ≤ L → s 1 2 = p → s (4 + 43 * g) 0 = i → (∀ t, 0 ≤ t → t < i → s (5 + 43 * g) t = am t) → (∀ b j, ¬ (b = 1 ∧ j = 2) → ¬ (b = 4 + 43 * g ∧ j = 0) → ¬ b = 5 + 43 * g → s b j = σ b j) → thL T L f i p am = thL T L 8 0 0 (fun _ => 0) → AW2 i_Tape_readThings (d + 2) 2 [] [(0, (2, 1)), (1, (2, 4 + 43 * g)), (2, (0, i))] s K := by
    intro f
    induction f with
    | zero =>
      intro i p am s i0 e p0 p1 hp hi ha f er
      have er : (true, p, i, am) = thL T L 8 0 0 (fun _ => 0) := er
      have kk := k s (by rw [← er]; exact hp) (by rw [← er]; exact hi) (fun t a b => by rw [← er] at b ⊢; exact ha t a b) f
      rw [← er, if_pos ⟨rfl, by show 0 < i; omega⟩] at kk
      exact s_Tape_readThings_2 (brF_i (by omega) kk)
    | succ f ih =>
      intro i p am s i0 e p0 p1 hp hi ha ff er
      have hTs : TX s T L := TX_fr hT (fun b j y => ff b j (by omega) (by omega) (by omega))
      have hr := hre_r (p := p) (L := L) (fun i a b => (hT.2.2 i a b).2) p0
      refine s_Tape_readThings_2 (brT_i (by omega) (X_next_ok hTs hp p0 ?_))
      rw [w32_id (x := 97 + i) (by omega) (by omega), hp, w32_id (x := p + 1) (by omega) (by omega)]
      refine ⟨fun c => ?_, fun c => ?_⟩
      · have hpL := hre_in c (by omega)
        have hT1 : TX (st s 1 2 (p + 1)) T L := TX_fr hTs (fun b j y => by rw [st_ne (by omega)])
        have hr2 := hre_r (p := p + 1) (L := L) (fun i a b => (hT.2.2 i a b).2) (by omega)
        refine X_next_ok hT1 (st_self _ _ _ _) (by omega) ?_
        rw [w32_id (x := hre T L (p + 1) - 48) (by omega) (by omega)]
        have bad : ¬ (1 ≤ hre T L (p + 1) - 48 ∧ hre T L (p + 1) - 48 ≤ 9) → K 0 (st s 1 2 (p + 1)) := fun z => by
          rw [thL_B c z] at er
          have kk := k (st s 1 2 (p + 1)) (by rw [← er, st_self]) (by rw [← er, st_ne (by omega)]; exact hi) (fun t a b => by rw [← er] at b ⊢; rw [st_ne (by omega)]; exact ha t a b) (fun b j y1 y2 y3 => by rw [st_ne y1]; exact ff b j y1 y2 y3)
          rw [← er, if_neg (fun w => by cases w.1)] at kk
          exact kk
        refine ⟨fun z => bad (by omega), fun z => ⟨fun z2 => bad (by omega), fun z2 => ?_⟩⟩
        rw [thL_T c ⟨by omega, by omega⟩] at er
        have hpL2 := hre_in (T := T) (L := L) (p := p + 1) rfl (by omega)
        rw [st_self]
        (try simp (disch := omega) only [w32_id, w64_id, inb_eq, st_self, st_ne, pt3, ck_g, ck_am, ck_he, ck_sz, ck_ls, ck_lv, ck_pa, ck_kn, sn_am, sn_he, sn_sz, sn_ls, sn_lv, sn_pa, sn_kn, pt_am, pt_he, pt_sz, pt_ls, pt_lv, pt_pa, pt_kn, ck_lr, ck_vr, ck_pr, sn_lr, sn_vr, sn_pr, pt_lr, pt_vr, pt_pr, pt_sh, ck_sh, pt_to, ck_to, sn_to])
        refine ih (i + 1) (p + 1 + 1) (up am i (hre T L (p + 1) - 48)) _ (by omega) (by omega) (by omega) (by omega) (by rw [st_ne (by omega), st_ne (by omega), st_self]) (st_self _ _ _ _) (fun t a b => ?_) (fun b j y1 y2 y3 => by rw [st_ne y2, st_ne (by omega), st_ne y1, st_ne y1]; exact ff b j y1 y2 y3) er
        by_cases y : t = i
        · rw [y, up_s, st_ne (by omega), st_self]
        · rw [up_n y, st_ne (by omega), st_ne (by omega), st_ne (by omega), st_ne (by omega)]; exact ha t a (by omega)
      · rw [thL_F c] at er
        have kk := k s (by rw [← er]; exact hp) (by rw [← er]; exact hi) (fun t a b => by rw [← er] at b ⊢; exact ha t a b) ff
        rw [← er] at kk
        refine ⟨fun z => ?_, fun z => ?_⟩
        · rw [if_pos ⟨rfl, z⟩] at kk; exact kk
        · rw [if_neg (fun w => z w.2)] at kk; exact kk
  exact e_Tape_readThings (go 8 0 0 (fun _ => 0) σ (Int.le_refl 0) rfl (Int.le_refl 0) hL.1 hq hz (fun t a b => by omega) (fun _ _ _ _ _ => rfl) rfl)
/-- the lists ahead stand in the class's cells -/
def DX (s : Mem) (g who : Int) (D : GD) : Prop := ∀ p, 0 ≤ p → p < who → s (6 + 43 * g) p = D.1 p ∧ s (7 + 43 * g) p = D.2.1 p ∧ (∀ i, 0 ≤ i → i < D.2.1 p → s (9 + 43 * g + p) i = D.2.2.1 p i) ∧ ∀ t, 0 ≤ t → t < 8 → s (17 + 43 * g + p) t = D.2.2.2 p t
/-- .. and are as lists may be -/
def GWD (m who : Int) (am : Int → Int) (D : GD) : Prop := (∀ p, 0 ≤ p → p < who → GWl m (D.2.1 p) (D.2.2.1 p) (D.2.2.2 p) ∧ -1 ≤ D.1 p ∧ D.1 p < m) ∧ ∀ t, 0 ≤ t → t < m → hcD D who t ≤ am t
theorem hcD_put {D : GD} {who t : Int} {r : Bool × Int × Int × Int × (Int → Int) × (Int → Int)} (w0 : 0 ≤ who) : hcD (putD D who r) (who + 1) t = hcD D who t + (if r.2.2.1 = t then 1 else 0) := by
  unfold hcD
  rw [show (who + 1).toNat = who.toNat + 1 by omega, sm_snoc, show (0 : Int) + (who.toNat : Int) = who by omega]
  show sm (fun v => if up D.1 who r.2.2.1 v = t then 1 else 0) who.toNat 0 0 + (if up D.1 who r.2.2.1 who = t then 1 else 0) = _
  rw [up_s, sm_congr (f' := fun v => if D.1 v = t then 1 else 0) who.toNat 0 0 (fun j a b => by
    show (if up D.1 who r.2.2.1 j = t then (1 : Int) else 0) = _
    rw [up_n (by omega)])]
theorem GWD_put {m who p L : Int} {T am : Int → Int} {D : GD} (m0 : 0 ≤ m) (w0 : 0 ≤ who) (p0 : 0 ≤ p) (p1 : p ≤ L) (ha : ∀ t, 0 ≤ t → t < m → 1 ≤ am t) (h : GWD m who am D) (hr : (rdL T L m am (hcD D who) p).1 = true) : GWD m (who + 1) am (putD D who (rdL T L m am (hcD D who) p)) := by
  have h1 := (rdL_r (T := T) (L := L) (m := m) (p := p) (am := am) (hc := hcD D who) m0 p0 p1).1 hr
  generalize rdL T L m am (hcD D who) p = r at *
  refine ⟨fun q q0 q1 => ?_, fun t t0 t1 => ?_⟩
  · by_cases c : q = who
    · subst c
      show GWl m (up D.2.1 q r.2.2.2.1 q) (if q = q then r.2.2.2.2.1 else D.2.2.1 q) (if q = q then r.2.2.2.2.2 else D.2.2.2 q) ∧ -1 ≤ up D.1 q r.2.2.1 q ∧ up D.1 q r.2.2.1 q < m
      rw [up_s, up_s, if_pos rfl, if_pos rfl]
      exact ⟨h1.1, by omega, by omega⟩
    · show GWl m (up D.2.1 who r.2.2.2.1 q) (if q = who then r.2.2.2.2.1 else D.2.2.1 q) (if q = who then r.2.2.2.2.2 else D.2.2.2 q) ∧ -1 ≤ up D.1 who r.2.2.1 q ∧ up D.1 who r.2.2.1 q < m
      rw [up_n c, up_n c, if_neg c, if_neg c]
      exact h.1 q q0 (by omega)
  · rw [hcD_put w0]
    have h2 := h.2 t t0 t1
    by_cases c : r.2.2.1 = t
    · rw [if_pos c]
      have := h1.2.resolve_left (by omega)
      rw [c] at this
      omega
    · rw [if_neg c]; omega
theorem DX_put {s s2 : Mem} {g who : Int} {D : GD} {r : Bool × Int × Int × Int × (Int → Int) × (Int → Int)} (hD : DX s g who D) (hr : RLX s2 g who r) (w7 : who < 7) (f : ∀ b j, ¬ fLX g who b j → s2 b j = s b j) : DX s2 g (who + 1) (putD D who r) := by
  intro q q0 q1
  unfold fLX at f
  by_cases c : q = who
  · subst c
    show s2 (6 + 43 * g) q = up D.1 q r.2.2.1 q ∧ s2 (7 + 43 * g) q = up D.2.1 q r.2.2.2.1 q ∧ (∀ i, 0 ≤ i → i < up D.2.1 q r.2.2.2.1 q → s2 (9 + 43 * g + q) i = (if q = q then r.2.2.2.2.1 else D.2.2.1 q) i) ∧ ∀ t, 0 ≤ t → t < 8 → s2 (17 + 43 * g + q) t = (if q = q then r.2.2.2.2.2 else D.2.2.2 q) t
    rw [up_s, up_s, if_pos rfl, if_pos rfl]
    exact hr
  · show s2 (6 + 43 * g) q = up D.1 who r.2.2.1 q ∧ s2 (7 + 43 * g) q = up D.2.1 who r.2.2.2.1 q ∧ (∀ i, 0 ≤ i → i < up D.2.1 who r.2.2.2.1 q → s2 (9 + 43 * g + q) i = (if q = who then r.2.2.2.2.1 else D.2.2.1 q) i) ∧ ∀ t, 0 ≤ t → t < 8 → s2 (17 + 43 * g + q) t = (if q = who then r.2.2.2.2.2 else D.2.2.2 q) t
    rw [up_n c, up_n c, if_neg c, if_neg c]
    have h := hD q q0 (by omega)
    refine ⟨by rw [f _ _ (by omega)]; exact h.1, by rw [f _ _ (by omega)]; exact h.2.1, fun i a b => by rw [f _ _ (by omega)]; exact h.2.2.1 i a b, fun t a b => by rw [f _ _ (by omega)]; exact h.2.2.2 t a b⟩
def fGX (g b j : Int) : Prop := (b = 1 ∧ j = 2) ∨ (b = 4 + 43 * g ∧ 0 ≤ j ∧ j ≤ 2) ∨ (5 + 43 * g ≤ b ∧ b ≤ 7 + 43 * g) ∨ (9 + 43 * g ≤ b ∧ b ≤ 15 + 43 * g) ∨ (17 + 43 * g ≤ b ∧ b ≤ 23 + 43 * g)
theorem X_readLists_ok {d : Nat} {K : Int → Mem → Prop} {σ : Mem} {T am : Int → Int} {L g m p1 : Int} (g0 : 0 ≤ g) (g5 : g ≤ 5) (hm : 1 ≤ m ∧ m ≤ 8) (hT : TX σ T L) (hq : σ 1 2 = p1) (hp0 : 0 ≤ p1) (hp1 : p1 ≤ L) (em : σ (4 + 43 * g) 0 = m) (ha : ∀ t, 0 ≤ t → t < m → σ (5 + 43 * g) t = am t ∧ 1 ≤ am t) (h59 : hre T L p1 = 59)
    (k1 : ∀ s2 : Mem, (lsH T L m am 7 0 p1 D0).1 = true → s2 1 2 = (lsH T L m am 7 0 p1 D0).2.1 → s2 (4 + 43 * g) 1 = (lsH T L m am 7 0 p1 D0).2.2.1 → (1 ≤ (lsH T L m am 7 0 p1 D0).2.2.1 ∧ (lsH T L m am 7 0 p1 D0).2.2.1 ≤ 7) → DX s2 g (lsH T L m am 7 0 p1 D0).2.2.1 (lsH T L m am 7 0 p1 D0).2.2.2 → GWD m (lsH T L m am 7 0 p1 D0).2.2.1 am (lsH T L m am 7 0 p1 D0).2.2.2 → (∀ b j, ¬ (b = 4 + 43 * g ∧ j = 1) → (∀ w, 0 ≤ w → w < 7 → ¬ fLX g w b j) → s2 b j = σ b j) → K 1 s2) (k0 : ∀ s2 : Mem, (lsH T L m am 7 0 p1 D0).1 = false → s2 1 2 = (lsH T L m am 7 0 p1 D0).2.1 → (∀ b j, ¬ (b = 4 + 43 * g ∧ j = 1) → (∀ w, 0 ≤ w → w < 7 → ¬ fLX g w b j) → s2 b j = σ b j) → K 0 s2) : AM2 i_Tape_readLists (d + 4) [(2, 1), (2, 4 + 43 * g)] σ K := by
  have ck := fun {P : Prop} => ck_g (P := P) g0 g5
  have hL := hT.2.1
  have go : ∀ (f : Nat) (who p : Int) (D : GD) (s : Mem), 0 ≤ who → (f : Int) + who = 7 → 0 ≤ p → p ≤ L → s 1 2 = p → (0 < who → s (4 + 43 * g) 1 = who) → (who = 0 → hre T L p = 59) → DX s g who D → GWD m who am D → (∀ b j, ¬ (b = 4 + 43 * g ∧ j = 1) → (∀ w, 0 ≤ w → w < 7 → ¬ fLX g w b j) → s b j = σ b j) → lsH T L m am f who p D = lsH T L m am 7 0 p1 D0 → AW2 i_Tape_readLists (d + 4) 2 [] [(0, (2, 1)), (1, (2, 4 + 43 * g)), (2, (0, who))] s K := by
    intro f
    induction f with
    | zero =>
      intro who p D s w0 e p0 pL hp hw hw0 hD hG ff er
      have er : (decide (p = L), p, who, D) = lsH T L m am 7 0 p1 D0 := er
      have e11 : s 1 1 = L := by rw [ff 1 1 (by omega) (fun w _ _ y => by unfold fLX at y; omega)]; exact hT.1
      refine s_Tape_readLists_2 (brF_i (by omega) ?_)
      rw [hp, e11]
      rw [← er] at k1 k0
      refine ⟨fun z => k1 s (decide_eq_true z) hp (hw (by omega)) (by show 1 ≤ who ∧ who ≤ 7; omega) hD hG ff, fun z => k0 s (decide_eq_false z) hp ff⟩
    | succ f ih =>
      intro who p D s w0 e p0 pL hp hw hw0 hD hG ff er
      have hTs : TX s T L := TX_fr hT (fun b j y => ff b j (by omega) (fun w _ _ z => by unfold fLX at z; omega))
      have e11 : s 1 1 = L := hTs.1
      -- the list of who, behind its ;
      have body : (0 < who → ¬ p = L) → AM2 i_Tape_next (d + 3) [(2, 1)] s (fun w1 σ1 => (w1 = 59 → chkK (4 + 43 * g) 3 (AM2 i_Tape_readList (d + 3) [(2, 1), (2, 4 + 43 * g), (0, who)] (st (st σ1 1 2 (w32 ((σ1 1 2) + 1))) (4 + 43 * g) 1 (w32 (who + 1))) (fun w2 σ2 => (w2 = 0 → K 0 σ2) ∧ (¬ w2 = 0 → AW2 i_Tape_readLists (d + 4) 2 [] [(0, (2, 1)), (1, (2, 4 + 43 * g)), (2, (0, w32 (who + 1)))] σ2 K)))) ∧ (¬ w1 = 59 → K 0 σ1)) := by
        intro hpL
        refine X_next_ok hTs hp p0 ⟨fun c => ?_, fun c => ?_⟩
        · rw [ck, hp, w32_id (x := p + 1) (by omega) (by omega), w32_id (x := who + 1) (by omega) (by omega)]
          have hlt := hre_in c (by decide)
          have er2 : (if (rdL T L m am (hcD D who) (p + 1)).1 = true then lsH T L m am f (who + 1) (rdL T L m am (hcD D who) (p + 1)).2.1 (putD D who (rdL T L m am (hcD D who) (p + 1))) else (false, (rdL T L m am (hcD D who) (p + 1)).2.1, who, D)) = lsH T L m am 7 0 p1 D0 := by
            rw [← er]
            show _ = (if hre T L p = 59 then _ else _)
            rw [if_pos c]
          have f1 : ∀ b j, ¬ (b = 1 ∧ j = 2) → ¬ (b = 4 + 43 * g ∧ j = 1) → st (st s 1 2 (p + 1)) (4 + 43 * g) 1 (who + 1) b j = s b j := fun b j y1 y2 => by rw [st_ne y2, st_ne y1]
          have hpos := (rdL_r (T := T) (L := L) (m := m) (p := p + 1) (am := am) (hc := hcD D who) (by omega) (by omega) (by omega)).2
          have f2 : ∀ (s3 : Mem), (∀ b j, ¬ fLX g who b j → s3 b j = st (st s 1 2 (p + 1)) (4 + 43 * g) 1 (who + 1) b j) → ∀ b j, ¬ (b = 4 + 43 * g ∧ j = 1) → (∀ w, 0 ≤ w → w < 7 → ¬ fLX g w b j) → s3 b j = σ b j := fun s3 f3 b j y1 y2 => by
            have y3 := y2 who w0 (by omega)
            rw [f3 b j y3, f1 b j (by unfold fLX at y3; omega) y1]
            exact ff b j y1 y2
          refine X_readList_ok (T := T) (L := L) (m := m) (n := who + 1) (q := p + 1) (am := am) (hc := hcD D who) g0 g5 w0 (by omega) hm (by omega) (TX_fr hTs (fun b j y => f1 b j (by omega) (by omega))) (by rw [st_ne (by omega), st_self]) (by omega) (by omega) (by rw [f1 _ _ (by omega) (by omega), ff _ _ (by omega) (fun w _ _ z => by unfold fLX at z; omega)]; exact em) (st_self _ _ _ _) (fun t a b => by rw [f1 _ _ (by omega) (by omega), ff _ _ (by omega) (fun w _ _ z => by unfold fLX at z; omega)]; exact (ha t a b).1) (fun t a b => ?_) (fun s3 x1 x2 x3 x4 => br1 ?_) (fun s3 x1 x2 x4 => br0 ?_)
          · rw [show (who + 1).toNat = who.toNat + 1 by omega, sm_snoc, show (0 : Int) + (who.toNat : Int) = who by omega, if_pos rfl, if_neg (show ¬ (-1 : Int) = t by omega), Int.add_zero]
            unfold hcD
            refine sm_congr _ 0 0 (fun v v0 v1 => ?_)
            rw [if_neg (show ¬ v = who by omega), f1 _ _ (by omega) (by omega), (hD v v0 (by omega)).1]
          · rw [if_pos x1] at er2
            refine ih (who + 1) (rdL T L m am (hcD D who) (p + 1)).2.1 _ s3 (by omega) (by omega) hpos.1 hpos.2 x2 (fun _ => by rw [x4 _ _ (by unfold fLX; omega), st_self]) (fun z => by omega) (DX_put (s := st (st s 1 2 (p + 1)) (4 + 43 * g) 1 (who + 1)) (fun q q0 q1 => ?_) x3 (by omega) x4) (GWD_put (by omega) w0 (by omega) (by omega) (fun t a b => (ha t a b).2) hG x1) (f2 s3 x4) er2
            have h := hD q q0 q1
            exact ⟨by rw [f1 _ _ (by omega) (by omega)]; exact h.1, by rw [f1 _ _ (by omega) (by omega)]; exact h.2.1, fun i a b => by rw [f1 _ _ (by omega) (by omega)]; exact h.2.2.1 i a b, fun t a b => by rw [f1 _ _ (by omega) (by omega)]; exact h.2.2.2 t a b⟩
          · rw [x1, if_neg (by decide)] at er2
            rw [← er2] at k0
            exact k0 s3 rfl x2 (f2 s3 x4)
        · have er2 : (decide (p = L), p, who, D) = lsH T L m am 7 0 p1 D0 := by
            rw [← er]
            show _ = (if hre T L p = 59 then _ else _)
            rw [if_neg c]
          rw [← er2] at k0
          by_cases z : who = 0
          · exact absurd (hw0 z) c
          · exact k0 s (decide_eq_false (hpL (by omega))) hp ff
      refine s_Tape_readLists_2 (brT_i (by omega) ⟨fun z => ?_, fun z => body (fun y => absurd y z)⟩)
      rw [hp, e11]
      refine ⟨fun y => ?_, fun y => body (fun _ => y)⟩
      have er2 : (decide (p = L), p, who, D) = lsH T L m am 7 0 p1 D0 := by
        rw [← er]
        show _ = (if hre T L p = 59 then _ else _)
        rw [if_neg (by intro c; have := hre_in c (by decide); omega)]
      rw [← er2] at k1
      exact k1 s (decide_eq_true y) hp (hw z) (by show 1 ≤ who ∧ who ≤ 7; omega) hD hG ff
  exact e_Tape_readLists (go 7 0 p1 D0 σ (Int.le_refl 0) rfl hp0 hp1 hq (fun z => by omega) (fun _ => h59) (fun q a b => by omega) ⟨fun q a b => by omega, fun t a b => by have := (ha t a b).2; show (0 : Int) ≤ am t; omega⟩ (fun _ _ _ _ => rfl) rfl)
