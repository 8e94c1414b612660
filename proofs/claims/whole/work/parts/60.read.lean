-- ===== texts read: what they tell
def hre (T : Int → Int) (L p : Int) : Int := if p < L then T p else -1
/-- a list's things: good, place, how many, the list, the levels -/
def plL (T : Int → Int) (L m : Int) : Nat → Int → Int → Int → (Int → Int) → (Int → Int) → Bool × Int × Int × (Int → Int) × (Int → Int)
  | 0, p, _, z, ls, lv => (false, p, z, ls, lv)
  | f + 1, p, l, z, ls, lv =>
    if 0 ≤ hre T L p - 97 ∧ hre T L p - 97 < m ∧ lv (hre T L p - 97) < 0 then
      (if hre T L (p + 1) = 62 then plL T L m f (p + 1 + 1) (l + 1) (z + 1) (up ls z (hre T L p - 97)) (up lv (hre T L p - 97) l)
      else if hre T L (p + 1) = 61 then plL T L m f (p + 1 + 1) l (z + 1) (up ls z (hre T L p - 97)) (up lv (hre T L p - 97) l)
      else (true, p + 1, z + 1, up ls z (hre T L p - 97), up lv (hre T L p - 97) l))
    else (false, p, z, ls, lv)
/-- a list behind what is held -/
def rdC (T : Int → Int) (L m p : Int) : Bool × Int × Int × (Int → Int) × (Int → Int) :=
  if hre T L p = 45 then (true, p + 1, 0, fun _ => 0, fun _ => -1) else plL T L m 8 p 0 0 (fun _ => 0) (fun _ => -1)
/-- a list: good, place, held, how many, the list, the levels -/
def rdL (T : Int → Int) (L m : Int) (am hc : Int → Int) (p : Int) : Bool × Int × Int × Int × (Int → Int) × (Int → Int) :=
  if hre T L p = 42 then
    (if 0 ≤ hre T L (p + 1) - 97 ∧ hre T L (p + 1) - 97 < m ∧ hc (hre T L (p + 1) - 97) < am (hre T L (p + 1) - 97) then
      ((rdC T L m (p + 1 + 1)).1, (rdC T L m (p + 1 + 1)).2.1, hre T L (p + 1) - 97, (rdC T L m (p + 1 + 1)).2.2)
    else (false, p + 1, -1, 0, fun _ => 0, fun _ => -1))
  else ((rdC T L m p).1, (rdC T L m p).2.1, -1, (rdC T L m p).2.2)
theorem hre_in {T : Int → Int} {L p c : Int} (h : hre T L p = c) (c0 : 0 ≤ c) : p < L := by
  unfold hre at h
  by_cases z : p < L
  · exact z
  · rw [if_neg z] at h; omega
/-- how many things are not yet of the list -/
def nul (m : Int) (lv : Int → Int) : Int := sm (fun t => if lv t < 0 then 1 else 0) m.toNat 0 0
/-- lists as they may stand -/
def GWl (m z : Int) (ls lv : Int → Int) : Prop :=
  (0 ≤ z ∧ z ≤ m) ∧ (∀ i, 0 ≤ i → i < z → (0 ≤ ls i ∧ ls i < m) ∧ 0 ≤ lv (ls i) ∧ lv (ls i) ≤ i) ∧
  (∀ i, 0 ≤ i → i + 1 < z → lv (ls i) ≤ lv (ls (i + 1))) ∧
  (∀ i j, 0 ≤ i → i < z → 0 ≤ j → j < z → ls i = ls j → i = j) ∧
  (∀ t, 0 ≤ t → t < m → -1 ≤ lv t) ∧ ∀ t, 0 ≤ t → t < m → 0 ≤ lv t → ∃ i, 0 ≤ i ∧ i < z ∧ ls i = t
theorem nul_up {m t l : Int} {lv : Int → Int} (t0 : 0 ≤ t) (t1 : t < m) (l0 : 0 ≤ l) (h : lv t < 0) : nul m (up lv t l) = nul m lv - 1 := by
  unfold nul
  rw [sm_set (f := fun u => if up lv t l u < 0 then 1 else 0) (f' := fun u => if lv u < 0 then 1 else 0) (d := t) m.toNat 0 0 t0 (by omega) (fun j _ _ e => by
    show (if up lv t l j < 0 then (1 : Int) else 0) = if lv j < 0 then 1 else 0
    rw [up_n e])]
  show _ + (if up lv t l t < 0 then (1 : Int) else 0) - (if lv t < 0 then 1 else 0) = _
  rw [up_s, if_neg (by omega), if_pos h]
  omega
theorem nul_pos {m t : Int} {lv : Int → Int} (t0 : 0 ≤ t) (t1 : t < m) (h : lv t < 0) : 1 ≤ nul m lv := by
  unfold nul
  rw [sm_set (f := fun u => if lv u < 0 then 1 else 0) (f' := fun u => if u = t then 0 else (if lv u < 0 then 1 else 0)) (d := t) m.toNat 0 0 t0 (by omega) (fun j _ _ e => by
    show (if lv j < 0 then (1 : Int) else 0) = if j = t then 0 else (if lv j < 0 then 1 else 0)
    rw [if_neg e])]
  have := (sm_le (f := fun u => if u = t then 0 else (if lv u < 0 then 1 else 0)) (lo := 0) (hi := 1) m.toNat 0 0 (fun j _ _ => by
    show 0 ≤ (if j = t then (0 : Int) else (if lv j < 0 then 1 else 0)) ∧ (if j = t then (0 : Int) else (if lv j < 0 then 1 else 0)) ≤ 1
    split
    · omega
    · split <;> omega)).1
  show 1 ≤ _ + (if lv t < 0 then (1 : Int) else 0) - (if t = t then 0 else _)
  rw [if_pos h, if_pos rfl]
  omega
/-- what stands while a list is read, at level l -/
def PlI (m l z : Int) (ls lv : Int → Int) : Prop := GWl m z ls lv ∧ (0 ≤ l ∧ l ≤ z) ∧ (∀ i, 0 ≤ i → i < z → lv (ls i) ≤ l) ∧ nul m lv = m - z
theorem PlI_0 {m : Int} (m0 : 0 ≤ m) : PlI m 0 0 (fun _ => 0) (fun _ => -1) := by
  refine ⟨⟨⟨Int.le_refl 0, m0⟩, fun i a b => by omega, fun i a b => by omega, fun i j a b => by omega, fun t _ _ => Int.le_refl (-1), fun t _ _ h => ?_⟩, ⟨Int.le_refl 0, Int.le_refl 0⟩, fun i a b => by omega, ?_⟩
  · have h : (0 : Int) ≤ -1 := h; omega
  · unfold nul
    rw [sm_congr (f' := fun _ => 1) m.toNat 0 0 (fun j _ _ => by show (if (-1 : Int) < 0 then (1 : Int) else 0) = 1; decide)]
    have := sm_le (f := fun _ => 1) (lo := 1) (hi := 1) m.toNat 0 0 (fun _ _ _ => ⟨Int.le_refl 1, Int.le_refl 1⟩)
    omega
theorem PlI_add {m l l' z t : Int} {ls lv : Int → Int} (h : PlI m l z ls lv) (t0 : 0 ≤ t) (t1 : t < m) (ht : lv t < 0) (hl : l' = l ∨ l' = l + 1) : PlI m l' (z + 1) (up ls z t) (up lv t l) := by
  obtain ⟨⟨⟨z0, z1⟩, h2, h3, h4, h5, h6⟩, ⟨l0, l1⟩, h7, h8⟩ := h
  have hnp := nul_pos t0 t1 ht
  have old : ∀ i, 0 ≤ i → i < z → up ls z t i = ls i := fun i a b => up_n (by omega)
  have ne : ∀ i, 0 ≤ i → i < z → ¬ ls i = t := fun i a b e => by have := (h2 i a b).2.1; rw [e] at this; omega
  have lvo : ∀ i, 0 ≤ i → i < z → up lv t l (ls i) = lv (ls i) := fun i a b => up_n (ne i a b)
  refine ⟨⟨⟨by omega, by omega⟩, fun i a b => ?_, fun i a b => ?_, fun i j a b c e x => ?_, fun u u0 u1 => ?_, fun u u0 u1 hu => ?_⟩, ⟨by omega, by omega⟩, fun i a b => ?_, ?_⟩
  · by_cases y : i = z
    · rw [y, up_s, up_s]; exact ⟨⟨t0, t1⟩, l0, l1⟩
    · rw [old i a (by omega), lvo i a (by omega)]; exact h2 i a (by omega)
  · rw [old i a (by omega), lvo i a (by omega)]
    by_cases y : i + 1 = z
    · rw [y, up_s, up_s]; exact h7 i a (by omega)
    · rw [old (i + 1) (by omega) (by omega), lvo (i + 1) (by omega) (by omega)]; exact h3 i a (by omega)
  · by_cases y : i = z
    · by_cases w : j = z
      · omega
      · rw [y, up_s, old j c (by omega)] at x; exact absurd x.symm (ne j c (by omega))
    · by_cases w : j = z
      · rw [w, up_s, old i a (by omega)] at x; exact absurd x (ne i a (by omega))
      · rw [old i a (by omega), old j c (by omega)] at x; exact h4 i j a (by omega) c (by omega) x
  · by_cases y : u = t
    · rw [y, up_s]; omega
    · rw [up_n y]; exact h5 u u0 u1
  · by_cases y : u = t
    · exact ⟨z, z0, by omega, by rw [up_s]; exact y.symm⟩
    · rw [up_n y] at hu
      obtain ⟨i, i0, i1, e⟩ := h6 u u0 u1 hu
      exact ⟨i, i0, by omega, by rw [old i i0 i1]; exact e⟩
  · by_cases y : i = z
    · rw [y, up_s, up_s]; omega
    · rw [old i a (by omega), lvo i a (by omega)]; have := h7 i a (by omega); omega
  · rw [nul_up t0 t1 l0 ht, h8]; omega
theorem plL_T {T : Int → Int} {L m p l z : Int} {ls lv : Int → Int} {f : Nat} (h : 0 ≤ hre T L p - 97 ∧ hre T L p - 97 < m ∧ lv (hre T L p - 97) < 0) : plL T L m (f + 1) p l z ls lv = (if hre T L (p + 1) = 62 then plL T L m f (p + 1 + 1) (l + 1) (z + 1) (up ls z (hre T L p - 97)) (up lv (hre T L p - 97) l)
      else if hre T L (p + 1) = 61 then plL T L m f (p + 1 + 1) l (z + 1) (up ls z (hre T L p - 97)) (up lv (hre T L p - 97) l)
      else (true, p + 1, z + 1, up ls z (hre T L p - 97), up lv (hre T L p - 97) l)) := if_pos h
theorem plL_F {T : Int → Int} {L m p l z : Int} {ls lv : Int → Int} {f : Nat} (h : ¬ (0 ≤ hre T L p - 97 ∧ hre T L p - 97 < m ∧ lv (hre T L p - 97) < 0)) : plL T L m (f + 1) p l z ls lv = (false, p, z, ls, lv) := if_neg h
/-- what a list that is read holds, and where it ends -/
theorem plL_r {T : Int → Int} {L m : Int} : ∀ (f : Nat) (p l z : Int) (ls lv : Int → Int), 0 ≤ p → p ≤ L → PlI m l z ls lv → ((plL T L m f p l z ls lv).1 = true → GWl m (plL T L m f p l z ls lv).2.2.1 (plL T L m f p l z ls lv).2.2.2.1 (plL T L m f p l z ls lv).2.2.2.2) ∧ 0 ≤ (plL T L m f p l z ls lv).2.1 ∧ (plL T L m f p l z ls lv).2.1 ≤ L
  | 0, p, l, z, ls, lv, p0, p1, h => ⟨fun e => (by cases e), p0, p1⟩
  | f + 1, p, l, z, ls, lv, p0, p1, h => by
    by_cases c : 0 ≤ hre T L p - 97 ∧ hre T L p - 97 < m ∧ lv (hre T L p - 97) < 0
    · rw [plL_T c]
      have hpL : p < L := hre_in (c := hre T L p) rfl (by omega)
      by_cases c2 : hre T L (p + 1) = 62
      · rw [if_pos c2]
        have := hre_in c2 (by decide)
        exact plL_r f _ _ _ _ _ (by omega) (by omega) (PlI_add h c.1 c.2.1 c.2.2 (Or.inr rfl))
      · rw [if_neg c2]
        by_cases c3 : hre T L (p + 1) = 61
        · rw [if_pos c3]
          have := hre_in c3 (by decide)
          exact plL_r f _ _ _ _ _ (by omega) (by omega) (PlI_add h c.1 c.2.1 c.2.2 (Or.inl rfl))
        · rw [if_neg c3]
          exact ⟨fun _ => (PlI_add h c.1 c.2.1 c.2.2 (Or.inl rfl)).1, by show 0 ≤ p + 1; omega, by show p + 1 ≤ L; omega⟩
    · rw [plL_F c]
      exact ⟨fun e => (by cases e), p0, p1⟩
theorem rdC_r {T : Int → Int} {L m p : Int} (m0 : 0 ≤ m) (p0 : 0 ≤ p) (p1 : p ≤ L) : ((rdC T L m p).1 = true → GWl m (rdC T L m p).2.2.1 (rdC T L m p).2.2.2.1 (rdC T L m p).2.2.2.2) ∧ 0 ≤ (rdC T L m p).2.1 ∧ (rdC T L m p).2.1 ≤ L := by
  unfold rdC
  by_cases c : hre T L p = 45
  · rw [if_pos c]
    have := hre_in c (by decide)
    exact ⟨fun _ => (PlI_0 m0).1, by show 0 ≤ p + 1; omega, by show p + 1 ≤ L; omega⟩
  · rw [if_neg c]
    exact plL_r 8 p 0 0 _ _ p0 p1 (PlI_0 m0)
theorem rdL_r {T : Int → Int} {L m p : Int} {am hc : Int → Int} (m0 : 0 ≤ m) (p0 : 0 ≤ p) (p1 : p ≤ L) : ((rdL T L m am hc p).1 = true → GWl m (rdL T L m am hc p).2.2.2.1 (rdL T L m am hc p).2.2.2.2.1 (rdL T L m am hc p).2.2.2.2.2 ∧ ((rdL T L m am hc p).2.2.1 = -1 ∨ (0 ≤ (rdL T L m am hc p).2.2.1 ∧ (rdL T L m am hc p).2.2.1 < m ∧ hc (rdL T L m am hc p).2.2.1 < am (rdL T L m am hc p).2.2.1))) ∧ 0 ≤ (rdL T L m am hc p).2.1 ∧ (rdL T L m am hc p).2.1 ≤ L := by
  unfold rdL
  by_cases c : hre T L p = 42
  · rw [if_pos c]
    have h1 := hre_in c (by decide)
    by_cases c2 : 0 ≤ hre T L (p + 1) - 97 ∧ hre T L (p + 1) - 97 < m ∧ hc (hre T L (p + 1) - 97) < am (hre T L (p + 1) - 97)
    · rw [if_pos c2]
      have h2 := hre_in (T := T) (L := L) (p := p + 1) rfl (by omega)
      have := rdC_r (T := T) (L := L) (p := p + 1 + 1) m0 (by omega) (by omega)
      exact ⟨fun e => ⟨this.1 e, Or.inr c2⟩, this.2⟩
    · rw [if_neg c2]
      exact ⟨fun e => (by cases e), by show 0 ≤ p + 1; omega, by show p + 1 ≤ L; omega⟩
  · rw [if_neg c]
    have := rdC_r (T := T) (L := L) (p := p) m0 p0 p1
    exact ⟨fun e => ⟨this.1 e, Or.inl rfl⟩, this.2⟩
-- ===== the class reads
/-- the class's tape -/
def TX (s : Mem) (T : Int → Int) (L : Int) : Prop := s 1 1 = L ∧ (0 ≤ L ∧ L ≤ 120) ∧ ∀ i, 0 ≤ i → i < L → s 2 i = T i ∧ 0 ≤ T i ∧ T i ≤ 255
theorem hre_r {T : Int → Int} {L p : Int} (h : ∀ i, 0 ≤ i → i < L → 0 ≤ T i ∧ T i ≤ 255) (p0 : 0 ≤ p) : -1 ≤ hre T L p ∧ hre T L p ≤ 255 := by
  unfold hre
  split
  · have := h p p0 (by assumption); omega
  · omega
theorem X_next_ok {d : Nat} {K : Int → Mem → Prop} {s : Mem} {T : Int → Int} {L p : Int} (hT : TX s T L) (hp : s 1 2 = p) (p0 : 0 ≤ p) (k : K (hre T L p) s) : AM2 i_Tape_next (d + 1) [(2, 1)] s K := by
  obtain ⟨e, ⟨l0, l1⟩, h⟩ := hT
  unfold hre at k
  refine e_Tape_next ?_
  rw [hp, e]
  refine ⟨fun z => inb_i p0 (by omega) ?_, fun z => ?_⟩
  · rw [if_pos z] at k; rw [(h p p0 z).1]; exact k
  · rw [if_neg z] at k; exact k
theorem TX_fr {s s2 : Mem} {T : Int → Int} {L : Int} (h : TX s T L) (f : ∀ b j, (b = 1 ∧ j = 1) ∨ b = 2 → s2 b j = s b j) : TX s2 T L := by
  obtain ⟨e, l, h⟩ := h
  exact ⟨by rw [f 1 1 (by omega)]; exact e, l, fun i a b => by rw [f 2 i (by omega)]; exact h i a b⟩
theorem X_append_ok {d : Nat} {K : Int → Mem → Prop} {s : Mem} {g p t l z : Int} (g0 : 0 ≤ g) (g5 : g ≤ 5) (p0 : 0 ≤ p) (p7 : p < 7) (t0 : 0 ≤ t) (t8 : t < 8) (hz : s (7 + 43 * g) p = z) (z0 : 0 ≤ z) (z8 : z < 8) (k : K 0 (st (st (st s (9 + 43 * g + p) z t) (17 + 43 * g + p) t l) (7 + 43 * g) p (z + 1))) : AM2 i_Giving_append (d + 1) [(2, 4 + 43 * g), (0, p), (0, t), (0, l)] s K := by
  refine e_Giving_append fun _ _ _ => ?_
  (try simp (disch := omega) only [w32_id, w64_id, inb_eq, st_self, st_ne, pt3, ck_g, ck_am, ck_he, ck_sz, ck_ls, ck_lv, ck_pa, ck_kn, sn_am, sn_he, sn_sz, sn_ls, sn_lv, sn_pa, sn_kn, pt_am, pt_he, pt_sz, pt_ls, pt_lv, pt_pa, pt_kn, ck_lr, ck_vr, ck_pr, sn_lr, sn_vr, sn_pr, pt_lr, pt_vr, pt_pr, pt_sh, ck_sh, pt_to, ck_to, sn_to, hz])
  exact ⟨fun _ => k, fun c => by omega⟩
