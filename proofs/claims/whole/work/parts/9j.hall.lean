-- ===== parted: who can still be given a thing each
/-- the q from p on can be given a thing each: no more of a thing than fr, no fewer than mu -/
def Cm (m : Int) (T : Int → Int) : Nat → Int → (Int → Int) → (Int → Int) → Prop
  | 0, _, _, mu => ∀ t, 0 ≤ t → t < m → mu t ≤ 0
  | q + 1, p, fr, mu => ∃ t, (0 ≤ t ∧ t < m ∧ 0 < T (8 * p + t) ∧ 0 < fr t) ∧ Cm m T q (p + 1) (up fr t (fr t - 1)) (up mu t (mu t - 1))
def anB (f : Int → Bool) : Nat → Bool
  | 0 => false
  | k + 1 => anB f k || f k
theorem anB_iff {f : Int → Bool} : ∀ k : Nat, anB f k = true ↔ ∃ t : Int, 0 ≤ t ∧ t < k ∧ f t = true
  | 0 => ⟨fun h => absurd h (by show ¬ false = true; decide), fun ⟨i, a, b, _⟩ => by omega⟩
  | k + 1 => by
    have e : anB f (k + 1) = (anB f k || f k) := rfl
    rw [e, Bool.or_eq_true, anB_iff k]
    constructor
    · rintro (⟨i, a, b, h⟩ | h)
      · exact ⟨i, a, by omega, h⟩
      · exact ⟨k, by omega, by omega, h⟩
    · rintro ⟨i, a, b, h⟩
      by_cases y : i = k
      · rw [y] at h; exact Or.inr h
      · exact Or.inl ⟨i, a, by omega, h⟩
def hitS (m : Int) (T : Int → Int) (S : Int → Bool) (x : Int) : Bool := anB (fun t => decide (0 < T (8 * x + t)) && S t) m.toNat
def subS (m : Int) (T : Int → Int) (S : Int → Bool) (x : Int) : Bool := !(anB (fun t => decide (0 < T (8 * x + t)) && !S t) m.toNat)
theorem hit_iff {m x : Int} {T : Int → Int} {S : Int → Bool} : hitS m T S x = true ↔ ∃ t, 0 ≤ t ∧ t < m ∧ 0 < T (8 * x + t) ∧ S t = true := by
  unfold hitS
  rw [anB_iff]
  constructor
  · rintro ⟨t, a, b, h⟩
    rw [Bool.and_eq_true, decide_eq_true_eq] at h
    exact ⟨t, a, by omega, h.1, h.2⟩
  · rintro ⟨t, a, b, h1, h2⟩
    exact ⟨t, a, by omega, by rw [Bool.and_eq_true, decide_eq_true_eq]; exact ⟨h1, h2⟩⟩
theorem sub_iff {m x : Int} {T : Int → Int} {S : Int → Bool} : subS m T S x = true ↔ ∀ t, 0 ≤ t → t < m → 0 < T (8 * x + t) → S t = true := by
  unfold subS
  rw [Bool.not_eq_true', ← Bool.not_eq_true, anB_iff]
  constructor
  · intro h t a b c
    cases hs : S t with
    | true => rfl
    | false => exact absurd ⟨t, a, by omega, by rw [hs, decide_eq_true c]; rfl⟩ h
  · rintro h ⟨t, a, b, c⟩
    rw [Bool.and_eq_true, decide_eq_true_eq] at c
    have := h t a (by omega) c.1
    rw [this] at c
    exact absurd c.2 (by decide)
def fSs (m : Int) (fr : Int → Int) (S : Int → Bool) : Int := sm (fun t => if S t = true then fr t else 0) m.toNat 0 0
def nSs (m : Int) (mu : Int → Int) (S : Int → Bool) : Int := sm (fun t => if S t = true then maxI 0 (mu t) else 0) m.toNat 0 0
def cNs (m : Int) (T : Int → Int) (q : Nat) (p : Int) (S : Int → Bool) : Int := sm (fun x => if subS m T S x = true then 1 else 0) q p 0
def cMs (m : Int) (T : Int → Int) (q : Nat) (p : Int) (S : Int → Bool) : Int := sm (fun x => if hitS m T S x = true then 1 else 0) q p 0
def HC (m : Int) (T : Int → Int) (q : Nat) (p : Int) (fr mu : Int → Int) : Prop := ∀ S : Int → Bool, cNs m T q p S ≤ fSs m fr S ∧ nSs m mu S ≤ cMs m T q p S
theorem max0 (v : Int) : 0 ≤ maxI 0 v ∧ v ≤ maxI 0 v ∧ (maxI 0 v = 0 ∨ maxI 0 v = v) := by unfold maxI; split <;> omega
theorem sm_z {f : Int → Int} : ∀ (q : Nat) (i : Int), (∀ j, i ≤ j → j < i + q → f j = 0) → sm f q i 0 = 0
  | 0, _, _ => rfl
  | q + 1, i, h => by rw [sm_snoc, sm_z q i (fun j a b => h j a (by omega)), h (i + q) (by omega) (by omega)]; rfl
theorem sm_4 {f g f' g' : Int → Int} : ∀ (q : Nat) (i : Int), (∀ j, i ≤ j → j < i + q → f j + g j ≤ f' j + g' j) → sm f q i 0 + sm g q i 0 ≤ sm f' q i 0 + sm g' q i 0
  | 0, _, _ => Int.le_refl _
  | q + 1, i, h => by
    have h1 := sm_4 (f := f) (g := g) (f' := f') (g' := g') q i (fun j a b => h j a (by omega))
    have h2 := h (i + q) (by omega) (by omega)
    rw [sm_snoc, sm_snoc, sm_snoc, sm_snoc]
    omega
theorem sm_mo {f g : Int → Int} (q : Nat) (i : Int) (h : ∀ j, i ≤ j → j < i + q → f j ≤ g j) : sm f q i 0 ≤ sm g q i 0 := by
  have := sm_4 (f := f) (g := fun _ => 0) (f' := g) (g' := fun _ => 0) q i (fun j a b => by have := h j a b; omega)
  omega
theorem sm_nn {f : Int → Int} (q : Nat) (i : Int) (h : ∀ j, i ≤ j → j < i + q → 0 ≤ f j) : 0 ≤ sm f q i 0 := by
  have := sm_mo (f := fun _ => 0) (g := f) q i h
  rw [sm_z q i (fun _ _ _ => rfl)] at this
  exact this
theorem cNs_s {m p : Int} {T : Int → Int} {q : Nat} {S : Int → Bool} : cNs m T (q + 1) p S = (if subS m T S p = true then 1 else 0) + cNs m T q (p + 1) S := by
  unfold cNs
  show sm (fun x => if subS m T S x = true then 1 else 0) q (p + 1) (0 + if subS m T S p = true then 1 else 0) = _
  rw [sm_acc, Int.zero_add]
theorem cMs_s {m p : Int} {T : Int → Int} {q : Nat} {S : Int → Bool} : cMs m T (q + 1) p S = (if hitS m T S p = true then 1 else 0) + cMs m T q (p + 1) S := by
  unfold cMs
  show sm (fun x => if hitS m T S x = true then 1 else 0) q (p + 1) (0 + if hitS m T S p = true then 1 else 0) = _
  rw [sm_acc, Int.zero_add]
theorem fSs_up {m t : Int} {fr : Int → Int} {S : Int → Bool} (t0 : 0 ≤ t) (t1 : t < m) : fSs m (up fr t (fr t - 1)) S = fSs m fr S - (if S t = true then 1 else 0) := by
  unfold fSs
  rw [sm_set (f := fun x => if S x = true then up fr t (fr t - 1) x else 0) (f' := fun x => if S x = true then fr x else 0) (d := t) m.toNat 0 0 t0 (by omega) (fun j _ _ y => by
    show (if S j = true then up fr t (fr t - 1) j else 0) = if S j = true then fr j else 0
    rw [up_n y])]
  show _ + (if S t = true then up fr t (fr t - 1) t else 0) - (if S t = true then fr t else 0) = _
  rw [up_s]
  split <;> omega
theorem nSs_up {m t : Int} {mu : Int → Int} {S : Int → Bool} (t0 : 0 ≤ t) (t1 : t < m) : nSs m (up mu t (mu t - 1)) S = nSs m mu S - (if S t = true ∧ 0 < mu t then 1 else 0) := by
  unfold nSs
  rw [sm_set (f := fun x => if S x = true then maxI 0 (up mu t (mu t - 1) x) else 0) (f' := fun x => if S x = true then maxI 0 (mu x) else 0) (d := t) m.toNat 0 0 t0 (by omega) (fun j _ _ y => by
    show (if S j = true then maxI 0 (up mu t (mu t - 1) j) else 0) = if S j = true then maxI 0 (mu j) else 0
    rw [up_n y])]
  show _ + (if S t = true then maxI 0 (up mu t (mu t - 1) t) else 0) - (if S t = true then maxI 0 (mu t) else 0) = _
  rw [up_s]
  by_cases c : S t = true
  · rw [if_pos c, if_pos c]
    by_cases y : 0 < mu t
    · rw [if_pos ⟨c, y⟩]; unfold maxI; rw [if_pos y]; split <;> omega
    · rw [if_neg (fun w => y w.2)]; unfold maxI; rw [if_neg y, if_neg (by omega)]; omega
  · rw [if_neg c, if_neg c, if_neg (fun w => c w.1)]; omega
theorem Cm_HC {m : Int} {T : Int → Int} : ∀ (q : Nat) (p : Int) (fr mu : Int → Int), (∀ t, 0 ≤ t → t < m → 0 ≤ fr t) → Cm m T q p fr mu → HC m T q p fr mu
  | 0, p, fr, mu, hf, h => fun S => by
    have h1 : 0 ≤ fSs m fr S := sm_nn _ _ (fun j a b => by
      show 0 ≤ if S j = true then fr j else 0
      split
      · exact hf j a (by omega)
      · exact Int.le_refl 0)
    have h2 : nSs m mu S = 0 := sm_z _ _ (fun j a b => by
      show (if S j = true then maxI 0 (mu j) else 0) = 0
      have := h j a (by omega)
      have e : maxI 0 (mu j) = 0 := by unfold maxI; rw [if_neg (by omega)]
      rw [e]; split <;> rfl)
    exact ⟨h1, by rw [h2]; exact Int.le_refl 0⟩
  | q + 1, p, fr, mu, hf, ⟨t, ⟨t0, t1, tT, tf⟩, h⟩ => fun S => by
    have ih := Cm_HC q (p + 1) _ _ (fun x x0 x1 => by
      by_cases y : x = t
      · rw [y, up_s]; omega
      · rw [up_n y]; exact hf x x0 x1) h S
    rw [fSs_up t0 t1, nSs_up t0 t1] at ih
    rw [cNs_s, cMs_s]
    cases hs : S t with
    | true =>
      rw [hs, if_pos rfl] at ih
      have hh : hitS m T S p = true := hit_iff.mpr ⟨t, t0, t1, tT, hs⟩
      rw [if_pos hh]
      have h2 : (if (true = true) ∧ 0 < mu t then (1 : Int) else 0) ≤ 1 := by split <;> omega
      refine ⟨?_, by omega⟩
      split <;> omega
    | false =>
      rw [hs, if_neg (by decide), if_neg (fun w => absurd w.1 (by decide))] at ih
      have hh : ¬ subS m T S p = true := fun w => by
        have := sub_iff.mp w t t0 t1 tT
        rw [hs] at this; cases this
      rw [if_neg hh]
      refine ⟨by omega, ?_⟩
      split <;> omega
/-- the other way: by sets that are just full, and such as just lack -/
theorem HC_good {m p : Int} {T fr mu : Int → Int} {q : Nat} (m0 : 0 ≤ m) (hfm : ∀ t, 0 ≤ t → t < m → 0 ≤ fr t ∧ mu t ≤ fr t) (h : HC m T (q + 1) p fr mu) : ∃ t, (0 ≤ t ∧ t < m ∧ 0 < T (8 * p + t)) ∧ HC m T q (p + 1) (up fr t (fr t - 1)) (up mu t (mu t - 1)) := by
  apply Classical.byContradiction
  intro hno
  -- sums of sets
  have fmod : ∀ A B : Int → Bool, fSs m fr (fun t => A t || B t) + fSs m fr (fun t => A t && B t) ≤ fSs m fr A + fSs m fr B := fun A B => sm_4 _ _ (fun j _ _ => by
    show (if (A j || B j) = true then fr j else 0) + (if (A j && B j) = true then fr j else 0) ≤ (if A j = true then fr j else 0) + (if B j = true then fr j else 0)
    cases A j <;> cases B j <;> simp)
  have nmod : ∀ A B : Int → Bool, nSs m mu A + nSs m mu B ≤ nSs m mu (fun t => A t || B t) + nSs m mu (fun t => A t && B t) := fun A B => sm_4 _ _ (fun j _ _ => by
    show (if A j = true then maxI 0 (mu j) else 0) + (if B j = true then maxI 0 (mu j) else 0) ≤ (if (A j || B j) = true then maxI 0 (mu j) else 0) + (if (A j && B j) = true then maxI 0 (mu j) else 0)
    cases A j <;> cases B j <;> simp)
  have Nmod : ∀ A B : Int → Bool, cNs m T q (p + 1) A + cNs m T q (p + 1) B ≤ cNs m T q (p + 1) (fun t => A t || B t) + cNs m T q (p + 1) (fun t => A t && B t) := fun A B => sm_4 _ _ (fun x _ _ => by
    show (if subS m T A x = true then (1 : Int) else 0) + (if subS m T B x = true then 1 else 0) ≤ (if subS m T (fun t => A t || B t) x = true then 1 else 0) + (if subS m T (fun t => A t && B t) x = true then 1 else 0)
    by_cases a : subS m T A x = true
    · have hu : subS m T (fun t => A t || B t) x = true := sub_iff.mpr (fun t t0 t1 tT => by rw [sub_iff.mp a t t0 t1 tT]; rfl)
      rw [if_pos a, if_pos hu]
      by_cases b : subS m T B x = true
      · have hi : subS m T (fun t => A t && B t) x = true := sub_iff.mpr (fun t t0 t1 tT => by rw [sub_iff.mp a t t0 t1 tT, sub_iff.mp b t t0 t1 tT]; rfl)
        rw [if_pos b, if_pos hi]; exact Int.le_refl _
      · rw [if_neg b]; split <;> omega
    · rw [if_neg a]
      by_cases b : subS m T B x = true
      · have hu : subS m T (fun t => A t || B t) x = true := sub_iff.mpr (fun t t0 t1 tT => by rw [sub_iff.mp b t t0 t1 tT, Bool.or_true])
        rw [if_pos b, if_pos hu]; split <;> omega
      · rw [if_neg b]; split <;> split <;> omega)
  have Mmod : ∀ A B : Int → Bool, cMs m T q (p + 1) (fun t => A t || B t) + cMs m T q (p + 1) (fun t => A t && B t) ≤ cMs m T q (p + 1) A + cMs m T q (p + 1) B := fun A B => sm_4 _ _ (fun x _ _ => by
    show (if hitS m T (fun t => A t || B t) x = true then (1 : Int) else 0) + (if hitS m T (fun t => A t && B t) x = true then 1 else 0) ≤ (if hitS m T A x = true then 1 else 0) + (if hitS m T B x = true then 1 else 0)
    by_cases i : hitS m T (fun t => A t && B t) x = true
    · obtain ⟨t, t0, t1, tT, ts⟩ := hit_iff.mp i
      rw [Bool.and_eq_true] at ts
      rw [if_pos i, if_pos (hit_iff.mpr ⟨t, t0, t1, tT, ts.1⟩), if_pos (hit_iff.mpr ⟨t, t0, t1, tT, ts.2⟩)]
      split <;> omega
    · rw [if_neg i]
      by_cases u : hitS m T (fun t => A t || B t) x = true
      · obtain ⟨t, t0, t1, tT, ts⟩ := hit_iff.mp u
        rw [if_pos u]
        rcases Bool.or_eq_true_iff.mp ts with y | y
        · rw [if_pos (hit_iff.mpr ⟨t, t0, t1, tT, y⟩)]; split <;> omega
        · have hb : hitS m T B x = true := hit_iff.mpr ⟨t, t0, t1, tT, y⟩
          rw [if_pos hb]; split <;> omega
      · rw [if_neg u]; split <;> split <;> omega)
  have ha := fun S => (h S).1
  have hb := fun S => (h S).2
  simp only [cNs_s] at ha
  simp only [cMs_s] at hb
  have ha0 : ∀ S, cNs m T q (p + 1) S ≤ fSs m fr S := fun S => by have := ha S; split at this <;> omega
  have hb1 : ∀ S, nSs m mu S ≤ cMs m T q (p + 1) S + 1 := fun S => by have := hb S; split at this <;> omega
  -- the full sets, all of them
  have hU : ∀ k : Nat, (k : Int) ≤ m → ∃ U : Int → Bool, fSs m fr U = cNs m T q (p + 1) U ∧ ∀ t : Int, 0 ≤ t → t < k → (∃ S : Int → Bool, S t = true ∧ fSs m fr S = cNs m T q (p + 1) S) → U t = true := by
    intro k
    induction k with
    | zero =>
      intro _
      refine ⟨fun _ => false, ?_, fun t a b => by omega⟩
      have h1 := ha0 (fun _ => false)
      have h2 : fSs m fr (fun _ => false) = 0 := sm_z _ _ (fun _ _ _ => rfl)
      have h3 : 0 ≤ cNs m T q (p + 1) (fun _ => false) := sm_nn _ _ (fun x _ _ => by
        show 0 ≤ if subS m T (fun _ => false) x = true then (1 : Int) else 0
        split <;> omega)
      omega
    | succ k ih =>
      intro hk
      obtain ⟨U, hU1, hU2⟩ := ih (by omega)
      by_cases c : ∃ S : Int → Bool, S k = true ∧ fSs m fr S = cNs m T q (p + 1) S
      · obtain ⟨S, s1, s2⟩ := c
        refine ⟨fun t => U t || S t, ?_, fun t a b hx => ?_⟩
        · have h1 := fmod U S
          have h2 := Nmod U S
          have h3 := ha0 (fun t => U t || S t)
          have h4 := ha0 (fun t => U t && S t)
          omega
        · by_cases y : t = k
          · show (U t || S t) = true
            rw [y, s1, Bool.or_true]
          · show (U t || S t) = true
            rw [hU2 t a (by omega) hx]; rfl
      · exact ⟨U, hU1, fun t a b hx => by
          by_cases y : t = k
          · rw [y] at hx; exact absurd hx c
          · exact hU2 t a (by omega) hx⟩
  obtain ⟨U, hU1, hU2⟩ := hU m.toNat (by omega)
  have hUp : ¬ subS m T U p = true := fun w => by
    have := ha U
    rw [if_pos w] at this
    omega
  -- what each of the others lacks
  have lack : ∀ t, 0 ≤ t → t < m → 0 < T (8 * p + t) → ¬ U t = true → ∃ S : Int → Bool, nSs m mu S = cMs m T q (p + 1) S + 1 ∧ ¬ (S t = true ∧ 0 < mu t) := fun t t0 t1 tT tU => by
    have hbad : ¬ HC m T q (p + 1) (up fr t (fr t - 1)) (up mu t (mu t - 1)) := fun w => hno ⟨t, ⟨t0, t1, tT⟩, w⟩
    apply Classical.byContradiction
    intro hn
    refine hbad (fun S => ?_)
    rw [fSs_up t0 t1, nSs_up t0 t1]
    have h1 := ha0 S
    have h2 := hb1 S
    constructor
    · by_cases y : S t = true
      · rw [if_pos y]
        by_cases z : fSs m fr S = cNs m T q (p + 1) S
        · exact absurd (hU2 t t0 (by omega) ⟨S, y, z⟩) tU
        · omega
      · rw [if_neg y]; omega
    · by_cases z : nSs m mu S = cMs m T q (p + 1) S + 1
      · by_cases y : S t = true ∧ 0 < mu t
        · rw [if_pos y]; omega
        · exact absurd ⟨S, z, y⟩ hn
      · split <;> omega
  have hex : ∃ t, 0 ≤ t ∧ t < m ∧ 0 < T (8 * p + t) ∧ ¬ U t = true := by
    apply Classical.byContradiction
    intro hn
    refine hUp (sub_iff.mpr (fun t t0 t1 tT => ?_))
    apply Classical.byContradiction
    intro y
    exact hn ⟨t, t0, t1, tT, y⟩
  obtain ⟨tt, tt0, tt1, ttT, ttU⟩ := hex
  obtain ⟨D0, hD0, -⟩ := lack tt tt0 tt1 ttT ttU
  have hD : ∀ k : Nat, (k : Int) ≤ m → ∃ D : Int → Bool, nSs m mu D = cMs m T q (p + 1) D + 1 ∧ ∀ t : Int, 0 ≤ t → t < k → 0 < T (8 * p + t) → ¬ U t = true → ¬ (D t = true ∧ 0 < mu t) := by
    intro k
    induction k with
    | zero => intro _; exact ⟨D0, hD0, fun t a b => by omega⟩
    | succ k ih =>
      intro hk
      obtain ⟨D, hD1, hD2⟩ := ih (by omega)
      by_cases c : 0 < T (8 * p + k) ∧ ¬ U k = true
      · obtain ⟨S, s1, s2⟩ := lack k (by omega) (by omega) c.1 c.2
        refine ⟨fun t => D t && S t, ?_, fun t a b hT hUt w => ?_⟩
        · have h1 := nmod D S
          have h2 := Mmod D S
          have h3 := hb1 (fun t => D t || S t)
          have h4 := hb1 (fun t => D t && S t)
          omega
        · have w : (D t && S t) = true ∧ 0 < mu t := w
          rw [Bool.and_eq_true] at w
          by_cases y : t = k
          · rw [y] at w; exact s2 ⟨w.1.2, w.2⟩
          · exact hD2 t a (by omega) hT hUt ⟨w.1.1, w.2⟩
      · refine ⟨D, hD1, fun t a b hT hUt => ?_⟩
        by_cases y : t = k
        · rw [y] at hT hUt; exact absurd ⟨hT, hUt⟩ c
        · exact hD2 t a (by omega) hT hUt
  obtain ⟨D1, hD1, hD2⟩ := hD m.toNat (by omega)
  -- only those that must be given
  have hDs : ∃ D : Int → Bool, cMs m T q (p + 1) D + 1 ≤ nSs m mu D ∧ (∀ t, 0 ≤ t → t < m → 0 < T (8 * p + t) → D t = true → U t = true) := by
    refine ⟨fun t => D1 t && decide (0 < mu t), ?_, fun t t0 t1 tT hDt => ?_⟩
    · have h1 : nSs m mu (fun t => D1 t && decide (0 < mu t)) = nSs m mu D1 := sm_congr _ _ _ (fun j _ _ => by
        show (if (D1 j && decide (0 < mu j)) = true then maxI 0 (mu j) else 0) = if D1 j = true then maxI 0 (mu j) else 0
        by_cases y : 0 < mu j
        · rw [decide_eq_true y, Bool.and_true]
        · rw [decide_eq_false y, Bool.and_false, if_neg (by decide)]
          unfold maxI
          rw [if_neg y]; split <;> rfl)
      have h2 : cMs m T q (p + 1) (fun t => D1 t && decide (0 < mu t)) ≤ cMs m T q (p + 1) D1 := sm_mo _ _ (fun x _ _ => by
        show (if hitS m T (fun t => D1 t && decide (0 < mu t)) x = true then (1 : Int) else 0) ≤ if hitS m T D1 x = true then 1 else 0
        by_cases y : hitS m T (fun t => D1 t && decide (0 < mu t)) x = true
        · obtain ⟨t, t0, t1, tT, ts⟩ := hit_iff.mp y
          rw [Bool.and_eq_true] at ts
          rw [if_pos y, if_pos (hit_iff.mpr ⟨t, t0, t1, tT, ts.1⟩)]; exact Int.le_refl _
        · rw [if_neg y]; split <;> omega)
      omega
    · have hDt : (D1 t && decide (0 < mu t)) = true := hDt
      rw [Bool.and_eq_true, decide_eq_true_eq] at hDt
      apply Classical.byContradiction
      intro y
      exact hD2 t t0 (by omega) tT y hDt
  obtain ⟨D, hD3, hD4⟩ := hDs
  -- both together
  have e1 : fSs m fr (fun t => U t && !D t) + nSs m mu D ≤ fSs m fr U + nSs m mu (fun t => D t && !U t) := sm_4 _ _ (fun j j0 j1 => by
    show (if (U j && !D j) = true then fr j else 0) + (if D j = true then maxI 0 (mu j) else 0) ≤ (if U j = true then fr j else 0) + (if (D j && !U j) = true then maxI 0 (mu j) else 0)
    have := hfm j j0 (by omega)
    have := max0 (mu j)
    cases U j <;> cases D j <;> simp <;> omega)
  have e2 : cNs m T q (p + 1) U + cMs m T q (p + 1) (fun t => D t && !U t) ≤ cNs m T q (p + 1) (fun t => U t && !D t) + cMs m T q (p + 1) D := sm_4 _ _ (fun x _ _ => by
    show (if subS m T U x = true then (1 : Int) else 0) + (if hitS m T (fun t => D t && !U t) x = true then 1 else 0) ≤ (if subS m T (fun t => U t && !D t) x = true then 1 else 0) + (if hitS m T D x = true then 1 else 0)
    by_cases a : subS m T U x = true
    · have hn : ¬ hitS m T (fun t => D t && !U t) x = true := fun w => by
        obtain ⟨t, t0, t1, tT, ts⟩ := hit_iff.mp w
        rw [sub_iff.mp a t t0 t1 tT] at ts
        simp at ts
      rw [if_pos a, if_neg hn]
      by_cases b : hitS m T D x = true
      · rw [if_pos b]; split <;> omega
      · have hs : subS m T (fun t => U t && !D t) x = true := sub_iff.mpr (fun t t0 t1 tT => by
          rw [sub_iff.mp a t t0 t1 tT]
          cases hd : D t with
          | false => rfl
          | true => exact absurd (hit_iff.mpr ⟨t, t0, t1, tT, hd⟩) b)
        rw [if_pos hs]; split <;> omega
    · rw [if_neg a]
      by_cases b : hitS m T (fun t => D t && !U t) x = true
      · obtain ⟨t, t0, t1, tT, ts⟩ := hit_iff.mp b
        rw [Bool.and_eq_true] at ts
        rw [if_pos b, if_pos (hit_iff.mpr ⟨t, t0, t1, tT, ts.1⟩)]; split <;> omega
      · rw [if_neg b]; split <;> split <;> omega)
  have h1 := ha0 (fun t => U t && !D t)
  have h2 := hb (fun t => D t && !U t)
  have h3 : ¬ hitS m T (fun t => D t && !U t) p = true := fun w => by
    obtain ⟨t, t0, t1, tT, ts⟩ := hit_iff.mp w
    rw [Bool.and_eq_true] at ts
    rw [hD4 t t0 t1 tT ts.1] at ts
    exact absurd ts.2 (by decide)
  rw [if_neg h3] at h2
  omega
theorem HC_Cm {m : Int} {T : Int → Int} (m0 : 0 ≤ m) : ∀ (q : Nat) (p : Int) (fr mu : Int → Int), (∀ t, 0 ≤ t → t < m → 0 ≤ fr t ∧ mu t ≤ fr t) → HC m T q p fr mu → Cm m T q p fr mu
  | 0, p, fr, mu, hfm, h => fun t t0 t1 => by
    have := (h (fun x => decide (x = t))).2
    have e : nSs m mu (fun x => decide (x = t)) = maxI 0 (mu t) := by
      unfold nSs
      rw [sm_set (f := fun x => if decide (x = t) = true then maxI 0 (mu x) else 0) (f' := fun _ => 0) (d := t) m.toNat 0 0 t0 (by omega) (fun j _ _ y => by
        show (if decide (j = t) = true then maxI 0 (mu j) else 0) = 0
        rw [decide_eq_false y]; rfl), sm_z _ _ (fun _ _ _ => rfl)]
      show 0 + (if decide (t = t) = true then maxI 0 (mu t) else 0) - 0 = _
      rw [decide_eq_true rfl, if_pos rfl]; omega
    rw [e] at this
    have h0 : cMs m T 0 p (fun x => decide (x = t)) = 0 := rfl
    have := max0 (mu t)
    omega
  | q + 1, p, fr, mu, hfm, h => by
    obtain ⟨t, ⟨t0, t1, tT⟩, hg⟩ := HC_good m0 hfm h
    have hf : 0 < fr t := by
      have h1 := (hg (fun x => decide (x = t))).1
      have h3 : 0 ≤ cNs m T q (p + 1) (fun x => decide (x = t)) := sm_nn _ _ (fun x _ _ => by
        show 0 ≤ if subS m T (fun x => decide (x = t)) x = true then (1 : Int) else 0
        split <;> omega)
      have e : fSs m (up fr t (fr t - 1)) (fun x => decide (x = t)) = fr t - 1 := by
        unfold fSs
        rw [sm_set (f := fun x => if decide (x = t) = true then up fr t (fr t - 1) x else 0) (f' := fun _ => 0) (d := t) m.toNat 0 0 t0 (by omega) (fun j _ _ y => by
          show (if decide (j = t) = true then up fr t (fr t - 1) j else 0) = 0
          rw [decide_eq_false y]; rfl), sm_z _ _ (fun _ _ _ => rfl)]
        show 0 + (if decide (t = t) = true then up fr t (fr t - 1) t else 0) - 0 = _
        rw [decide_eq_true rfl, if_pos rfl, up_s]; omega
      rw [e] at h1
      omega
    refine ⟨t, ⟨t0, t1, tT, hf⟩, HC_Cm m0 q (p + 1) _ _ (fun x x0 x1 => ?_) hg⟩
    have := hfm x x0 x1
    by_cases y : x = t
    · rw [y, up_s, up_s]; rw [y] at this; omega
    · rw [up_n y, up_n y]; exact this
