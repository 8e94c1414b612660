-- ===== shares: a giving's own numbers, and nothing beside them
def cam (σ : Mem) (g : Int) : Int → Int := fun t => if 0 ≤ t ∧ t < 8 then σ 360 (8 * g + t) else 0
def clI (σ : Mem) (g : Int) : Int → Int → Int := fun p i => if (0 ≤ p ∧ p < 7) ∧ 0 ≤ i ∧ i < 8 then σ 363 (56 * g + 8 * p + i) else 0
def csz (σ : Mem) (g : Int) : Int → Int := fun p => if 0 ≤ p ∧ p < 7 then σ 362 (7 * g + p) else 0
def clv (σ : Mem) (g : Int) : Int → Int → Int := fun p t => if (0 ≤ p ∧ p < 7) ∧ 0 ≤ t ∧ t < 8 then σ 364 (56 * g + 8 * p + t) else 0
def cho (σ : Mem) (g : Int) : Int → Int := fun p => if 0 ≤ p ∧ p < σ 357 g ∧ p < 7 then σ 361 (7 * g + p) else -1
def ctb (σ : Mem) (g : Int) : Int → Int := fun x => if 0 ≤ x ∧ x < 56 then σ 365 (56 * g + x) else 0
theorem cam_e {σ : Mem} {g t : Int} (t0 : 0 ≤ t) (t8 : t < 8) : cam σ g t = σ 360 (8 * g + t) := if_pos ⟨t0, t8⟩
theorem clI_e {σ : Mem} {g p i : Int} (p0 : 0 ≤ p) (p7 : p < 7) (i0 : 0 ≤ i) (i8 : i < 8) : clI σ g p i = σ 363 (56 * g + 8 * p + i) := if_pos ⟨⟨p0, p7⟩, i0, i8⟩
theorem csz_e {σ : Mem} {g p : Int} (p0 : 0 ≤ p) (p7 : p < 7) : csz σ g p = σ 362 (7 * g + p) := if_pos ⟨p0, p7⟩
theorem clv_e {σ : Mem} {g p t : Int} (p0 : 0 ≤ p) (p7 : p < 7) (t0 : 0 ≤ t) (t8 : t < 8) : clv σ g p t = σ 364 (56 * g + 8 * p + t) := if_pos ⟨⟨p0, p7⟩, t0, t8⟩
theorem cho_e {σ : Mem} {g p : Int} (p0 : 0 ≤ p) (p1 : p < σ 357 g) (p7 : p < 7) : cho σ g p = σ 361 (7 * g + p) := if_pos ⟨p0, p1, p7⟩
theorem ctb_e {σ : Mem} {g x : Int} (x0 : 0 ≤ x) (x1 : x < 56) : ctb σ g x = σ 365 (56 * g + x) := if_pos ⟨x0, x1⟩
theorem GA_C {σ : Mem} {g : Int} (h : GA σ g) : LGo (σ 357 g) (σ 358 g) (clI σ g) (csz σ g) ∧ LX σ g (σ 357 g) (σ 358 g) (clI σ g) (csz σ g) ∧ LM σ g (σ 357 g) (σ 358 g) (clI σ g) (csz σ g) := by
  have hn := h.1
  have hs := fun p p0 p1 => h.2.2.2.1 p p0 p1
  have e1 : ∀ p, 0 ≤ p → p < σ 357 g → csz σ g p = σ 362 (7 * g + p) := fun p p0 p1 => csz_e p0 (by omega)
  have e2 : ∀ p i, 0 ≤ p → p < σ 357 g → 0 ≤ i → i < csz σ g p → clI σ g p i = σ 363 (56 * g + 8 * p + i) ∧ i < σ 362 (7 * g + p) := fun p i p0 p1 i0 i1 => by
    rw [e1 p p0 p1] at i1
    have := hs p p0 p1
    exact ⟨clI_e p0 (by omega) i0 (by omega), i1⟩
  refine ⟨⟨fun p p0 p1 => ?_, fun p i p0 p1 i0 i1 => ?_⟩, ⟨fun p p0 p1 => ?_, fun p i p0 p1 i0 i1 => ?_⟩, fun p p0 p1 => ?_, fun p i p0 p1 i0 i1 => ?_⟩
  · rw [e1 p p0 p1]; exact (hs p p0 p1).2
  · rw [(e2 p i p0 p1 i0 i1).1]; exact (h.2.2.2.2 p i p0 p1 i0 (e2 p i p0 p1 i0 i1).2).2
  · rw [e1 p p0 p1]; exact (hs p p0 p1).1
  · rw [(e2 p i p0 p1 i0 i1).1]; exact (h.2.2.2.2 p i p0 p1 i0 (e2 p i p0 p1 i0 i1).2).1
  · rw [e1 p p0 p1]
  · rw [(e2 p i p0 p1 i0 i1).1]
theorem cho_HT {σ : Mem} {g : Int} (hA : GA σ g) (hB : GB σ g) : HT (σ 357 g) (σ 358 g) (cho σ g) := by
  have hn := hA.1
  intro x
  by_cases c : 0 ≤ x ∧ x < σ 357 g ∧ x < 7
  · rw [cho_e c.1 c.2.1 c.2.2]
    have := hB.1 x c.1 c.2.1
    exact ⟨by omega, by omega, fun _ => ⟨c.1, c.2.1⟩⟩
  · have e : cho σ g x = -1 := if_neg c
    rw [e]
    exact ⟨by omega, by omega, fun z => by omega⟩
-- runs, with numbers that are alike where it matters
def REq (m : Int) (S S' : RS) : Prop := (∀ t, 0 ≤ t → t < m → S.1 t = S'.1 t) ∧ S.2 = S'.2
def LEq (n : Int) (ls ls' : Int → Int → Int) (sz sz' : Int → Int) : Prop := (∀ p, 0 ≤ p → p < n → sz p = sz' p) ∧ ∀ p i, 0 ≤ p → p < n → 0 ≤ i → i < sz p → ls p i = ls' p i
theorem REq_trn {n m k p : Int} {ls ls' : Int → Int → Int} {sz sz' : Int → Int} {S S' : RS} (hL : LGo n m ls sz) (hE : LEq n ls ls' sz sz') (p0 : 0 ≤ p) (p1 : p < n) (h : REq m S S') : REq m (trn ls sz S k p) (trn ls' sz' S' k p) := by
  have hs := hL.1 p p0 p1
  have e : frs ls sz S p = frs ls' sz' S' p := by
    unfold frs
    rw [← hE.1 p p0 p1]
    refine fsT_congr _ _ (fun j j0 j1 => ?_)
    have h1 := hE.2 p j p0 p1 j0 (by omega)
    have h2 := hL.2 p j p0 p1 j0 (by omega)
    refine ⟨h1, ?_⟩
    show decide (0 < S.1 (ls p j)) = decide (0 < S'.1 (ls' p j))
    rw [← h1, h.1 _ h2.1 h2.2]
  have hr := frs_r (S := S) hL p0 p1
  unfold trn
  rw [← e]
  generalize frs ls sz S p = t at *
  unfold tk
  by_cases c : t = -1
  · rw [if_pos c, if_pos c]; exact h
  · rw [if_neg c, if_neg c]
    obtain ⟨h1, h2⟩ := h
    refine ⟨fun u u0 u1 => ?_, ?_⟩
    · show up S.1 t (S.1 t - 1) u = up S'.1 t (S'.1 t - 1) u
      by_cases y : u = t
      · rw [y, up_s, up_s, h1 t (by omega) (by omega)]
      · rw [up_n y, up_n y]; exact h1 u u0 u1
    · show (up S.2.1 p (S.2.1 p + 1), up2 S.2.2.1 p (S.2.1 p) t, up2 S.2.2.2 p (S.2.1 p) k) = (up S'.2.1 p (S'.2.1 p + 1), up2 S'.2.2.1 p (S'.2.1 p) t, up2 S'.2.2.2 p (S'.2.1 p) k)
      rw [h2]
theorem REq_rnd {n m : Int} {ls ls' : Int → Int → Int} {sz sz' who : Int → Int} (hL : LGo n m ls sz) (hE : LEq n ls ls' sz sz') (hw : ∀ i, 0 ≤ i → i < n → 0 ≤ who i ∧ who i < n) : ∀ (q : Nat) (i k : Int) (S S' : RS), 0 ≤ i → i + q ≤ n → REq m S S' → REq m (rnd ls sz who q i k S) (rnd ls' sz' who q i k S')
  | 0, _, _, _, _, _, _, h => h
  | q + 1, i, k, S, S', i0, e, h => REq_rnd hL hE hw q (i + 1) (k + 1) _ _ (by omega) (by omega) (REq_trn hL hE (hw i i0 (by omega)).1 (hw i i0 (by omega)).2 h)
theorem REq_rns {n m : Int} {ls ls' : Int → Int → Int} {sz sz' o : Int → Int} {back : Bool} (n0 : 0 ≤ n) (hL : LGo n m ls sz) (hE : LEq n ls ls' sz sz') (hP : PM n o) : ∀ (q : Nat) (r k : Int) (S S' : RS), REq m S S' → REq m (rns ls sz o n back q r k S) (rns ls' sz' o n back q r k S')
  | 0, _, _, _, _, h => h
  | q + 1, r, k, S, S', h => REq_rns n0 hL hE hP q (r + 1) (k + n) _ _ (REq_rnd hL hE (fun i i0 i1 => (whoR_PM (r := r) (back := back) hP i i0 i1).1) n.toNat 0 k S S' (Int.le_refl 0) (by omega) h)
def dlC (σ : Mem) (g : Int) (o : Int → Int) (back : Bool) : RS := dl (σ 357 g) (σ 359 g) o back (cam σ g) (clI σ g) (csz σ g)
theorem C_LEq {σ : Mem} {g : Int} (hA : GA σ g) : LEq (σ 357 g) (gls σ g) (clI σ g) (gsz σ g) (csz σ g) := by
  have hn := hA.1
  refine ⟨fun p p0 p1 => (csz_e p0 (by omega)).symm, fun p i p0 p1 i0 i1 => ?_⟩
  have := (hA.2.2.2.1 p p0 p1).2
  have i1 : i < σ 362 (7 * g + p) := i1
  exact (clI_e p0 (by omega) i0 (by omega)).symm
theorem dlC_e {σ : Mem} {g : Int} {o : Int → Int} {back : Bool} (hA : GA σ g) (hP : PM (σ 357 g) o) : REq (σ 358 g) (dlG σ g o back) (dlC σ g o back) := by
  have hn := hA.1
  exact REq_rns (by omega) (GA_L hA).1 (C_LEq hA) hP _ _ _ _ _ ⟨fun t t0 t1 => (cam_e t0 (by omega)).symm, rfl⟩
theorem adS_e {S S' : RS} {F : Int → Int} (h : S.2 = S'.2) : adS S F = adS S' F := by
  funext x
  unfold adS hs
  rw [h]
def foldC (σ : Mem) (g : Int) (back : Bool) : List (List Nat) → (Int → Int) → Int → Int
  | [], F => F
  | L :: r, F => foldC σ g back r (adS (dlC σ g (oL L) back) F)
theorem foldC_e {σ : Mem} {g : Int} {back : Bool} (hA : GA σ g) : ∀ (r : List (List Nat)) (L : List Nat) (F : Int → Int), CH (L :: r) → (L.length : Int) = σ 357 g → PM (L.length : Int) (oL L) → foldO σ g back (L :: r) F = foldC σ g back (L :: r) F
  | [], L, F, _, hl, hP => by
    show adS (dlG σ g (oL L) back) F = adS (dlC σ g (oL L) back) F
    exact adS_e (dlC_e hA (by rw [← hl]; exact hP)).2
  | L2 :: r, L, F, hC, hl, hP => by
    have hC : nxL L = some L2 ∧ CH (L2 :: r) := hC
    show foldO σ g back (L2 :: r) (adS (dlG σ g (oL L) back) F) = foldC σ g back (L2 :: r) (adS (dlC σ g (oL L) back) F)
    rw [adS_e (dlC_e hA (by rw [← hl]; exact hP)).2]
    exact foldC_e hA r L2 _ hC.2 (by rw [nxL_len hC.1]; exact hl) (nxL_PM hP hC.1)
def cmN (σ : Mem) (g : Int) (back : Bool) : Int → Int := foldC σ g back (pmN (σ 357 g).toNat) (fun _ => 0)
theorem cmN_e {σ : Mem} {g : Int} {back : Bool} (hA : GA σ g) : mnN σ g back = cmN σ g back := by
  have hn := hA.1
  obtain ⟨r, e1, e2, e3⟩ := pm_CH (σ 357 g).toNat (by omega)
  unfold mnN cmN
  rw [e1]
  exact foldC_e hA r _ _ e2 (by rw [List.length_range]; omega) (by rw [List.length_range]; exact range_PM _)
-- mending, likewise
def FEq (n m : Int) (F F' : Int → Int) : Prop := ∀ p t, 0 ≤ p → p < n → 0 ≤ t → t < m → F (8 * p + t) = F' (8 * p + t)
theorem FEq_less {n m p t o : Int} {F F' : Int → Int} (p0 : 0 ≤ p) (p1 : p < n) (t0 : 0 ≤ t) (t1 : t < m) (m8 : m ≤ 8) (h : FEq n m F F') : FEq n m (lessF F (8 * p + t) o) (lessF F' (8 * p + t) o) := by
  intro a b a0 a1 b0 b1
  unfold lessF
  split
  · by_cases y : 8 * a + b = 8 * p + t
    · rw [y, up_s, up_s, h p t p0 p1 t0 t1]
    · rw [up_n y, up_n y]; exact h a b a0 a1 b0 b1
  · exact h a b a0 a1 b0 b1
theorem FEq_cutR {n m R p : Int} {ls ls' : Int → Int → Int} (p0 : 0 ≤ p) (p1 : p < n) (m8 : m ≤ 8) : ∀ (i : Nat) (F F' : Int → Int), (∀ j : Int, 0 ≤ j → j < i → ls p j = ls' p j ∧ 0 ≤ ls p j ∧ ls p j < m) → FEq n m F F' → FEq n m (cutR m R ls p i F) (cutR m R ls' p i F')
  | 0, _, _, _, h => h
  | i + 1, F, F', hl, h => by
    have h1 := hl i (by omega) (by omega)
    have er : rowS m F p = rowS m F' p := sm_congr _ _ _ (fun j j0 j1 => h p j p0 p1 j0 (by omega))
    show FEq n m (cutR m R ls p i (lessF F (8 * p + ls p i) (rowS m F p - 60 * R))) (cutR m R ls' p i (lessF F' (8 * p + ls' p i) (rowS m F' p - 60 * R)))
    rw [← h1.1, ← er]
    exact FEq_cutR p0 p1 m8 i _ _ (fun j a b => hl j a (by omega)) (FEq_less p0 p1 h1.2.1 h1.2.2 m8 h)
theorem FEq_drop {n m p : Int} {lv lv' : Int → Int → Int} {F F' : Int → Int} (m8 : m ≤ 8) (hv : ∀ t, 0 ≤ t → t < m → lv p t = lv' p t) (h : FEq n m F F') : FEq n m (dropF m lv p F) (dropF m lv' p F') := by
  intro a b a0 a1 b0 b1
  rw [dropF_at b0 (by omega), dropF_at b0 (by omega), hv b b0 b1, h a b a0 a1 b0 b1]
theorem FEq_mRows {n m R : Int} {lv lv' ls ls' : Int → Int → Int} {sz sz' : Int → Int} (m8 : m ≤ 8) (hL : LGo n m ls sz) (hE : LEq n ls ls' sz sz') (hv : ∀ p t, 0 ≤ p → p < n → 0 ≤ t → t < m → lv p t = lv' p t) : ∀ (q : Nat) (p : Int) (F F' : Int → Int), 0 ≤ p → p + q ≤ n → FEq n m F F' → FEq n m (mRows m R lv ls sz q p F) (mRows m R lv' ls' sz' q p F')
  | 0, _, _, _, _, _, h => h
  | q + 1, p, F, F', p0, e, h => by
    have hs := hL.1 p p0 (by omega)
    show FEq n m (mRows m R lv ls sz q (p + 1) (cutR m R ls p (sz p).toNat (dropF m lv p F))) (mRows m R lv' ls' sz' q (p + 1) (cutR m R ls' p (sz' p).toNat (dropF m lv' p F')))
    rw [← hE.1 p p0 (by omega)]
    exact FEq_mRows m8 hL hE hv q (p + 1) _ _ (by omega) (by omega) (FEq_cutR p0 (by omega) m8 _ _ _ (fun j j0 j1 => ⟨hE.2 p j p0 (by omega) j0 (by omega), hL.2 p j p0 (by omega) j0 (by omega)⟩) (FEq_drop m8 (fun t t0 t1 => hv p t p0 (by omega) t0 t1) h))
theorem FEq_cutC {n m t : Int} {am am' : Int → Int} (n0 : 0 ≤ n) (t0 : 0 ≤ t) (t1 : t < m) (m8 : m ≤ 8) (ha : am t = am' t) : ∀ (i : Nat) (F F' : Int → Int), (i : Int) ≤ n → FEq n m F F' → FEq n m (cutC n am t i F) (cutC n am' t i F')
  | 0, _, _, _, h => h
  | i + 1, F, F', hi, h => by
    have er : colS n F t = colS n F' t := sm_congr _ _ _ (fun j j0 j1 => h j t j0 (by omega) t0 t1)
    show FEq n m (cutC n am t i (lessF F (8 * (i : Int) + t) (colS n F t - 60 * am t))) (cutC n am' t i (lessF F' (8 * (i : Int) + t) (colS n F' t - 60 * am' t)))
    rw [← ha, ← er]
    exact FEq_cutC n0 t0 t1 m8 ha i _ _ (by omega) (FEq_less (by omega) (by omega) t0 t1 m8 h)
theorem FEq_mCols {n m : Int} {am am' : Int → Int} (n0 : 0 ≤ n) (m8 : m ≤ 8) (ha : ∀ t, 0 ≤ t → t < m → am t = am' t) : ∀ (q : Nat) (t : Int) (F F' : Int → Int), 0 ≤ t → t + q ≤ m → FEq n m F F' → FEq n m (mCols n am q t F) (mCols n am' q t F')
  | 0, _, _, _, _, _, h => h
  | q + 1, t, F, F', t0, e, h => FEq_mCols n0 m8 ha q (t + 1) _ _ (by omega) (by omega) (FEq_cutC n0 t0 (by omega) m8 (ha t t0 (by omega)) n.toNat _ _ (by omega) h)
def cme (σ : Mem) (g : Int) : Int → Int := mendF (σ 357 g) (σ 358 g) (σ 359 g) (clv σ g) (clI σ g) (csz σ g) (cam σ g) (ctb σ g)
theorem cme_e {σ : Mem} {g : Int} {F : Int → Int} (hA : GA σ g) (hF : FEq (σ 357 g) (σ 358 g) F (ctb σ g)) : FEq (σ 357 g) (σ 358 g) (mendG σ g F) (cme σ g) := by
  have hn := hA.1
  exact FEq_mCols (by omega) (by omega) (fun t t0 t1 => (cam_e t0 (by omega)).symm) _ _ _ _ (Int.le_refl 0) (by omega) (FEq_mRows (by omega) (GA_L hA).1 (C_LEq hA) (fun p t p0 p1 t0 t1 => (clv_e p0 (by omega) t0 (by omega)).symm) _ _ _ _ (Int.le_refl 0) (by omega) hF)
