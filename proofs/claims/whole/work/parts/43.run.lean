-- ===== run, has, left, led
def gam (σ : Mem) (g : Int) : Int → Int := fun t => σ 360 (8 * g + t)
def gls (σ : Mem) (g : Int) : Int → Int → Int := fun p i => σ 363 (56 * g + 8 * p + i)
def gsz (σ : Mem) (g : Int) : Int → Int := fun p => σ 362 (7 * g + p)
def dlG (σ : Mem) (g : Int) (o : Int → Int) (back : Bool) : RS := dl (σ 357 g) (σ 359 g) o back (gam σ g) (gls σ g) (gsz σ g)
theorem GA_L {σ : Mem} {g : Int} (h : GA σ g) : LGo (σ 357 g) (σ 358 g) (gls σ g) (gsz σ g) ∧ LX σ g (σ 357 g) (σ 358 g) (gls σ g) (gsz σ g) ∧ LM σ g (σ 357 g) (σ 358 g) (gls σ g) (gsz σ g) :=
  ⟨⟨fun p p0 p1 => (h.2.2.2.1 p p0 p1).2, fun p i p0 p1 i0 i1 => (h.2.2.2.2 p i p0 p1 i0 i1).2⟩, ⟨fun p p0 p1 => (h.2.2.2.1 p p0 p1).1, fun p i p0 p1 i0 i1 => (h.2.2.2.2 p i p0 p1 i0 i1).1⟩, fun p _ _ => rfl, fun p i _ _ _ _ => rfl⟩
theorem dlG_fr {σ s : Mem} {g : Int} {o : Int → Int} {back : Bool} (f : ∀ b j, 357 ≤ b → b ≤ 363 → s b j = σ b j) : dlG s g o back = dlG σ g o back := by
  unfold dlG
  rw [f 357 g (by omega) (by omega), f 359 g (by omega) (by omega), show gam s g = gam σ g from funext fun t => f 360 _ (by omega) (by omega), show gls s g = gls σ g from funext fun p => funext fun i => f 363 _ (by omega) (by omega), show gsz s g = gsz σ g from funext fun p => f 362 _ (by omega) (by omega)]
theorem dlG_PI {σ : Mem} {g : Int} {o : Int → Int} {back : Bool} (hA : GA σ g) (hP : PM (σ 357 g) o) : PI (σ 357 g) (σ 358 g) (dlG σ g o back) ∧ ∀ p, 0 ≤ p → p < σ 357 g → 0 ≤ (dlG σ g o back).2.1 p ∧ (dlG σ g o back).2.1 p ≤ 3 := by
  have hn := hA.1
  have h := dl_PI (back := back) (R := σ 359 g) (m := σ 358 g) (GA_L hA).1 hP (by omega) (by omega) (am := gam σ g) (fun t t0 t1 => by have := hA.2.2.1 t t0 t1; unfold gam; omega)
  exact ⟨h.1, fun p p0 p1 => by have := h.2 p p0 p1; unfold dlG; omega⟩
theorem X_dealG {d : Nat} {K : Int → Mem → Prop} {σ : Mem} {g h bk : Int} {o : Int → Int} {back : Bool} (hh : h = 263 ∨ h = 285) (g0 : 0 ≤ g) (g5 : g ≤ 5) (hA : GA σ g) (ho : ∀ i, 0 ≤ i → i < σ 357 g → σ 304 i = o i) (hP : PM (σ 357 g) o) (hb : bk = if back = true then 1 else 0)
    (kk : ∀ s2 : Mem, HR s2 h (σ 357 g) (σ 358 g) (dlG σ g o back) → (∀ b j, ¬ (h ≤ b ∧ b ≤ h + 18) → s2 b j = σ b j) → K 0 s2) : AM2 i_Hand_deal (d + 3) [(2, h), (2, 4 + 43 * g), (2, 304), (0, bk)] σ K := by
  have hn := hA.1
  have hL := GA_L hA
  exact X_deal_ok (R := σ 359 g) (am := gam σ g) hh g0 g5 (by omega) (by omega) (by omega) hA.2.1.1 hA.2.1.2.1 hA.2.1.2.2 hL.1 hL.2.1 hA.2.2.1 ho hP hb kk
theorem M_runsG {d : Nat} {K : Int → Mem → Prop} {σ : Mem} {g bk : Int} {o : Int → Int} {back : Bool} (g0 : 0 ≤ g) (g5 : g ≤ 5) (hA : GA σ g) (ho : ∀ i, 0 ≤ i → i < σ 357 g → σ 379 i = o i) (hP : PM (σ 357 g) o) (hb : bk = if back = true then 1 else 0)
    (kk : ∀ s2 : Mem, MR s2 (σ 357 g) (σ 358 g) (dlG σ g o back) → (∀ b j, ¬ (380 ≤ b ∧ b ≤ 384) → s2 b j = σ b j) → K 0 s2) : AM2 i_M_runs (d + 2) [(2, 356), (0, g), (0, bk)] σ K := by
  have hn := hA.1
  have hL := GA_L hA
  exact M_runs_ok (R := σ 359 g) (am := gam σ g) g0 g5 (by omega) (by omega) (by omega) rfl rfl rfl hL.1 hL.2.2 (fun t t0 t1 => ⟨rfl, (hA.2.2.1 t t0 t1).2⟩) ho hP hb kk
/-- the stored run -/
def MRun (σ : Mem) (n m : Int) (S : RS) : Prop :=
  (∀ t, 0 ≤ t → t < m → σ 369 t = S.1 t) ∧ (∀ p, 0 ≤ p → p < n → σ 372 p = S.2.1 p) ∧
  (∀ p i, 0 ≤ p → p < n → 0 ≤ i → i < S.2.1 p → σ 371 (3 * p + i) = S.2.2.1 p i ∧ σ 370 (3 * p + i) = S.2.2.2 p i) ∧
  ∀ p t, 0 ≤ p → p < n → 0 ≤ t → t < 8 → σ 368 (8 * p + t) = hs S p t
def RunIs (σ : Mem) (g : Int) (S : RS) : Prop := (0 ≤ g ∧ g < σ 356 0) ∧ (σ 0 7 = 4 + 43 * g ∧ σ 356 14 = g) ∧ HR σ 263 (σ 357 g) (σ 358 g) S ∧ (PI (σ 357 g) (σ 358 g) S ∧ ∀ p, 0 ≤ p → p < σ 357 g → 0 ≤ S.2.1 p ∧ S.2.1 p ≤ 3) ∧ MRun σ (σ 357 g) (σ 358 g) S
def I_run (σ : Mem) : Prop := (σ 0 7 = -1 ∧ σ 356 14 = -1) ∨ ∃ g S, RunIs σ g S
theorem M_run_copies {d : Nat} {K : Int → Mem → Prop} {σ : Mem} {g : Int} {S : RS} (g0 : 0 ≤ g) (g5 : g ≤ 5) (hn : 1 ≤ σ 357 g ∧ σ 357 g ≤ 7) (hm : 1 ≤ σ 358 g ∧ σ 358 g ≤ 8) (hM : MR σ (σ 357 g) (σ 358 g) S) (hg : ∀ p, 0 ≤ p → p < σ 357 g → 0 ≤ S.2.1 p ∧ S.2.1 p ≤ 3) (k : ∀ σ2 : Mem, MRun σ2 (σ 357 g) (σ 358 g) S → (∀ b j, ¬ (368 ≤ b ∧ b ≤ 372) → σ2 b j = σ b j) → K 1 σ2) :
    AW2 i_M_run (d + 1) 42 [] [(0, (2, 356)), (1, (0, g)), (4, (0, 0))] σ K := by
  have l105 : ∀ (q : Nat) (i : Int) (s : Mem), 0 ≤ i → i + q = 7 → (∀ s2 : Mem, (∀ p, i ≤ p → p < 7 → s2 372 p = s 384 p) → (∀ b j, ¬ (b = 372 ∧ i ≤ j ∧ j < 7) → s2 b j = s b j) → K 1 s2) → AW2 i_M_run (d + 1) 105 [] [(0, (2, 356)), (4, (0, i))] s K := by
    intro q
    induction q with
    | zero => intro i s i0 e c; exact s_M_run_105 ⟨fun z => by omega, fun _ => c s (fun p _ _ => by omega) (fun _ _ _ => rfl)⟩
    | succ q ih =>
      intro i s i0 e c
      refine s_M_run_105 ⟨fun _ => ?_, fun z => by omega⟩
      (try simp (disch := omega) only [w32_id, w64_id, inb_eq, st_self, st_ne, pt3, ck_g, ck_am, ck_he, ck_sz, ck_ls, ck_lv, ck_pa, ck_kn, sn_am, sn_he, sn_sz, sn_ls, sn_lv, sn_pa, sn_kn, pt_am, pt_he, pt_sz, pt_ls, pt_lv, pt_pa, pt_kn, ck_lr, ck_vr, ck_pr, sn_lr, sn_vr, sn_pr, pt_lr, pt_vr, pt_pr, pt_sh, ck_sh, pt_to, ck_to, sn_to])
      refine ih (i + 1) _ (by omega) (by omega) (fun s2 x1 x2 => c s2 (fun p p0 p1 => ?_) (fun b j z => ?_))
      · by_cases y : p = i
        · subst y; rw [x2 _ _ (by omega), st_self]
        · rw [x1 p (by omega) p1, st_ne (by omega)]
      · rw [x2 b j (by omega), st_ne (by omega)]
  have l82 : ∀ (q : Nat) (i : Int) (s : Mem), 0 ≤ i → i + q = 21 → (∀ s2 : Mem, (∀ p, i ≤ p → p < 21 → s2 370 p = s 382 p ∧ s2 371 p = s 383 p) → (∀ b j, ¬ ((b = 370 ∨ b = 371) ∧ i ≤ j ∧ j < 21) → s2 b j = s b j) → AW2 i_M_run (d + 1) 105 [] [(0, (2, 356)), (4, (0, 0))] s2 K) → AW2 i_M_run (d + 1) 82 [] [(0, (2, 356)), (4, (0, i))] s K := by
    intro q
    induction q with
    | zero => intro i s i0 e c; exact s_M_run_82 ⟨fun z => by omega, fun _ => c s (fun p _ _ => by omega) (fun _ _ _ => rfl)⟩
    | succ q ih =>
      intro i s i0 e c
      refine s_M_run_82 ⟨fun _ => ?_, fun z => by omega⟩
      (try simp (disch := omega) only [w32_id, w64_id, inb_eq, st_self, st_ne, pt3, ck_g, ck_am, ck_he, ck_sz, ck_ls, ck_lv, ck_pa, ck_kn, sn_am, sn_he, sn_sz, sn_ls, sn_lv, sn_pa, sn_kn, pt_am, pt_he, pt_sz, pt_ls, pt_lv, pt_pa, pt_kn, ck_lr, ck_vr, ck_pr, sn_lr, sn_vr, sn_pr, pt_lr, pt_vr, pt_pr, pt_sh, ck_sh, pt_to, ck_to, sn_to])
      refine ih (i + 1) _ (by omega) (by omega) (fun s2 x1 x2 => c s2 (fun p p0 p1 => ?_) (fun b j z => ?_))
      · by_cases y : p = i
        · subst y; rw [x2 _ _ (by omega), x2 _ _ (by omega), st_self, st_ne (by omega), st_self]; exact ⟨rfl, rfl⟩
        · have := x1 p (by omega) p1
          rw [st_ne (by omega), st_ne (by omega), st_ne (by omega), st_ne (by omega)] at this; exact this
      · rw [x2 b j (by omega), st_ne (by omega), st_ne (by omega)]
  have l67 : ∀ (q : Nat) (i : Int) (s : Mem), 0 ≤ i → i + q = 8 → (∀ s2 : Mem, (∀ p, i ≤ p → p < 8 → s2 369 p = s 381 p) → (∀ b j, ¬ (b = 369 ∧ i ≤ j ∧ j < 8) → s2 b j = s b j) → AW2 i_M_run (d + 1) 82 [] [(0, (2, 356)), (4, (0, 0))] s2 K) → AW2 i_M_run (d + 1) 67 [] [(0, (2, 356)), (4, (0, i))] s K := by
    intro q
    induction q with
    | zero => intro i s i0 e c; exact s_M_run_67 ⟨fun z => by omega, fun _ => c s (fun p _ _ => by omega) (fun _ _ _ => rfl)⟩
    | succ q ih =>
      intro i s i0 e c
      refine s_M_run_67 ⟨fun _ => ?_, fun z => by omega⟩
      (try simp (disch := omega) only [w32_id, w64_id, inb_eq, st_self, st_ne, pt3, ck_g, ck_am, ck_he, ck_sz, ck_ls, ck_lv, ck_pa, ck_kn, sn_am, sn_he, sn_sz, sn_ls, sn_lv, sn_pa, sn_kn, pt_am, pt_he, pt_sz, pt_ls, pt_lv, pt_pa, pt_kn, ck_lr, ck_vr, ck_pr, sn_lr, sn_vr, sn_pr, pt_lr, pt_vr, pt_pr, pt_sh, ck_sh, pt_to, ck_to, sn_to])
      refine ih (i + 1) _ (by omega) (by omega) (fun s2 x1 x2 => c s2 (fun p p0 p1 => ?_) (fun b j z => ?_))
      · by_cases y : p = i
        · subst y; rw [x2 _ _ (by omega), st_self]
        · rw [x1 p (by omega) p1, st_ne (by omega)]
      · rw [x2 b j (by omega), st_ne (by omega)]
  have l42 : ∀ (q : Nat) (i : Int) (s : Mem), 0 ≤ i → i + q = 56 → s 357 g = σ 357 g → (∀ s2 : Mem, (∀ p, i ≤ p → p < 8 * σ 357 g → s2 368 p = s 380 p) → (∀ b j, ¬ (b = 368 ∧ i ≤ j ∧ j < 56) → s2 b j = s b j) → AW2 i_M_run (d + 1) 67 [] [(0, (2, 356)), (4, (0, 0))] s2 K) → AW2 i_M_run (d + 1) 42 [] [(0, (2, 356)), (1, (0, g)), (4, (0, i))] s K := by
    intro q
    induction q with
    | zero => intro i s i0 e e7 c; exact s_M_run_42 ⟨fun z => by omega, fun _ => c s (fun p _ _ => by omega) (fun _ _ _ => rfl)⟩
    | succ q ih =>
      intro i s i0 e e7 c
      refine s_M_run_42 ⟨fun _ => ?_, fun z => by omega⟩
      rw [e7]
      (try simp (disch := omega) only [w32_id, w64_id, inb_eq, st_self, st_ne, pt3, ck_g, ck_am, ck_he, ck_sz, ck_ls, ck_lv, ck_pa, ck_kn, sn_am, sn_he, sn_sz, sn_ls, sn_lv, sn_pa, sn_kn, pt_am, pt_he, pt_sz, pt_ls, pt_lv, pt_pa, pt_kn, ck_lr, ck_vr, ck_pr, sn_lr, sn_vr, sn_pr, pt_lr, pt_vr, pt_pr, pt_sh, ck_sh, pt_to, ck_to, sn_to])
      refine ⟨fun _ => ?_, fun _ => ?_⟩
      · refine ih (i + 1) _ (by omega) (by omega) (by rw [st_ne (by omega)]; exact e7) (fun s2 x1 x2 => c s2 (fun p p0 p1 => ?_) (fun b j z => ?_))
        · by_cases y : p = i
          · subst y; rw [x2 _ _ (by omega), st_self]
          · rw [x1 p (by omega) p1, st_ne (by omega)]
        · rw [x2 b j (by omega), st_ne (by omega)]
      · refine ih (i + 1) _ (by omega) (by omega) (by rw [st_ne (by omega)]; exact e7) (fun s2 x1 x2 => c s2 (fun p p0 p1 => ?_) (fun b j z => ?_))
        · rw [x1 p (by omega) p1, st_ne (by omega)]
        · rw [x2 b j (by omega), st_ne (by omega)]
  refine l42 56 0 σ (Int.le_refl 0) rfl rfl (fun s1 a1 f1 => l67 8 0 s1 (Int.le_refl 0) rfl (fun s2 a2 f2 => l82 21 0 s2 (Int.le_refl 0) rfl (fun s3 a3 f3 => l105 7 0 s3 (Int.le_refl 0) rfl (fun s4 a4 f4 => k s4 ⟨fun t t0 t1 => ?_, fun p p0 p1 => ?_, fun p i p0 p1 i0 i1 => ?_, fun p t p0 p1 t0 t1 => ?_⟩ (fun b j z => ?_)))))
  · rw [f4 _ _ (by omega), f3 _ _ (by omega), a2 t t0 (by omega), f1 _ _ (by omega)]; exact hM.1 t t0 t1
  · rw [a4 p p0 (by omega), f3 _ _ (by omega), f2 _ _ (by omega), f1 _ _ (by omega)]; exact hM.2.1 p p0 p1
  · have := hg p p0 p1
    have h3 := a3 (3 * p + i) (by omega) (by omega)
    rw [f4 _ _ (by omega), f4 _ _ (by omega), h3.1, h3.2, f2 _ _ (by omega), f1 _ _ (by omega), f2 _ _ (by omega), f1 _ _ (by omega)]; exact hM.2.2.1 p i p0 p1 i0 i1
  · rw [f4 _ _ (by omega), f3 _ _ (by omega), f2 _ _ (by omega), a1 _ (by omega) (by omega)]; exact hM.2.2.2 p t p0 p1 t0 t1
  · rw [f4 _ _ (by omega), f3 _ _ (by omega), f2 _ _ (by omega), f1 _ _ (by omega)]
theorem MQ_fr {σ s : Mem} {n m : Int} {S : RS} (f : ∀ b j, 368 ≤ b → b ≤ 372 → s b j = σ b j) (h : MRun σ n m S) : MRun s n m S :=
  ⟨fun t t0 t1 => by rw [f _ _ (by omega) (by omega)]; exact h.1 t t0 t1, fun p p0 p1 => by rw [f _ _ (by omega) (by omega)]; exact h.2.1 p p0 p1, fun p i p0 p1 i0 i1 => by rw [f _ _ (by omega) (by omega), f _ _ (by omega) (by omega)]; exact h.2.2.1 p i p0 p1 i0 i1, fun p t p0 p1 t0 t1 => by rw [f _ _ (by omega) (by omega)]; exact h.2.2.2 p t p0 p1 t0 t1⟩
/-- what a run's place is: both sides' cells of the latest run -/
def fRun (b j : Int) : Prop := (263 ≤ b ∧ b ≤ 281) ∨ (b = 0 ∧ j = 7) ∨ (b = 356 ∧ j = 14) ∨ (368 ≤ b ∧ b ≤ 372)
theorem RunIs_fr {σ s : Mem} {g : Int} {S : RS} (hI : I_giv σ) (f : ∀ b j, fRun b j → s b j = σ b j) (f2 : s 356 0 ≥ σ 356 0) (f3 : ∀ j, j < σ 356 0 → s 357 j = σ 357 j ∧ s 358 j = σ 358 j) (h : RunIs σ g S) : RunIs s g S := by
  unfold fRun at f
  obtain ⟨⟨g0, g1⟩, ⟨a1, a2⟩, h1, h2, h3⟩ := h
  have hn := (hI.2.2.2 g g0 g1).1.1
  have e := f3 g g1
  refine ⟨⟨g0, by omega⟩, ⟨by rw [f _ _ (by omega)]; exact a1, by rw [f _ _ (by omega)]; exact a2⟩, ?_, ?_, ?_⟩
  · rw [e.1, e.2]; exact HR_fr (by omega) (fun b j x y => f b j (by omega)) h1
  · rw [e.1, e.2]; exact h2
  · rw [e.1, e.2]; exact MQ_fr (fun b j x y => f b j (by omega)) h3
theorem I_run_fr {σ s : Mem} (hI : I_giv σ) (f : ∀ b j, fRun b j → s b j = σ b j) (f2 : s 356 0 ≥ σ 356 0) (f3 : ∀ j, j < σ 356 0 → s 357 j = σ 357 j ∧ s 358 j = σ 358 j) (h : I_run σ) : I_run s := by
  rcases h with ⟨a, b⟩ | ⟨g, S, h⟩
  · exact Or.inl ⟨by rw [f 0 7 (Or.inr (Or.inl ⟨rfl, rfl⟩))]; exact a, by rw [f 356 14 (Or.inr (Or.inr (Or.inl ⟨rfl, rfl⟩)))]; exact b⟩
  · exact Or.inr ⟨g, S, RunIs_fr hI f f2 f3 h⟩
def RunE (σ σ2 : Mem) : Prop := (∀ b j, ¬ b = 304 → ¬ b = 379 → σ2 b j = σ b j) ∨ (σ2 282 3 = 0 ∧ ∀ b j, ¬ (263 ≤ b ∧ b ≤ 281) → ¬ (b = 282 ∧ j = 3) → ¬ b = 304 → ¬ (b = 0 ∧ j = 7) → ¬ (b = 356 ∧ j = 14) → ¬ (368 ≤ b ∧ b ≤ 372) → ¬ (379 ≤ b ∧ b ≤ 384) → σ2 b j = σ b j)
theorem PM_congr {n : Int} {o o' : Int → Int} (h : PM n o) (e : ∀ i, 0 ≤ i → i < n → o' i = o i) : PM n o' := by
  intro i i0 i1
  rw [e i i0 i1]
  have := h i i0 i1
  exact ⟨this.1, fun j j0 j1 x => by rw [e j j0 j1] at x; exact this.2 j j0 j1 x⟩
theorem call_run {d : Nat} {σ : Mem} {g w q : Int} {P : Int → Int → Mem → Prop} (hI : I_giv σ) (hW : I_ways σ) (hU : I_run σ) (h : ∀ r σ2, RunE σ σ2 → I_run σ2 → P r r σ2) :
    AM2 i_X_run (d + 4) [(2, 0), (0, g), (0, w), (0, q)] σ (fun w1 σ1 => AM2 i_M_run (d + 4) [(2, 356), (0, g), (0, w), (0, q)] σ1 (fun w2 σ2 => P w1 w2 σ2)) := by
  have hW2 := hW
  obtain ⟨we, w0, w15, wk⟩ := hW2
  -- a refusal
  have bad : ∀ (s : Mem), (∀ b j, ¬ b = 304 → s b j = σ b j) → ¬ ((0 ≤ g ∧ g < σ 356 0) ∧ (0 ≤ w ∧ w < σ 356 10) ∧ (σ 366 w = 1 ∨ σ 366 w = 2) ∧ isL (σ 357 g) 0 q = true) → AM2 i_M_run (d + 4) [(2, 356), (0, g), (0, w), (0, q)] s (fun w2 σ2 => P (-1) w2 σ2) := by
    intro s f c
    have hh : ∀ s2 : Mem, (∀ b j, ¬ b = 379 → s2 b j = s b j) → P (-1) (-1) s2 := fun s2 f2 => by
      have ff : ∀ b j, ¬ b = 304 → ¬ b = 379 → s2 b j = σ b j := fun b j x y => by rw [f2 b j y, f b j x]
      refine h _ _ (Or.inl ff) (I_run_fr hI (fun b j z => ff b j (by unfold fRun at z; omega) (by unfold fRun at z; omega)) (by rw [ff 356 0 (by omega) (by omega)]; exact Int.le_refl _) (fun j _ => ⟨ff _ _ (by omega) (by omega), ff _ _ (by omega) (by omega)⟩) hU)
    have hq := giv_P2 (σ1 := s) hI (fun b j x y => f b j (by omega))
    have e0 : mG s = σ 356 0 := f _ _ (by omega)
    have e10 : s 356 10 = σ 356 10 := f _ _ (by omega)
    refine e_M_run fun _ _ _ => M_isGiving_ok hq.1 (fun a b => br1 (M_isWay_ok (by omega) (fun x y => br1 (inb_i x (by omega) ?_)) (fun _ => br0 (hh s (fun _ _ _ => rfl))))) (fun _ => br0 (hh s (fun _ _ _ => rfl)))
    rw [f 366 w (by omega)]
    refine M_in_ok (fun u v => br1 ?_) (fun _ => br0 (hh s (fun _ _ _ => rfl)))
    have hn := (hI.2.2.2 g a (by omega)).1.1
    have e7 : s 357 g = σ 357 g := f _ _ (by omega)
    refine M_isOrder_ok a (by omega) (by omega) (by omega) (fun s2 x1 x2 => ?_)
    rw [e7]
    cases hl : isL (σ 357 g) 0 q with
    | true => exact absurd ⟨⟨a, by omega⟩, ⟨x, by omega⟩, by omega, hl⟩ c
    | false => rw [if_neg (by decide)]; exact br0 (hh s2 (fun b j z => x2 b j (by omega)))
  have good : ∀ (bk : Int) (back : Bool), (bk = if back = true then 1 else 0) → 0 ≤ g → g < 5 → g < σ 356 0 → GA σ g → 0 ≤ w → w < σ 356 10 → (σ 366 w = 1 ∧ bk = 0 ∨ σ 366 w = 2 ∧ bk = 1) → ∀ s : Mem, isL (σ 357 g) 0 q = true → (∀ i, 0 ≤ i → i < σ 357 g → s 304 i = dgt (σ 357 g).toNat q i - 0) → (∀ b j, ¬ b = 304 → s b j = σ b j) →
      AM2 i_Hand_deal (d + 3) [(2, 263), (2, 4 + 43 * g), (2, 304), (0, bk)] s (fun _ σ4 => AM2 i_Rings_forget (d + 3) [(2, 282)] (st σ4 0 7 (4 + 43 * g)) (fun _ σ5 => AM2 i_M_run (d + 4) [(2, 356), (0, g), (0, w), (0, q)] σ5 (fun w2 σ2 => P 1 w2 σ2))) := by
    intro bk back hb g0 g5 g1 hA w1 w2 hk s hl hx f
    have hn := hA.1
    have hPM := (isL_PM (by omega) (by omega) hl)
    have e7 : s 357 g = σ 357 g := f _ _ (by omega)
    have e8 : s 358 g = σ 358 g := f _ _ (by omega)
    have hAs : GA s g := GA_fr (fun b j z => f b j (by unfold fA at z; omega)) hA
    have hPs : PM (s 357 g) (fun i => dgt (σ 357 g).toNat q i - 0) := by rw [e7]; exact hPM.2
    refine X_dealG (o := fun i => dgt (σ 357 g).toNat q i - 0) (back := back) (Or.inl rfl) g0 (by omega) hAs (by rw [e7]; exact hx) hPs hb (fun s2 h1 f1 => e_Rings_forget ?_)
    rw [e7, e8] at h1
    generalize hs3 : st (st s2 0 7 (4 + 43 * g)) 282 3 0 = s3
    have ff : ∀ b j, ¬ (263 ≤ b ∧ b ≤ 281) → ¬ (b = 282 ∧ j = 3) → ¬ b = 304 → ¬ (b = 0 ∧ j = 7) → s3 b j = σ b j := fun b j y1 y2 y3 y4 => by rw [← hs3, st_ne y2, st_ne y4, f1 b j (by omega), f b j y3]
    have hS3 : HR s3 263 (σ 357 g) (σ 358 g) (dlG s g (fun i => dgt (σ 357 g).toNat q i - 0) back) := HR_fr (by omega) (fun b j y z => by rw [← hs3, st_ne (by omega), st_ne (by omega)]) h1
    rw [dlG_fr (fun b j y z => f b j (by omega))] at hS3
    have z0 : s3 282 3 = 0 := by rw [← hs3, st_self]
    have z7 : s3 0 7 = 4 + 43 * g := by rw [← hs3, st_ne (by omega), st_self]
    clear hs3 h1 f1
    have hq := giv_P2 (σ1 := s3) hI (fun b j x y => ff b j (by omega) (by omega) (by omega) (by omega))
    have e0 : mG s3 = σ 356 0 := ff _ _ (by omega) (by omega) (by omega) (by omega)
    have e10 : s3 356 10 = σ 356 10 := ff _ _ (by omega) (by omega) (by omega) (by omega)
    have e366 : s3 366 w = σ 366 w := ff _ _ (by omega) (by omega) (by omega) (by omega)
    have e73 : s3 357 g = σ 357 g := ff _ _ (by omega) (by omega) (by omega) (by omega)
    have tail : ∀ s4 : Mem, (∀ i, 0 ≤ i → i < σ 357 g → s4 379 i = dgt (σ 357 g).toNat q i) → (∀ b j, ¬ b = 379 → s4 b j = s3 b j) → AM2 i_M_runs (d + 3) [(2, 356), (0, g), (0, bk)] s4 (fun _ σ5 => AW2 i_M_run (d + 4) 42 [] [(0, (2, 356)), (1, (0, g)), (4, (0, 0))] (st σ5 356 14 g) (fun w2 σ2 => P 1 w2 σ2)) := by
      intro s4 x4 f4
      have fc : ∀ b j, 357 ≤ b → b ≤ 363 → s4 b j = σ b j := fun b j y z => by rw [f4 b j (by omega), ff b j (by omega) (by omega) (by omega) (by omega)]
      have hA4 : GA s4 g := GA_fr (fun b j z => by unfold fA at z; rw [f4 b j (by omega), ff b j (by omega) (by omega) (by omega) (by omega)]) hA
      have e74 : s4 357 g = σ 357 g := fc _ _ (by omega) (by omega)
      have e84 : s4 358 g = σ 358 g := fc _ _ (by omega) (by omega)
      refine M_runsG (o := fun i => dgt (σ 357 g).toNat q i - 0) (back := back) g0 (by omega) hA4 (fun i i0 i1 => by (try dsimp only); rw [x4 i i0 (by omega)]; omega) (by rw [e74]; exact hPM.2) hb (fun s5 h5 f5 => ?_)
      rw [e74, e84, dlG_fr fc] at h5
      have hPI := dlG_PI (back := back) hA hPM.2
      have e75 : st s5 356 14 g 357 g = σ 357 g := by rw [st_ne (by omega), f5 _ _ (by omega), e74]
      have e85 : st s5 356 14 g 358 g = σ 358 g := by rw [st_ne (by omega), f5 _ _ (by omega), e84]
      refine M_run_copies (S := dlG σ g (fun i => dgt (σ 357 g).toNat q i - 0) back) g0 (by omega) (by omega) (by omega) ?_ (by rw [e75]; exact hPI.2) (fun s6 h6 f6 => ?_)
      · rw [e75, e85]
        exact ⟨fun t t0 t1 => by rw [st_ne (by omega)]; exact h5.1 t t0 t1, fun p p0 p1 => by rw [st_ne (by omega)]; exact h5.2.1 p p0 p1, fun p i p0 p1 i0 i1 => by rw [st_ne (by omega), st_ne (by omega)]; exact h5.2.2.1 p i p0 p1 i0 i1, fun p t p0 p1 t0 t1 => by rw [st_ne (by omega)]; exact h5.2.2.2 p t p0 p1 t0 t1⟩
      · rw [e75, e85] at h6
        have f7 : ∀ b j, ¬ (368 ≤ b ∧ b ≤ 372) → ¬ (b = 356 ∧ j = 14) → ¬ (379 ≤ b ∧ b ≤ 384) → s6 b j = s3 b j := fun b j y1 y2 y3 => by rw [f6 b j y1, st_ne y2, f5 b j (by omega), f4 b j (by omega)]
        have e76 : s6 357 g = σ 357 g := by rw [f7 _ _ (by omega) (by omega) (by omega), e73]
        have e86 : s6 358 g = σ 358 g := by rw [f7 _ _ (by omega) (by omega) (by omega), ff _ _ (by omega) (by omega) (by omega) (by omega)]
        refine h 1 s6 (Or.inr ⟨by rw [f7 _ _ (by omega) (by omega) (by omega)]; exact z0, fun b j y1 y2 y3 y4 y5 y6 y7 => by rw [f7 b j y6 y5 y7, ff b j y1 y2 y3 y4]⟩) (Or.inr ⟨g, dlG σ g (fun i => dgt (σ 357 g).toNat q i - 0) back, ⟨g0, ?_⟩, ⟨?_, ?_⟩, ?_, ?_, ?_⟩)
        · rw [f7 _ _ (by omega) (by omega) (by omega)]; unfold mG at e0; omega
        · rw [f7 _ _ (by omega) (by omega) (by omega)]; exact z7
        · rw [f6 _ _ (by omega), st_self]
        · rw [e76, e86]; exact HR_fr (by omega) (fun b j y z => f7 b j (by omega) (by omega) (by omega)) hS3
        · rw [e76, e86]; exact hPI
        · rw [e76, e86]; exact h6
    refine e_M_run fun _ _ _ => M_isGiving_ok hq.1 (fun _ _ => br1 (M_isWay_ok (by omega) (fun _ _ => br1 (inb_i w1 (by omega) ?_)) (fun z => absurd ⟨w1, by omega⟩ z))) (fun z => absurd ⟨g0, by omega⟩ z)
    rw [e366]
    refine M_in_ok (fun _ _ => br1 (M_isOrder_ok g0 (by omega) (by omega) (by omega) (fun s4 x1 x2 => ?_))) (fun z => absurd ⟨by omega, by omega⟩ z)
    rw [e73, hl, if_pos rfl]
    refine br1 (inb_i w1 (by omega) ?_)
    rw [x2 366 w (by omega), e366]
    have tl := tail s4 (fun i i0 i1 => by have := x1 hPM.1 i i0 (by omega); rw [e73] at this; exact this) (fun b j z => x2 b j (by omega))
    refine ⟨fun z => ?_, fun z => ?_⟩
    · rw [show bk = 1 by omega] at tl; exact tl
    · rw [show bk = 0 by omega] at tl; exact tl
  refine e_X_run fun _ _ _ => X_kindAt_ok hW (fun a b k0 k6 => Xg hI (fun g0 g5 g1 hA hB hC => br1 ⟨fun c1 => ?_, fun c1 => ⟨fun c2 => ?_, fun c2 => bad σ (fun _ _ _ => rfl) (by omega)⟩⟩) (fun c => br0 (bad σ (fun _ _ _ => rfl) (by omega)))) (fun c => Xg hI (fun g0 g5 g1 hA hB hC => br1 ⟨fun z => by omega, fun _ => ⟨fun z => by omega, fun _ => bad σ (fun _ _ _ => rfl) (by omega)⟩⟩) (fun c => br0 (bad σ (fun _ _ _ => rfl) (by omega))))
  · have hn := hA.1
    rw [pt3 g0 g5]
    refine inb_i g0 g5 (chkK_i (gF g0 (by omega)).1.1 ?_)
    rw [hA.2.1.1]
    refine X_readLine_ok (by omega) (by omega) (Int.le_refl 0) (by decide) rfl (by rw [show sN 304 = 7 from rfl]; omega) (fun s hl hx f => br1 ⟨fun z => by omega, fun _ => ?_⟩) (fun s hl f => br0 (bad s (fun b j z => f b j (by omega)) (fun z => by rw [hl] at z; exact absurd z.2.2.2 (by decide))))
    exact good 0 false rfl g0 g5 g1 hA a b (Or.inl ⟨c1, rfl⟩) s hl hx (fun b j z => f b j (by omega))
  · have hn := hA.1
    rw [pt3 g0 g5]
    refine inb_i g0 g5 (chkK_i (gF g0 (by omega)).1.1 ?_)
    rw [hA.2.1.1]
    refine X_readLine_ok (by omega) (by omega) (Int.le_refl 0) (by decide) rfl (by rw [show sN 304 = 7 from rfl]; omega) (fun s hl hx f => br1 ⟨fun _ => ?_, fun z => absurd c2 z⟩) (fun s hl f => br0 (bad s (fun b j z => f b j (by omega)) (fun z => by rw [hl] at z; exact absurd z.2.2.2 (by decide))))
    exact good 1 true rfl g0 g5 g1 hA a b (Or.inr ⟨c2, rfl⟩) s hl hx (fun b j z => f b j (by omega))
