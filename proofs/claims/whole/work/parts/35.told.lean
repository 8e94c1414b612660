-- ===== bars, told, rounds, takes
theorem call_bars {d : Nat} {σ : Mem} {g : Int} {P : Int → Int → Mem → Prop} (hI : I_giv σ) (h : ∀ r σ2, (∀ b j, ¬ b = 398 → σ2 b j = σ b j) → P r r σ2) :
    AM2 i_X_bars (d + 3) [(2, 0), (0, g)] σ (fun w1 σ1 => AM2 i_M_bars (d + 3) [(2, 356), (0, g)] σ1 (fun w2 σ2 => P w1 w2 σ2)) := by
  refine e_X_bars fun _ => Xg hI (fun a a5 b hA hB hC => br1 ?_) (fun c => br0 (e_M_bars fun _ => Mg hI (fun a _ b _ _ _ => absurd ⟨a, b⟩ c) (fun _ => br0 (h _ _ (fun _ _ _ => rfl)))))
  obtain ⟨⟨n1, n2, n3, n4, n5, n6⟩, ⟨m1, m2, m3⟩, ham, hsz, hls⟩ := hA
  (try simp (disch := omega) only [w32_id, w64_id, inb_eq, st_self, st_ne, pt3, ck_g, ck_am, ck_he, ck_sz, ck_ls, ck_lv, ck_pa, ck_kn, sn_am, sn_he, sn_sz, sn_ls, sn_lv, sn_pa, sn_kn, pt_am, pt_he, pt_sz, pt_ls, pt_lv, pt_pa, pt_kn, ck_lr, ck_vr, ck_pr, sn_lr, sn_vr, sn_pr, pt_lr, pt_vr, pt_pr, pt_sh, ck_sh, pt_to, ck_to, sn_to])
  refine X_barring_ok a (by omega) (by omega) (by omega) (by omega) (fun t t0 t1 => by have := ham t t0 (by omega); omega) (fun p t p0 p1 t0 t1 => by have := hC p t p0 (by omega) t0 (by omega); omega) ?_
  refine e_M_bars fun _ => Mg hI (fun _ _ _ _ _ _ => br1 ?_) (fun c => absurd ⟨a, b⟩ c)
  refine M_barsOf_ok a (by omega) (by omega) (by omega) (by omega) (fun t t0 t1 => (ham t t0 t1).2) (fun p t p0 p1 t0 t1 => (hC p t p0 p1 t0 t1).2) (fun σ2 x1 x2 => ?_)
  rw [m1, m2, m3, barD_congr (pf' := fun p t => σ 365 (56 * g + 8 * p + t)) (lf' := fun p t => σ 364 (56 * g + 8 * p + t)) (af' := fun t => σ 360 (8 * g + t)) (fun p t p0 p1 t0 t1 => ⟨(hC p t p0 p1 t0 t1).1, (hB.2 p t p0 p1 t0 t1).1⟩) (fun t t0 t1 => (ham t t0 t1).1)]
  exact h _ _ (fun b j c => x2 b j (by omega))
/-- the cells that a giving's pieces speak of -/
def fA (g b j : Int) : Prop := (b = 4 + 43 * g ∧ 0 ≤ j ∧ j ≤ 2) ∨ b = 5 + 43 * g ∨ b = 7 + 43 * g ∨ (9 + 43 * g ≤ b ∧ b ≤ 15 + 43 * g) ∨ (357 ≤ b ∧ b ≤ 359 ∧ j = g) ∨ (b = 360 ∧ 8 * g ≤ j ∧ j < 8 * g + 8) ∨ (b = 362 ∧ 7 * g ≤ j ∧ j < 7 * g + 7) ∨ (b = 363 ∧ 56 * g ≤ j ∧ j < 56 * g + 56)
def fB (g b j : Int) : Prop := b = 6 + 43 * g ∨ (17 + 43 * g ≤ b ∧ b ≤ 23 + 43 * g) ∨ (357 ≤ b ∧ b ≤ 358 ∧ j = g) ∨ (b = 361 ∧ 7 * g ≤ j ∧ j < 7 * g + 7) ∨ (b = 364 ∧ 56 * g ≤ j ∧ j < 56 * g + 56)
def fC (g b j : Int) : Prop := (25 + 43 * g ≤ b ∧ b ≤ 31 + 43 * g) ∨ (357 ≤ b ∧ b ≤ 358 ∧ j = g) ∨ (b = 365 ∧ 56 * g ≤ j ∧ j < 56 * g + 56)
theorem GA_fr {σ σ2 : Mem} {g : Int} (f : ∀ b j, fA g b j → σ2 b j = σ b j) (h : GA σ g) : GA σ2 g := by
  unfold fA at f
  obtain ⟨⟨n1, n2, n3, n4, n5, n6⟩, ⟨m1, m2, m3⟩, ham, hsz, hls⟩ := h
  have e7 := f 357 g (by omega)
  have e8 := f 358 g (by omega)
  have e9 := f 359 g (by omega)
  refine ⟨by omega, ⟨?_, ?_, ?_⟩, fun t t0 t1 => ?_, fun p p0 p1 => ?_, fun p i p0 p1 i0 i1 => ?_⟩
  · rw [f _ _ (by omega), e7, m1]
  · rw [f _ _ (by omega), e8, m2]
  · rw [f _ _ (by omega), e9, m3]
  · rw [f _ _ (by omega), f _ _ (by omega)]; exact ham t t0 (by omega)
  · rw [f _ _ (by omega), f _ _ (by omega)]; exact hsz p p0 (by omega)
  · have e := hsz p p0 (by omega)
    have e2 := f 362 (7 * g + p) (by omega)
    rw [e2] at i1
    rw [f _ _ (by omega), f _ _ (by omega), e8]; exact hls p i p0 (by omega) i0 i1
theorem GB_fr {σ σ2 : Mem} {g : Int} (hn : σ 357 g ≤ 7 ∧ σ 358 g ≤ 8) (f : ∀ b j, fB g b j → σ2 b j = σ b j) (h : GB σ g) : GB σ2 g := by
  unfold fB at f
  have e7 := f 357 g (by omega)
  have e8 := f 358 g (by omega)
  refine ⟨fun p p0 p1 => ?_, fun p t p0 p1 t0 t1 => ?_⟩
  · rw [f _ _ (by omega), f _ _ (by omega), e8]; exact h.1 p p0 (by omega)
  · rw [f _ _ (by omega), f _ _ (by omega)]; exact h.2 p t p0 (by omega) t0 (by omega)
theorem GC_fr {σ σ2 : Mem} {g : Int} (hn : σ 357 g ≤ 7 ∧ σ 358 g ≤ 8) (f : ∀ b j, fC g b j → σ2 b j = σ b j) (h : GC σ g) : GC σ2 g := by
  unfold fC at f
  have e7 := f 357 g (by omega)
  have e8 := f 358 g (by omega)
  intro p t p0 p1 t0 t1
  rw [f _ _ (by omega), f _ _ (by omega)]; exact h p t p0 (by omega) t0 (by omega)
def fG (b j : Int) : Prop := (b = 0 ∧ j = 2) ∨ (b = 356 ∧ j = 0) ∨ (357 ≤ b ∧ b ≤ 365) ∨ (4 ≤ b ∧ b < 262 ∧ ((b - 4) % 43 = 0 ∧ j ≤ 2 ∨ 1 ≤ (b - 4) % 43 ∧ (b - 4) % 43 ≤ 27))
theorem I_giv_fr {σ σ2 : Mem} (f : ∀ b j, fG b j → σ2 b j = σ b j) (h : I_giv σ) : I_giv σ2 := by
  unfold fG at f
  obtain ⟨e, a0, a5, hg⟩ := h
  have e1 := f 0 2 (by omega)
  have e2 := f 356 0 (by omega)
  refine ⟨by omega, by omega, by omega, fun g g0 g1 => ?_⟩
  obtain ⟨hA, hB, hC⟩ := hg g g0 (by omega)
  have hn := hA.1
  refine ⟨GA_fr (fun b j c => f b j ?_) hA, GB_fr (by omega) (fun b j c => f b j ?_) hB, GC_fr (by omega) (fun b j c => f b j ?_) hC⟩
  · unfold fA at c; omega
  · unfold fB at c; omega
  · unfold fC at c; omega
theorem X_forgetTable_ok {d : Nat} {K : Int → Mem → Prop} {σ : Mem} {g : Int} (h0 : 0 ≤ g) (h5 : g ≤ 5) (h : K 0 (st (st (st σ (33 + 43 * g + 2 * 5) 2 0) (33 + 43 * g + 2 * 6) 2 0) 316 3 (-1))) : AM2 i_X_forgetTable (d + 2) [(2, 0), (2, 4 + 43 * g)] σ K := by
  refine e_X_forgetTable ?_
  (try simp (disch := omega) only [w32_id, w64_id, inb_eq, st_self, st_ne, pt3, ck_g, ck_am, ck_he, ck_sz, ck_ls, ck_lv, ck_pa, ck_kn, sn_am, sn_he, sn_sz, sn_ls, sn_lv, sn_pa, sn_kn, pt_am, pt_he, pt_sz, pt_ls, pt_lv, pt_pa, pt_kn, ck_lr, ck_vr, ck_pr, sn_lr, sn_vr, sn_pr, pt_lr, pt_vr, pt_pr, pt_sh, ck_sh, pt_to, ck_to, sn_to])
  exact e_Parting_forget h
