/-! ===== the difference there and back, from a giving's own cells ===== -/
theorem CH_all : ∀ (r : List (List Nat)) (L : List Nat) (n : Nat), CH (L :: r) → L.length = n → PM (L.length : Int) (oL L) → ∀ M ∈ L :: r, M.length = n ∧ PM (M.length : Int) (oL M)
  | [], L, n, _, hl, hP, M, hM => by
    rw [List.mem_singleton.mp hM]
    exact ⟨hl, hP⟩
  | b :: r, L, n, hC, hl, hP, M, hM => by
    rcases List.mem_cons.mp hM with e | e
    · rw [e]; exact ⟨hl, hP⟩
    · exact CH_all r b n hC.2 (by rw [nxL_len hC.1]; exact hl) (nxL_PM hP hC.1) M e
theorem pmN_all {n : Nat} (hn : n ≤ 7) : ∀ M ∈ pmN n, M.length = n ∧ PM (M.length : Int) (oL M) := by
  obtain ⟨r, e, hC, _⟩ := pm_CH n hn
  rw [e]
  exact CH_all r (List.range n) n hC List.length_range (by rw [List.length_range]; exact range_PM n)
theorem swF_congr {gp gp' nb nb' : List Nat → Int} : ∀ (l : List (List Nat)) (r : Int × Int), (∀ L ∈ l, gp L = gp' L ∧ nb L = nb' L) → swF gp nb l r = swF gp' nb' l r
  | [], _, _ => rfl
  | L :: l, r, h => by
    have h0 := h L List.mem_cons_self
    unfold swF
    rw [h0.1, h0.2]
    exact swF_congr l _ (fun M hM => h M (List.mem_cons_of_mem _ hM))
theorem mxf_congr {f f' : Int → Int} : ∀ (m : Nat) (i a : Int), (∀ j, i ≤ j → j < i + m → f j = f' j) → mxf f m i a = mxf f' m i a
  | 0, _, _, _ => rfl
  | m + 1, i, a, h => by
    unfold mxf
    rw [h i (Int.le_refl i) (by omega)]
    exact mxf_congr m (i + 1) _ (fun j x y => h j (by omega) (by omega))
theorem mnf_cong {f f' : Int → Int} : ∀ (m : Nat) (i a : Int), (∀ j, i ≤ j → j < i + m → f j = f' j) → mnf f m i a = mnf f' m i a
  | 0, _, _, _ => rfl
  | m + 1, i, a, h => by
    unfold mnf
    rw [h i (Int.le_refl i) (by omega)]
    exact mnf_cong m (i + 1) _ (fun j x y => h j (by omega) (by omega))
theorem gapF_cong {f f' : Int → Int} {n : Int} (h : ∀ j, 0 ≤ j → j < n → f j = f' j) : gapF f n = gapF f' n := by
  unfold gapF
  rw [mxf_congr n.toNat 0 0 (fun j a b => h j a (by omega)), mnf_cong n.toNat 0 1000000 (fun j a b => h j a (by omega))]
theorem dlC_fr {σ s : Mem} {g : Int} (f : ∀ b j, fA g b j → 357 ≤ b → s b j = σ b j) (o : Int → Int) (back : Bool) : dlC s g o back = dlC σ g o back := by
  have e7 : s 357 g = σ 357 g := f _ _ (by unfold fA; omega) (by decide)
  have e9 : s 359 g = σ 359 g := f _ _ (by unfold fA; omega) (by decide)
  have a1 : cam s g = cam σ g := funext fun t => by
    unfold cam; split
    · exact f _ _ (by unfold fA; omega) (by decide)
    · rfl
  have a2 : clI s g = clI σ g := funext fun p => funext fun i => by
    unfold clI; split
    · exact f _ _ (by unfold fA; omega) (by decide)
    · rfl
  have a3 : csz s g = csz σ g := funext fun p => by
    unfold csz; split
    · exact f _ _ (by unfold fA; omega) (by decide)
    · rfl
  unfold dlC
  rw [e7, e9, a1, a2, a3]
theorem gpG_cells {σ s : Mem} {g : Int} {L : List Nat} (hA : GA σ g) (hA2 : GA s g) (f : ∀ b j, (fA g b j ∨ fB g b j) → 357 ≤ b → s b j = σ b j) (hP : PM (σ 357 g) (oL L)) : gpG s g L = gpG σ g L := by
  have e7 : s 357 g = σ 357 g := f _ _ (Or.inl (by unfold fA; omega)) (by decide)
  have hn := hA.1
  have q1 := (dlC_e (back := true) hA hP).2
  have q2 := (dlC_e (back := true) hA2 (by rw [e7]; exact hP)).2
  rw [dlC_fr (fun b j z w => f b j (Or.inl z) w), ← q1] at q2
  have hPI := dlG_PI (back := true) hA hP
  unfold gpG
  rw [e7]
  refine gapF_cong (fun p p0 p1 => ?_)
  unfold pts
  rw [q2]
  have hc := hPI.2 p p0 p1
  refine sm_congr _ _ _ (fun i i0 i1 => ?_)
  have hx := hPI.1.2 p i p0 p1 i0 (by omega)
  have e : glv s g p ((dlG σ g (oL L) true).2.2.1 p i) = glv σ g p ((dlG σ g (oL L) true).2.2.1 p i) := f _ _ (Or.inr (by unfold fB; omega)) (by decide)
  rw [e]
theorem swG_cells {σ s : Mem} {g : Int} (hA : GA σ g) (hA2 : GA s g) (f : ∀ b j, (fA g b j ∨ fB g b j) → 357 ≤ b → s b j = σ b j) : swG s g = swG σ g := by
  have e7 : s 357 g = σ 357 g := f _ _ (Or.inl (by unfold fA; omega)) (by decide)
  have hn := hA.1
  unfold swG
  rw [e7]
  refine swF_congr _ _ (fun L hL => ?_)
  have hl := pmN_all (n := (σ 357 g).toNat) (by omega) L hL
  have hq : (L.length : Int) = σ 357 g := by rw [hl.1]; omega
  refine ⟨gpG_cells hA hA2 f (by rw [← hq]; exact hl.2), ?_⟩
  unfold nbG
  rw [e7]
