theorem I_shelf_keep {σ : Mem} {s hd k w : Int} (hI : I_shelf σ) (a : 0 ≤ s) (b : s < 6) (hw : (hd = 0 ∧ w = -1) ∨ (hd = 1 ∧ 0 ≤ w ∧ w < σ 356 10 ∧ k = σ 366 w)) : I_shelf (st (st (st (st σ (344 + 2 * s) 1 hd) (344 + 2 * s) 2 k) 375 s w) 376 s (-1)) := by
  intro z z0 z1
  by_cases q : z = s
  · subst q
    unfold I_sh
    have e1 : ∀ x y v1 v2 : Int, st (st (st (st σ (344 + 2 * z) 1 hd) (344 + 2 * z) 2 k) 375 z w) 376 z (-1) (344 + 2 * z) 1 = hd := fun _ _ _ _ => by rw [st_ne (by omega), st_ne (by omega), st_ne (by omega), st_self]
    have e2 : st (st (st (st σ (344 + 2 * z) 1 hd) (344 + 2 * z) 2 k) 375 z w) 376 z (-1) 375 z = w := by rw [st_ne (by omega), st_self]
    have e3 : st (st (st (st σ (344 + 2 * z) 1 hd) (344 + 2 * z) 2 k) 375 z w) 376 z (-1) 376 z = -1 := st_self _ _ _ _
    have e4 : st (st (st (st σ (344 + 2 * z) 1 hd) (344 + 2 * z) 2 k) 375 z w) 376 z (-1) (344 + 2 * z) 2 = k := by rw [st_ne (by omega), st_ne (by omega), st_self]
    rw [e1 0 0 0 0, e2, e3, e4, st_ne (b := 356) (by omega), st_ne (b := 356) (by omega), st_ne (b := 356) (by omega), st_ne (b := 356) (by omega), st_ne (b := 366) (by omega), st_ne (b := 366) (by omega), st_ne (b := 366) (by omega), st_ne (b := 366) (by omega)]
    rcases hw with ⟨h1, h2⟩ | ⟨h1, h2, h3, h4⟩
    · exact Or.inl ⟨h1, h2, rfl⟩
    · exact Or.inr (Or.inl ⟨h1, h2, h3, rfl, h4⟩)
  · have f : ∀ x j : Int, ¬ (x = 344 + 2 * s) → ¬ (x = 375 ∧ j = s) → ¬ (x = 376 ∧ j = s) → st (st (st (st σ (344 + 2 * s) 1 hd) (344 + 2 * s) 2 k) 375 s w) 376 s (-1) x j = σ x j := fun x j h1 h2 h3 => by rw [st_ne h3, st_ne h2, st_ne (fun q => h1 q.1), st_ne (fun q => h1 q.1)]
    unfold I_sh
    rw [f (344 + 2 * z) 1 (by omega) (by omega) (by omega), f 375 z (by omega) (by omega) (by omega), f 376 z (by omega) (by omega) (by omega), f 356 10 (by omega) (by omega) (by omega), f (344 + 2 * z) 2 (by omega) (by omega) (by omega), f 366 _ (by omega) (by omega) (by omega), f (344 + 2 * z) 3 (by omega) (by omega) (by omega), f (344 + 2 * z) 4 (by omega) (by omega) (by omega), f 377 _ (by omega) (by omega) (by omega)]
    rcases hI z z0 z1 with h | h | ⟨e1, e2, e3, e4, e5, e6, e7⟩
    · exact Or.inl h
    · exact Or.inr (Or.inl h)
    · refine Or.inr (Or.inr ⟨e1, e2, e3, e4, e5, e6, fun k2 k0 k1 => ?_⟩)
      rw [f _ _ (by omega) (by omega) (by omega), f 378 _ (by omega) (by omega) (by omega)]
      exact e7 k2 k0 k1
theorem I_byte_keep {σ : Mem} {s hd k w : Int} (a : 0 ≤ s) (b : s < 6) (hY : I_byte σ) : I_byte (st (st (st (st σ (344 + 2 * s) 1 hd) (344 + 2 * s) 2 k) 375 s w) 376 s (-1)) := by
  intro z i z0 z1 e i0 i1
  by_cases q : z = s
  · rw [q, st_self] at e
    exact absurd e (by decide)
  · rw [st_ne (by omega), st_ne (by omega), st_ne (by omega), st_ne (by omega)] at e
    rw [st_ne (by omega), st_ne (by omega), st_ne (by omega), st_ne (by omega)]
    exact hY z i z0 z1 e i0 i1
theorem call_keep {d : Nat} {σ : Mem} {s w : Int} {P : Int → Int → Mem → Prop} (hW : I_ways σ) (hI : I_shelf σ) (h : ∀ r σ2, (∀ b j, ¬ (344 ≤ b ∧ b < 344 + 12) → ¬ b = 375 → ¬ b = 376 → σ2 b j = σ b j) → I_shelf σ2 → (I_byte σ → I_byte σ2) → P r r σ2) :
    AM2 i_X_keep (d + 3) [(2, 0), (0, s), (0, w)] σ (fun w1 σ1 => AM2 i_M_keep (d + 3) [(2, 356), (0, s), (0, w)] σ1 (fun w2 σ2 => P w1 w2 σ2)) := by
  have same : ∀ r, P r r σ := fun r => h r σ (fun _ _ _ _ _ => rfl) hI id
  refine e_X_keep fun _ _ => X_isShelf_ok (fun a b => br1 ?_) (fun c => br0 ?_)
  · obtain ⟨p1, p2, p3, p4, p5⟩ := sh_at s a b
    rw [p1]
    have fin : ∀ hd k : Int, ((hd = 0 ∧ w = -1) ∨ (hd = 1 ∧ 0 ≤ w ∧ w < σ 356 10 ∧ k = σ 366 w)) → P 1 1 (st (st (st (st σ (344 + 2 * s) 1 hd) (344 + 2 * s) 2 k) 375 s w) 376 s (-1)) := fun hd k hw => h 1 _ (fun x j h1 h2 h3 => by rw [st_ne (fun q => h3 q.1), st_ne (fun q => h2 q.1), st_ne (by omega), st_ne (by omega)]) (I_shelf_keep hI a b hw) (I_byte_keep a b)
    refine ⟨fun c => inb_i a b (X_kindAt_ok hW (fun x _ _ _ => absurd x (by omega)) (fun _ => chkK_i p2 ?_)), fun c => X_kindAt_ok hW (fun x y k0 k6 => ⟨fun z => absurd z (by omega), fun _ => inb_i a b (X_kindAt_ok hW (fun _ _ _ _ => chkK_i p2 ?_) (fun z => absurd ⟨x, y⟩ z))⟩) (fun z => ⟨fun _ => ?_, fun z2 => absurd (by decide) z2⟩)⟩
    · refine e_Shelf_keepKind fun _ => ⟨fun _ => chkK_i p2 (chkK_i p2 ?_), fun z => absurd (by decide) z⟩
      exact e_M_keep fun _ _ => M_isShelf_ok (fun _ _ => br1 ⟨fun _ => inb_i a b (inb_i a b (fin 0 (-1) (Or.inl ⟨rfl, c⟩))), fun z => absurd c z⟩) (fun z => absurd ⟨a, b⟩ z)
    · refine e_Shelf_keepKind fun _ => ⟨fun z => absurd z (by omega), fun _ => chkK_i p2 (chkK_i p2 ?_)⟩
      have ew : st (st σ (344 + 2 * s) 1 1) (344 + 2 * s) 2 (σ 366 w) 356 10 = σ 356 10 := by rw [st_ne (by omega), st_ne (by omega)]
      have hb := hW.2
      exact e_M_keep fun _ _ => M_isShelf_ok (fun _ _ => br1 ⟨fun z => absurd z c, fun _ => M_isWay_ok (by rw [ew]; exact ⟨hb.1, hb.2.1⟩) (fun _ _ => br1 (inb_i a b (inb_i a b (fin 1 _ (Or.inr ⟨rfl, x, y, rfl⟩))))) (fun z => absurd (by rw [ew]; exact ⟨x, y⟩) z)⟩) (fun z => absurd ⟨a, b⟩ z)
    · have hb := hW.2
      exact e_M_keep fun _ _ => M_isShelf_ok (fun _ _ => br1 ⟨fun z2 => absurd z2 c, fun _ => M_isWay_ok ⟨hb.1, hb.2.1⟩ (fun x y => absurd ⟨x, y⟩ z) (fun _ => br0 (same _))⟩) (fun z => absurd ⟨a, b⟩ z)
  · exact e_M_keep fun _ _ => M_isShelf_ok (fun a b => absurd ⟨a, b⟩ c) (fun _ => br0 (same _))
