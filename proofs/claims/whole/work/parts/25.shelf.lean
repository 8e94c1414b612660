theorem I_shelf_st {σ : Mem} {s i w : Int} (hI : I_shelf σ) (a : 0 ≤ s) (b : s < 6) (i0 : 0 ≤ i) (i1 : i < 60) : I_shelf (st (st σ (344 + 1 + 2 * s) i w) 378 (60 * s + i) w) := by
  intro z z0 z1
  have f : ∀ x j : Int, ¬ (x = 344 + 1 + 2 * s ∧ j = i) → ¬ (x = 378 ∧ j = 60 * s + i) → st (st σ (344 + 1 + 2 * s) i w) 378 (60 * s + i) w x j = σ x j := fun x j h1 h2 => by rw [st_ne h2, st_ne h1]
  unfold I_sh
  rw [f _ _ (by omega) (by omega), f 375 _ (by omega) (by omega), f 376 _ (by omega) (by omega), f 356 10 (by omega) (by omega), f (344 + 2 * z) 2 (by omega) (by omega), f 366 _ (by omega) (by omega), f (344 + 2 * z) 3 (by omega) (by omega), f (344 + 2 * z) 4 (by omega) (by omega), f 377 _ (by omega) (by omega)]
  rcases hI z z0 z1 with h | h | ⟨e1, e2, e3, e4, e5, e6, e7⟩
  · exact Or.inl h
  · exact Or.inr (Or.inl h)
  · refine Or.inr (Or.inr ⟨e1, e2, e3, e4, e5, e6, fun k k0 k1 => ?_⟩)
    by_cases q : z = s ∧ k = i
    · obtain ⟨rfl, rfl⟩ := q
      rw [st_self, st_ne (by omega), st_self]
    · rw [f _ _ (by omega) (by omega), f 378 _ (by omega) (by omega)]
      exact e7 k k0 k1
theorem i2b_r (x : Int) : -128 ≤ i2bI x ∧ i2bI x ≤ 127 := by
  have h1 := ((Int32.ofInt x).toInt8).toInt_lt
  have h2 := ((Int32.ofInt x).toInt8).le_toInt
  unfold i2bI
  omega
theorem I_byte_st {σ : Mem} {s i w : Int} (a : 0 ≤ s) (b : s < 6) (i0 : 0 ≤ i) (i1 : i < 60) (hw : σ 376 s = 0 → -128 ≤ w ∧ w ≤ 127) (hY : I_byte σ) : I_byte (st (st σ (344 + 1 + 2 * s) i w) 378 (60 * s + i) w) := by
  intro z k z0 z1 e k0 k1
  rw [st_ne (by omega), st_ne (by omega)] at e
  by_cases q : z = s ∧ k = i
  · rw [q.1] at e
    rw [q.1, q.2, st_self]
    exact hw e
  · rw [st_ne (by omega), st_ne (by omega)]
    exact hY z k z0 z1 e k0 k1
theorem call_put {d : Nat} {σ : Mem} {s i v : Int} {P : Int → Int → Mem → Prop} (hI : I_shelf σ) (h : ∀ r σ2, (∀ b j, ¬ (344 < b ∧ b < 344 + 12) → ¬ b = 378 → σ2 b j = σ b j) → I_shelf σ2 → (I_byte σ → I_byte σ2) → P r r σ2) :
    AM2 i_X_put (d + 4) [(2, 0), (0, s), (0, i), (1, v)] σ (fun w1 σ1 => AM2 i_M_put (d + 4) [(2, 356), (0, s), (0, i), (1, v)] σ1 (fun w2 σ2 => P w1 w2 σ2)) := by
  have same : ∀ r, P r r σ := fun r => h r σ (fun _ _ _ _ => rfl) hI id
  refine e_X_put fun _ _ _ => X_refusalAt_ok hI ⟨fun c => ?_, fun c => ?_⟩
  · obtain ⟨⟨a, b⟩, c1, c2, c3⟩ := bar_0 c
    obtain ⟨p1, p2, p3, p4, p5⟩ := sh_at s a b
    have hz := sh_size hI a b c1
    have hs : σ (344 + 2 * s) 3 = σ 376 s ∧ σ 376 s ≤ 4 := by
      rcases hI s a b with ⟨e1, e2, e3⟩ | ⟨e1, e2, e3, e4, e5⟩ | ⟨e1, e2, e3, e4, e5, e6, e7⟩
      · omega
      · omega
      · exact ⟨e4, e3.2⟩
    rw [p1]
    refine inb_i a b (chkK_i p2 ?_)
    have fin : ∀ w : Int, (σ 376 s = 0 → -128 ≤ w ∧ w ≤ 127) → P 1 1 (st (st σ (344 + 1 + 2 * s) i w) 378 (60 * s + i) w) := fun w hw => h 1 _ (fun x j h1 h2 => by rw [st_ne (by omega), st_ne (by omega)]) (I_shelf_st hI a b c2 (by omega)) (I_byte_st a b c2 (by omega) hw)
    have sec : ∀ w : Int, ((σ 376 s = 0 → w = i2bI (l2iI v)) ∧ (σ 376 s = 1 → w = i2sI (l2iI v)) ∧ (σ 376 s = 2 → w = l2iI v) ∧ (σ 376 s = 3 → w = v) ∧ (σ 376 s = 4 → w = if v = 0 then 0 else 1)) → AM2 i_M_put (d + 4) [(2, 356), (0, s), (0, i), (1, v)] (st σ (344 + 1 + 2 * s) i w) (fun w2 σ2 => P 1 w2 σ2) := by
      intro w ⟨w0, w1, w2, w3, w4⟩
      have f : ∀ x j : Int, ¬ x = 344 + 1 + 2 * s → st σ (344 + 1 + 2 * s) i w x j = σ x j := fun x j h1 => st_ne (fun q => h1 q.1)
      have hbar : bar (st σ (344 + 1 + 2 * s) i w) s i = 0 := by
        rw [← c]
        unfold bar
        rw [f _ _ (by omega), f _ _ (by omega), f _ _ (by omega)]
      refine e_M_put fun _ _ _ => M_barred_ok (fun _ _ _ => by rw [f _ _ (by omega)]; exact hz) ⟨fun _ => inb_i a b ?_, fun z => absurd hbar z⟩
      rw [f _ _ (by omega), w32_id (x := 60 * s) (by omega) (by omega), w32_id (x := 60 * s + i) (by omega) (by omega)]
      have ix : ∀ {Q : Prop}, Q → inb (60 * s + i) 360 Q := fun q => inb_i (by omega) (by omega) q
      refine ⟨fun z => ix ?_, fun z0 => ⟨fun z => ix ?_, fun z1 => ⟨fun z => ix ?_, fun z2 => ⟨fun z => ix ?_, fun z3 => ⟨fun z => ix ?_, fun z => ix ?_⟩⟩⟩⟩⟩
      · rw [← w0 z]; exact fin w (fun _ => by rw [w0 z]; exact i2b_r _)
      · rw [← w1 z]; exact fin w (fun y => absurd y (by omega))
      · rw [← w2 z]; exact fin w (fun y => absurd y (by omega))
      · rw [← w3 z]; exact fin w (fun y => absurd y (by omega))
      · have := w4 (by omega); rw [if_pos z] at this; subst this; exact fin 0 (fun _ => ⟨by decide, by decide⟩)
      · have := w4 (by omega); rw [if_neg z] at this; subst this; exact fin 1 (fun _ => ⟨by decide, by decide⟩)
    refine e_Shelf_write fun _ _ => chkK_i p2 ?_
    rw [hs.1, p3, p5]
    have ix : ∀ {Q : Prop}, Q → chkK (344 + 1 + 2 * s) 101 (inb i 60 Q) := fun q => chkK_i p4 (inb_i c2 (by omega) q)
    refine ⟨fun z => chkK_i p2 (ix (sec _ ⟨fun _ => rfl, fun y => by omega, fun y => by omega, fun y => by omega, fun y => by omega⟩)), fun z0 => ⟨fun z => chkK_i p2 (ix (sec _ ⟨fun y => by omega, fun _ => rfl, fun y => by omega, fun y => by omega, fun y => by omega⟩)), fun z1 => ⟨fun z => chkK_i p2 (ix (sec _ ⟨fun y => by omega, fun y => by omega, fun _ => rfl, fun y => by omega, fun y => by omega⟩)), fun z2 => ⟨fun z => chkK_i p2 (ix (sec _ ⟨fun y => by omega, fun y => by omega, fun y => by omega, fun _ => rfl, fun y => by omega⟩)), fun z3 => ⟨fun z => chkK_i p2 ⟨fun y => ix (sec _ ⟨fun y => by omega, fun y => by omega, fun y => by omega, fun y => by omega, fun _ => by rw [if_pos y]⟩), fun y => ix (sec _ ⟨fun y => by omega, fun y => by omega, fun y => by omega, fun y => by omega, fun _ => by rw [if_neg y]⟩)⟩, fun z4 => absurd (show σ 376 s = 4 by omega) z4⟩⟩⟩⟩⟩
  · exact e_M_put fun _ _ _ => M_barred_ok (fun a b => sh_size hI a b) ⟨fun z => absurd z c, fun _ => same _⟩
