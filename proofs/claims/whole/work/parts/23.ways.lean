-- ===== ways, trace, what a shelf holds of ways
def I_ways (σ : Mem) : Prop := σ 0 5 = σ 356 10 ∧ 0 ≤ σ 356 10 ∧ σ 356 10 ≤ 15 ∧ ∀ i, 0 ≤ i → i < σ 356 10 → σ 262 i = σ 366 i ∧ 0 ≤ σ 366 i ∧ σ 366 i ≤ 6
theorem X_kindAt_ok {d : Nat} {K : Int → Mem → Prop} {σ : Mem} {w : Int} (hI : I_ways σ) (h1 : 0 ≤ w → w < σ 356 10 → 0 ≤ σ 366 w → σ 366 w ≤ 6 → K (σ 366 w) σ) (h0 : ¬ (0 ≤ w ∧ w < σ 356 10) → K (-1) σ) : AM2 i_X_kindAt (d + 1) [(2, 0), (0, w)] σ K := by
  obtain ⟨e, b0, b1, hk⟩ := hI
  refine e_X_kindAt fun _ => ⟨fun c => h0 (by omega), fun c => ⟨fun c2 => inb_i (by omega) (by omega) ?_, fun c2 => h0 (by omega)⟩⟩
  have hq := hk w (by omega) (by omega)
  rw [hq.1]
  exact h1 (by omega) (by omega) hq.2.1 hq.2.2
theorem call_kindOf {d : Nat} {σ : Mem} {w : Int} {P : Int → Int → Mem → Prop} (hI : I_ways σ) (h : ∀ r, P r r σ) :
    AM2 i_X_kindOf (d + 3) [(2, 0), (0, w)] σ (fun w1 σ1 => AM2 i_M_kindOf (d + 3) [(2, 356), (0, w)] σ1 (fun w2 σ2 => P w1 w2 σ2)) := by
  have hI2 := hI
  obtain ⟨e, b0, b1, hk⟩ := hI2
  refine e_X_kindOf fun _ => X_kindAt_ok hI (fun a b _ _ => ?_) (fun c => ?_)
  · exact e_M_kindOf fun _ => M_isWay_ok ⟨b0, b1⟩ (fun _ _ => br1 (inb_i a (by omega) (h _))) (fun c => absurd ⟨a, b⟩ c)
  · exact e_M_kindOf fun _ => M_isWay_ok ⟨b0, b1⟩ (fun a b => absurd ⟨a, b⟩ c) (fun _ => br0 (h _))
theorem call_way {d : Nat} {σ : Mem} {k : Int} {P : Int → Int → Mem → Prop} (hI : I_ways σ) (h : ∀ r σ2, (∀ b j, ¬ (b = 262 ∧ σ 356 10 ≤ j) → ¬ (b = 366 ∧ σ 356 10 ≤ j) → ¬ (b = 0 ∧ j = 5) → ¬ (b = 356 ∧ j = 10) → σ2 b j = σ b j) → I_ways σ2 → σ 356 10 ≤ σ2 356 10 → P r r σ2) :
    AM2 i_X_way (d + 2) [(2, 0), (0, k)] σ (fun w1 σ1 => AM2 i_M_way (d + 2) [(2, 356), (0, k)] σ1 (fun w2 σ2 => P w1 w2 σ2)) := by
  have hI2 := hI
  obtain ⟨e, b0, b1, hk⟩ := hI2
  have same : ∀ r, P r r σ := fun r => h r σ (fun _ _ _ _ _ _ => rfl) hI (Int.le_refl _)
  have bad : ¬ (0 ≤ k ∧ k ≤ 6) → AM2 i_M_way (d + 2) [(2, 356), (0, k)] σ (fun w2 σ2 => P (-1) w2 σ2) := fun c => e_M_way fun _ => M_in_ok (fun a b => absurd ⟨a, b⟩ c) (fun _ => br0 (same _))
  refine e_X_way fun _ => ⟨fun c => bad (by omega), fun c0 => ⟨fun c7 => ⟨fun c => inb_i (by omega) (by omega) ?_, fun c => ?_⟩, fun c => bad (by omega)⟩⟩
  · refine e_M_way fun _ => M_in_ok (fun _ _ => br1 ⟨fun z => ?_, fun z => ?_⟩) (fun z => absurd ⟨by omega, by omega⟩ z)
    · rw [st_ne (by omega), st_ne (by omega)] at z
      omega
    · have eM : st (st σ 262 (σ 0 5) k) 0 5 (w32 (st σ 262 (σ 0 5) k 0 5 + 1)) 356 10 = σ 356 10 := by rw [st_ne (by omega), st_ne (by omega)]
      have eX : st σ 262 (σ 0 5) k 0 5 = σ 356 10 := by rw [st_ne (by omega), e]
      rw [eX]
      rw [eX] at eM
      rw [eM]
      generalize hs : st (st σ 262 (σ 0 5) k) 0 5 (w32 (σ 356 10 + 1)) = s1 at eM
      refine inb_i (by omega) (by omega) ?_
      have r1 : s1 0 5 = σ 356 10 + 1 := by rw [← hs, st_self, w32_id (by omega) (by omega)]
      have e9 : w32 (σ 356 10 + 1) = σ 356 10 + 1 := w32_id (by omega) (by omega)
      have eN : st s1 366 (σ 356 10) k 356 10 = σ 356 10 := by rw [st_ne (by omega), eM]
      rw [r1, st_self, eN, e9]
      refine h _ _ (fun b j a1 a2 a3 a4 => ?_) ⟨?_, ?_, ?_, fun i i0 i1 => ?_⟩ ?_
      · rw [st_ne a4, st_ne (fun q => a2 ⟨q.1, by omega⟩), ← hs, st_ne a3, st_ne (fun q => a1 ⟨q.1, by omega⟩)]
      · rw [st_self, st_ne (by omega), st_ne (by omega), r1]
      · rw [st_self]; omega
      · rw [st_self]; omega
      · rw [st_self] at i1
        rw [st_ne (by omega), st_ne (by omega), st_ne (by omega)]
        by_cases q : i = σ 356 10
        · subst q
          rw [st_self, ← hs, st_ne (by omega), e, st_self]
          omega
        · rw [st_ne (by omega), ← hs, st_ne (by omega), st_ne (by omega), st_ne (by omega), st_ne (by omega)]
          exact hk i i0 (by omega)
      · rw [st_self]; omega
  · exact e_M_way fun _ => M_in_ok (fun _ _ => br1 ⟨fun _ => same _, fun z => absurd (show σ 356 10 = 15 by omega) z⟩) (fun z => absurd ⟨by omega, by omega⟩ z)
def I_acts (σ : Mem) : Prop := σ 341 1 = σ 356 26 ∧ 0 ≤ σ 356 26 ∧ σ 356 26 ≤ 1000 ∧ ∀ i, 0 ≤ i → i < σ 356 26 → i < 24 → σ 342 i = σ 374 i
theorem call_trace {d : Nat} {σ : Mem} {i : Int} {P : Int → Int → Mem → Prop} (hI : I_acts σ) (h : ∀ r, P r r σ) :
    AM2 i_X_trace (d + 1) [(2, 0), (0, i)] σ (fun w1 σ1 => AM2 i_M_trace (d + 1) [(2, 356), (0, i)] σ1 (fun w2 σ2 => P w1 w2 σ2)) := by
  obtain ⟨e, b0, b1, hk⟩ := hI
  have bad : ¬ (0 ≤ i ∧ i < σ 356 26 ∧ i < 24) → AM2 i_M_trace (d + 1) [(2, 356), (0, i)] σ (fun w2 σ2 => P (-1) w2 σ2) := fun c => e_M_trace fun _ => ⟨fun _ => h _, fun c0 => ⟨fun c1 => ⟨fun c2 => absurd ⟨by omega, c1, c2⟩ c, fun _ => h _⟩, fun _ => h _⟩⟩
  refine e_X_trace fun _ => ⟨fun c => bad (by omega), fun c0 => ⟨fun c24 => ⟨fun c => inb_i (by omega) c24 ?_, fun c => bad (by omega)⟩, fun c => bad (by omega)⟩⟩
  refine e_M_trace fun _ => ⟨fun c => absurd c c0, fun _ => ⟨fun c1 => ⟨fun c2 => inb_i (by omega) c24 ?_, fun z => absurd c24 z⟩, fun z => absurd (by omega) z⟩⟩
  rw [hk i (by omega) (by omega) c24]
  exact h _
