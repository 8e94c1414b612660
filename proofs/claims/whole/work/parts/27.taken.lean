/-- the fixed rows outside -/
def I_stat (σ : Mem) : Prop := (σ (-2) 0 = -1 ∧ σ (-2) 1 = 0 ∧ σ (-2) 2 = 1 ∧ σ (-2) 3 = 0 ∧ σ (-2) 4 = 0 ∧ σ (-2) 5 = 0 ∧ σ (-2) 6 = 5)
theorem isU_step {d : Nat} {K : Int → Mem → Prop} {σ : Mem} {k a i b : Int} (ha : 0 ≤ a ∧ a < 7) (hi : 0 ≤ i ∧ i < 7) (hb : σ (-2) a = b) (h1 : a = k → K 1 σ) (h0 : ¬ a = k → AW2 i_X_isUnder (d + 1) 4 [] [(1, (0, k)), (2, (0, b)), (3, (0, i + 1))] σ K) : AW2 i_X_isUnder (d + 1) 4 [] [(1, (0, k)), (2, (0, a)), (3, (0, i))] σ K := by
  refine s_X_isUnder_4 ⟨fun _ => ⟨fun z => absurd z (by omega), fun _ => ⟨fun _ => ⟨h1, fun c => inb_i ha.1 ha.2 ?_⟩, fun z => absurd ha.2 z⟩⟩, fun z => absurd hi.2 z⟩
  rw [hb, w32_id (by omega) (by omega)]
  exact h0 c
theorem isU_end {d : Nat} {K : Int → Mem → Prop} {σ : Mem} {k i : Int} (hi : 0 ≤ i ∧ i < 7) (h : K 0 σ) : AW2 i_X_isUnder (d + 1) 4 [] [(1, (0, k)), (2, (0, -1)), (3, (0, i))] σ K :=
  s_X_isUnder_4 ⟨fun _ => ⟨fun _ => h, fun z => absurd (by decide) z⟩, fun z => absurd hi.2 z⟩
theorem X_isUnder_ok {d : Nat} {K : Int → Mem → Prop} {σ : Mem} {own k : Int} (hs : I_stat σ) (ho : 0 ≤ own ∧ own ≤ 6) (h1 : (k = 0 ∨ k = own ∨ (k = 1 ∧ own = 2) ∨ (k = 5 ∧ own = 6)) → K 1 σ) (h0 : ¬ (k = 0 ∨ k = own ∨ (k = 1 ∧ own = 2) ∨ (k = 5 ∧ own = 6)) → K 0 σ) : AM2 i_X_isUnder (d + 1) [(0, own), (0, k)] σ K := by
  obtain ⟨s0, s1, s2, s3, s4, s5, s6⟩ := hs
  refine e_X_isUnder fun _ _ => ?_
  have z0 : ∀ i : Int, 0 ≤ i ∧ i < 6 → (0 = k → K 1 σ) → (¬ 0 = k → K 0 σ) → AW2 i_X_isUnder (d + 1) 4 [] [(1, (0, k)), (2, (0, 0)), (3, (0, i))] σ K := fun i hi a b => isU_step (by omega) (by omega) s0 a (fun c => isU_end (by omega) (b c))
  rcases (by omega : own = 0 ∨ own = 1 ∨ own = 2 ∨ own = 3 ∨ own = 4 ∨ own = 5 ∨ own = 6) with rfl | rfl | rfl | rfl | rfl | rfl | rfl
  · exact z0 0 (by omega) (fun c => h1 (by omega)) (fun c => h0 (by omega))
  · exact isU_step (by omega) (by omega) s1 (fun c => h1 (by omega)) (fun c1 => z0 _ (by omega) (fun c => h1 (by omega)) (fun c => h0 (by omega)))
  · exact isU_step (by omega) (by omega) s2 (fun c => h1 (by omega)) (fun c1 => isU_step (by omega) (by omega) s1 (fun c => h1 (by omega)) (fun c2 => z0 _ (by omega) (fun c => h1 (by omega)) (fun c => h0 (by omega))))
  · exact isU_step (by omega) (by omega) s3 (fun c => h1 (by omega)) (fun c1 => z0 _ (by omega) (fun c => h1 (by omega)) (fun c => h0 (by omega)))
  · exact isU_step (by omega) (by omega) s4 (fun c => h1 (by omega)) (fun c1 => z0 _ (by omega) (fun c => h1 (by omega)) (fun c => h0 (by omega)))
  · exact isU_step (by omega) (by omega) s5 (fun c => h1 (by omega)) (fun c1 => z0 _ (by omega) (fun c => h1 (by omega)) (fun c => h0 (by omega)))
  · exact isU_step (by omega) (by omega) s6 (fun c => h1 (by omega)) (fun c1 => isU_step (by omega) (by omega) s5 (fun c => h1 (by omega)) (fun c2 => z0 _ (by omega) (fun c => h1 (by omega)) (fun c => h0 (by omega))))
theorem call_taken {d : Nat} {σ : Mem} {s k : Int} {P : Int → Int → Mem → Prop} (hS : I_stat σ) (hW : I_ways σ) (hI : I_shelf σ) (h : ∀ r, P r r σ) :
    AM2 i_X_taken (d + 3) [(2, 0), (0, s), (0, k)] σ (fun w1 σ1 => AM2 i_M_taken (d + 3) [(2, 356), (0, s), (0, k)] σ1 (fun w2 σ2 => P w1 w2 σ2)) := by
  have badk : 0 ≤ s → s < 6 → ¬ (0 ≤ k ∧ k ≤ 6) → AM2 i_M_taken (d + 3) [(2, 356), (0, s), (0, k)] σ (fun w2 σ2 => P (-1) w2 σ2) := fun a b c => e_M_taken fun _ _ => M_isShelf_ok (fun _ _ => br1 (M_in_ok (fun x y => absurd ⟨x, y⟩ c) (fun _ => br0 (h _)))) (fun z => absurd ⟨a, b⟩ z)
  refine e_X_taken fun _ _ => X_isShelf_ok (fun a b => br1 ⟨fun c => badk a b (by omega), fun c => ⟨fun c7 => inb_i a b ?_, fun c7 => badk a b (by omega)⟩⟩) (fun c => br0 ?_)
  · obtain ⟨p1, p2, p3, p4, p5⟩ := sh_at s a b
    rw [p1]
    have go : ∀ {K : Int → Mem → Prop}, (0 ≤ s → s < 6 → ((σ 376 s < 0 → inb s 6 ((σ 375 s < 0 → K (-11) σ) ∧ (¬ σ 375 s < 0 → inb s 6 ((σ 375 s < 0 → K (-12) σ) ∧ (¬ σ 375 s < 0 → True))))) ∧ True)) → True := fun _ => trivial
    refine chkK_i p2 ?_
    rcases hI s a b with ⟨e1, e2, e3⟩ | ⟨e1, e2, e3, e4, e5⟩ | ⟨e1, e2, e3, e4, e5, e6, e7⟩
    · refine ⟨fun _ => ?_, fun z => absurd e1 z⟩
      exact e_M_taken fun _ _ => M_isShelf_ok (fun _ _ => br1 (M_in_ok (fun _ _ => br1 (inb_i a b ⟨fun _ => inb_i a b ⟨fun _ => h _, fun z => absurd (by omega) z⟩, fun z => absurd (by omega) z⟩)) (fun z => absurd ⟨by omega, by omega⟩ z))) (fun z => absurd ⟨a, b⟩ z)
    · have hk := hW.2.2.2 (σ 375 s) e2 e3
      have h15 := hW.2.2.1
      refine ⟨fun z => absurd (e1.symm.trans z) (by decide), fun _ => chkK_i p2 ⟨fun _ => chkK_i p2 ?_, fun z => absurd e1 z⟩⟩
      rw [e5]
      have sec : ∀ r : Int, ((k = 0 ∨ k = σ 366 (σ 375 s) ∨ (k = 1 ∧ σ 366 (σ 375 s) = 2) ∨ (k = 5 ∧ σ 366 (σ 375 s) = 6)) → r = σ 366 (σ 375 s)) → (¬ (k = 0 ∨ k = σ 366 (σ 375 s) ∨ (k = 1 ∧ σ 366 (σ 375 s) = 2) ∨ (k = 5 ∧ σ 366 (σ 375 s) = 6)) → r = -12) → AM2 i_M_taken (d + 3) [(2, 356), (0, s), (0, k)] σ (fun w2 σ2 => P r w2 σ2) := by
        intro r r1 r0
        have y1 : (k = 0 ∨ k = σ 366 (σ 375 s) ∨ (k = 1 ∧ σ 366 (σ 375 s) = 2) ∨ (k = 5 ∧ σ 366 (σ 375 s) = 6)) → P r (σ 366 (σ 375 s)) σ := fun z => by rw [r1 z]; exact h _
        have y0 : ¬ (k = 0 ∨ k = σ 366 (σ 375 s) ∨ (k = 1 ∧ σ 366 (σ 375 s) = 2) ∨ (k = 5 ∧ σ 366 (σ 375 s) = 6)) → P r (-12) σ := fun z => by rw [r0 z]; exact h _
        refine e_M_taken fun _ _ => M_isShelf_ok (fun _ _ => br1 (M_in_ok (fun _ _ => br1 (inb_i a b ⟨fun _ => inb_i a b ⟨fun z => absurd z (by omega), fun _ => inb_i a b ⟨fun z => absurd z (by omega), fun _ => inb_i a b (inb_i e2 (by omega) ?_)⟩⟩, fun z => absurd (by omega) z⟩)) (fun z => absurd ⟨by omega, by omega⟩ z))) (fun z => absurd ⟨a, b⟩ z)
        refine ⟨fun c0 => y1 (by omega), fun c0 => ⟨fun c1 => y1 (by omega), fun c1 => ⟨fun c2 => ⟨fun c3 => y1 (by omega), fun c3 => ⟨fun c4 => ⟨fun c5 => y1 (by omega), fun c5 => y0 (by omega)⟩, fun c4 => y0 (by omega)⟩⟩, fun c2 => ⟨fun c4 => ⟨fun c5 => y1 (by omega), fun c5 => y0 (by omega)⟩, fun c4 => y0 (by omega)⟩⟩⟩⟩
      exact X_isUnder_ok hS ⟨hk.2.1, hk.2.2⟩ (fun z => br1 (chkK_i p2 (by rw [e5]; exact sec _ (fun _ => rfl) (fun y => absurd z y)))) (fun z => br0 (sec _ (fun y => absurd y z) (fun _ => rfl)))
    · refine ⟨fun z => absurd (e1.symm.trans z) (by decide), fun _ => chkK_i p2 ⟨fun z => absurd (e1.symm.trans z) (by decide), fun _ => ?_⟩⟩
      exact e_M_taken fun _ _ => M_isShelf_ok (fun _ _ => br1 (M_in_ok (fun _ _ => br1 (inb_i a b ⟨fun z => absurd z (by omega), fun _ => inb_i a b ⟨fun _ => h _, fun z => absurd (by omega) z⟩⟩)) (fun z => absurd ⟨by omega, by omega⟩ z))) (fun z => absurd ⟨a, b⟩ z)
  · exact e_M_taken fun _ _ => M_isShelf_ok (fun a b => absurd ⟨a, b⟩ c) (fun _ => br0 (h _))
