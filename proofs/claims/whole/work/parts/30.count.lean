-- ===== count
def I_count (σ : Mem) : Prop := σ 0 2 = σ 356 0 ∧ σ 0 5 = σ 356 10 ∧ σ 1 1 = σ 356 13 ∧ σ 332 1 = σ 356 20 ∧ σ 341 1 = σ 356 26
theorem call_count {d : Nat} {σ : Mem} {q : Int} {P : Int → Int → Mem → Prop} (hI : I_count σ) (h : ∀ r, P r r σ) :
    AM2 i_X_count (d + 1) [(2, 0), (0, q)] σ (fun w1 σ1 => AM2 i_M_count (d + 1) [(2, 356), (0, q)] σ1 (fun w2 σ2 => P w1 w2 σ2)) := by
  obtain ⟨h0, h1, h2, h3, h4⟩ := hI
  refine e_X_count fun _ => ⟨fun c => ?_, fun c0 => ⟨fun c => ?_, fun c1 => ⟨fun c => ?_, fun c2 => ⟨fun c => ?_, fun c3 => ⟨fun c => ?_, fun c4 => ?_⟩⟩⟩⟩⟩
  · rw [h0]; exact e_M_count fun _ => ⟨fun _ => h _, fun z => absurd c z⟩
  · rw [h1]; exact e_M_count fun _ => ⟨fun z => absurd z c0, fun _ => ⟨fun _ => h _, fun z => absurd c z⟩⟩
  · rw [h2]; exact e_M_count fun _ => ⟨fun z => absurd z c0, fun _ => ⟨fun z => absurd z c1, fun _ => ⟨fun _ => h _, fun z => absurd c z⟩⟩⟩
  · rw [h3]; exact e_M_count fun _ => ⟨fun z => absurd z c0, fun _ => ⟨fun z => absurd z c1, fun _ => ⟨fun z => absurd z c2, fun _ => ⟨fun _ => h _, fun z => absurd c z⟩⟩⟩⟩
  · rw [h4]; exact e_M_count fun _ => ⟨fun z => absurd z c0, fun _ => ⟨fun z => absurd z c1, fun _ => ⟨fun z => absurd z c2, fun _ => ⟨fun z => absurd z c3, fun _ => ⟨fun _ => h _, fun z => absurd c z⟩⟩⟩⟩⟩
  · exact e_M_count fun _ => ⟨fun z => absurd z c0, fun _ => ⟨fun z => absurd z c1, fun _ => ⟨fun z => absurd z c2, fun _ => ⟨fun z => absurd z c3, fun _ => ⟨fun z => absurd z c4, fun _ => h _⟩⟩⟩⟩⟩
