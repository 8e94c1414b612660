-- ===== shelves
theorem sh_at (s : Int) (h0 : 0 ≤ s) (h6 : s < 6) : ptr 343 s = 344 + 2 * s ∧ sK (344 + 2 * s) = 8 ∧ ptr (344 + 2 * s) 0 = 344 + 1 + 2 * s ∧ sK (344 + 1 + 2 * s) = 101 ∧ sN (344 + 1 + 2 * s) = 60 := by
  rcases (by omega : s = 0 ∨ s = 1 ∨ s = 2 ∨ s = 3 ∨ s = 4 ∨ s = 5) with rfl | rfl | rfl | rfl | rfl | rfl
  all_goals exact ⟨rfl, rfl, rfl, rfl, rfl⟩
def I_sh (σ : Mem) (s : Int) : Prop :=
  (σ (344 + 2 * s) 1 = 0 ∧ σ 375 s = -1 ∧ σ 376 s = -1) ∨
  (σ (344 + 2 * s) 1 = 1 ∧ 0 ≤ σ 375 s ∧ σ 375 s < σ 356 10 ∧ σ 376 s = -1 ∧ σ (344 + 2 * s) 2 = σ 366 (σ 375 s)) ∨
  (σ (344 + 2 * s) 1 = 2 ∧ σ 375 s = -1 ∧ (0 ≤ σ 376 s ∧ σ 376 s ≤ 4) ∧ σ (344 + 2 * s) 3 = σ 376 s ∧ σ (344 + 2 * s) 4 = σ 377 s ∧ (0 ≤ σ 377 s ∧ σ 377 s ≤ 60) ∧ ∀ i, 0 ≤ i → i < 60 → σ (344 + 1 + 2 * s) i = σ 378 (60 * s + i))
def I_shelf (σ : Mem) : Prop := ∀ s, 0 ≤ s → s < 6 → I_sh σ s
/-- rows of bytes hold bytes -/
def I_byte (σ : Mem) : Prop := ∀ s i, 0 ≤ s → s < 6 → σ 376 s = 0 → 0 ≤ i → i < 60 → -128 ≤ σ 378 (60 * s + i) ∧ σ 378 (60 * s + i) ≤ 127
/-- what bars an element of a shelf; 0: nothing -/
def bar (σ : Mem) (s i : Int) : Int := if 0 ≤ s ∧ s < 6 then (if σ 376 s < 0 then (if σ 375 s < 0 then -11 else -12) else if 0 ≤ i ∧ i < σ 377 s then 0 else -13) else -1
theorem M_barred_ok {d : Nat} {K : Int → Mem → Prop} {σ : Mem} {s i : Int} (hz : 0 ≤ s → s < 6 → 0 ≤ σ 376 s → 0 ≤ σ 377 s ∧ σ 377 s ≤ 60) (h : K (bar σ s i) σ) : AM2 i_M_barred (d + 3) [(2, 356), (0, s), (0, i)] σ K := by
  unfold bar at h
  refine e_M_barred fun _ _ => M_isShelf_ok (fun a b => br1 (inb_i a b ⟨fun c => inb_i a b ⟨fun c2 => ?_, fun c2 => ?_⟩, fun c => inb_i a b ?_⟩)) (fun c => br0 ?_)
  · rw [if_pos ⟨a, b⟩, if_pos c, if_pos c2] at h; exact h
  · rw [if_pos ⟨a, b⟩, if_pos c, if_neg c2] at h; exact h
  · have hq := hz a b (by omega)
    rw [if_pos ⟨a, b⟩, if_neg c] at h
    rw [w32_id (by omega) (by omega)]
    refine M_in_ok (fun x y => br1 ?_) (fun z => br0 ?_)
    · rw [if_pos (by omega)] at h; exact h
    · rw [if_neg (by omega)] at h; exact h
  · rw [if_neg c] at h; exact h
theorem X_refusalAt_ok {d : Nat} {K : Int → Mem → Prop} {σ : Mem} {s i : Int} (hI : I_shelf σ) (h : K (bar σ s i) σ) : AM2 i_X_refusalAt (d + 2) [(2, 0), (0, s), (0, i)] σ K := by
  unfold bar at h
  refine e_X_refusalAt fun _ hi => X_isShelf_ok (fun a b => br1 (inb_i a b ?_)) (fun c => br0 ?_)
  · obtain ⟨p1, p2, -⟩ := sh_at s a b
    rw [if_pos ⟨a, b⟩] at h
    rw [p1]
    refine chkK_i p2 ?_
    rcases hI s a b with ⟨e1, e2, e3⟩ | ⟨e1, e2, e3, e4, e5⟩ | ⟨e1, e2, e3, e4, e5, e6, e7⟩
    · rw [if_pos (by omega), if_pos (by omega)] at h
      exact ⟨fun _ => h, fun c => absurd e1 c⟩
    · rw [if_pos (by omega), if_neg (by omega)] at h
      exact ⟨fun c => absurd (e1.symm.trans c) (by decide), fun _ => chkK_i p2 ⟨fun c => absurd (e1.symm.trans c) (by decide), fun _ => h⟩⟩
    · rw [if_neg (by omega)] at h
      refine ⟨fun c => absurd (e1.symm.trans c) (by decide), fun _ => chkK_i p2 ⟨fun _ => chkK_i p2 ?_, fun c => absurd e1 c⟩⟩
      unfold r32 at hi
      refine e_Shelf_hasRoom fun _ _ => ⟨fun c => br0 ?_, fun c => ⟨fun c2 => absurd c2 (by omega), fun _ => chkK_i p2 ?_⟩⟩
      · rw [if_neg (by omega)] at h; exact h
      · rw [e5, w64_id (by omega) (by omega)]
        refine ⟨fun c2 => br0 ?_, fun c2 => br1 ?_⟩
        · rw [if_neg (by omega)] at h; exact h
        · rw [if_pos (by omega)] at h; exact h
  · rw [if_neg c] at h; exact h
theorem sh_size {σ : Mem} (hI : I_shelf σ) {s : Int} : 0 ≤ s → s < 6 → 0 ≤ σ 376 s → 0 ≤ σ 377 s ∧ σ 377 s ≤ 60 := by
  intro a b c
  rcases hI s a b with ⟨e1, e2, e3⟩ | ⟨e1, e2, e3, e4, e5⟩ | ⟨e1, e2, e3, e4, e5, e6, e7⟩
  · omega
  · omega
  · exact e6
theorem bar_0 {σ : Mem} {s i : Int} (h : bar σ s i = 0) : (0 ≤ s ∧ s < 6) ∧ 0 ≤ σ 376 s ∧ 0 ≤ i ∧ i < σ 377 s := by
  unfold bar at h
  repeat' split at h
  all_goals omega
theorem call_element {d : Nat} {σ : Mem} {s i : Int} {P : Int → Int → Mem → Prop} (hI : I_shelf σ) (h : ∀ r, P r r σ) :
    AM2 i_X_element (d + 4) [(2, 0), (0, s), (0, i)] σ (fun w1 σ1 => AM2 i_M_element (d + 4) [(2, 356), (0, s), (0, i)] σ1 (fun w2 σ2 => P w1 w2 σ2)) := by
  refine e_X_element fun _ _ => X_refusalAt_ok hI ⟨fun c => ?_, fun c => ?_⟩
  · obtain ⟨⟨a, b⟩, c1, c2, c3⟩ := bar_0 c
    obtain ⟨p1, p2, p3, p4, p5⟩ := sh_at s a b
    have hz := sh_size hI a b c1
    rw [p1]
    refine inb_i a b (chkK_i p2 ?_)
    rw [p3, p5]
    refine chkK_i p4 (inb_i c2 (by omega) ?_)
    refine e_M_element fun _ _ => M_barred_ok (fun _ _ _ => hz) ⟨fun _ => ?_, fun z => absurd c z⟩
    rw [w32_id (x := 60 * s) (by omega) (by omega), w32_id (by omega) (by omega)]
    refine inb_i (by omega) (by omega) ?_
    rcases hI s a b with ⟨e1, e2, e3⟩ | ⟨e1, e2, e3, e4, e5⟩ | ⟨e1, e2, e3, e4, e5, e6, e7⟩
    · omega
    · omega
    · rw [e7 i c2 (by omega)]; exact h _
  · exact e_M_element fun _ _ => M_barred_ok (fun a b => sh_size hI a b) ⟨fun z => absurd z c, fun _ => h _⟩
