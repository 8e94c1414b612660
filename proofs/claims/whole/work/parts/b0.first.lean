/-! ===== the first memory keeps the invariant ===== -/
noncomputable def v0 (k j : Nat) : Int := lgF SL k j (if (shp k).1 < 100 ∧ fk (shp k).1 j = 3 then -1 else 0)
theorem sI_v0 {z : Mem} (hz : hz0 z) (k j : Nat) : sI z (k : Int) (j : Int) = v0 k j := by
  unfold sI v0
  rw [lg_at, hz k j]
noncomputable def v0L (l : List (Nat × Nat × Int)) : Bool := l.all fun q => decide (v0 q.1 q.2.1 = q.2.2)
theorem v0_use {l : List (Nat × Nat × Int)} (h : v0L l = true) {z : Mem} (hz : hz0 z) (k j : Nat) (v : Int) (hm : (k, j, v) ∈ l) : sI z (k : Int) (j : Int) = v := by
  rw [sI_v0 hz]
  exact of_decide_eq_true (List.all_eq_true.mp h _ hm)
def Z0 : List (Nat × Nat × Int) := [(1, 1, 0), (356, 13, 0), (0, 5, 0), (356, 10, 0), (341, 1, 0), (356, 26, 0), (0, 2, 0), (356, 0, 0), (0, 7, -1), (356, 14, -1), (332, 1, 0), (356, 20, 0), (332, 4, 0), (356, 23, -1), (316, 3, -1)]
def Z1 : List (Nat × Nat × Int) := [(344, 1, 0), (346, 1, 0), (348, 1, 0), (350, 1, 0), (352, 1, 0), (354, 1, 0), (375, 0, -1), (375, 1, -1), (375, 2, -1), (375, 3, -1), (375, 4, -1), (375, 5, -1), (376, 0, -1), (376, 1, -1), (376, 2, -1), (376, 3, -1), (376, 4, -1), (376, 5, -1)]
set_option maxRecDepth 100000 in
theorem z0_ok : v0L Z0 = true := by decide +kernel
set_option maxRecDepth 100000 in
theorem z1_ok : v0L Z1 = true := by decide +kernel
theorem first_inv {z : Mem} (hz : hz0 z) (h2 : I_stat z) (h3 : I_bod z) : Inv (sI z) := by
  have r := fun k j v hm => v0_use z0_ok hz k j v hm
  have r1 := fun k j v hm => v0_use z1_ok hz k j v hm
  have a1 : sI z 1 1 = 0 := r 1 1 0 (by decide)
  have a2 : sI z 356 13 = 0 := r 356 13 0 (by decide)
  have a3 : sI z 0 5 = 0 := r 0 5 0 (by decide)
  have a4 : sI z 356 10 = 0 := r 356 10 0 (by decide)
  have a5 : sI z 341 1 = 0 := r 341 1 0 (by decide)
  have a6 : sI z 356 26 = 0 := r 356 26 0 (by decide)
  have a7 : sI z 0 2 = 0 := r 0 2 0 (by decide)
  have a8 : sI z 356 0 = 0 := r 356 0 0 (by decide)
  have a9 : sI z 0 7 = -1 := r 0 7 (-1) (by decide)
  have b1 : sI z 356 14 = -1 := r 356 14 (-1) (by decide)
  have b2 : sI z 332 1 = 0 := r 332 1 0 (by decide)
  have b3 : sI z 356 20 = 0 := r 356 20 0 (by decide)
  have b4 : sI z 332 4 = 0 := r 332 4 0 (by decide)
  have b5 : sI z 356 23 = -1 := r 356 23 (-1) (by decide)
  have b6 : sI z 316 3 = -1 := r 316 3 (-1) (by decide)
  have sh : ∀ s : Int, 0 ≤ s → s < 6 → sI z (344 + 2 * s) 1 = 0 ∧ sI z 375 s = -1 ∧ sI z 376 s = -1 := by
    intro s s0 s6
    rcases (by omega : s = 0 ∨ s = 1 ∨ s = 2 ∨ s = 3 ∨ s = 4 ∨ s = 5) with e | e | e | e | e | e
    · rw [e]; exact ⟨r1 344 1 0 (by decide), r1 375 0 (-1) (by decide), r1 376 0 (-1) (by decide)⟩
    · rw [e]; exact ⟨r1 346 1 0 (by decide), r1 375 1 (-1) (by decide), r1 376 1 (-1) (by decide)⟩
    · rw [e]; exact ⟨r1 348 1 0 (by decide), r1 375 2 (-1) (by decide), r1 376 2 (-1) (by decide)⟩
    · rw [e]; exact ⟨r1 350 1 0 (by decide), r1 375 3 (-1) (by decide), r1 376 3 (-1) (by decide)⟩
    · rw [e]; exact ⟨r1 352 1 0 (by decide), r1 375 4 (-1) (by decide), r1 376 4 (-1) (by decide)⟩
    · rw [e]; exact ⟨r1 354 1 0 (by decide), r1 375 5 (-1) (by decide), r1 376 5 (-1) (by decide)⟩
  refine ⟨⟨?_, ?_, ?_, fun i i0 i1 => ?_⟩, ⟨?_, ?_, ?_, fun i i0 i1 => ?_⟩, ⟨?_, ?_, ?_, fun i i0 i1 _ => ?_⟩, ⟨fun s s0 s6 => Or.inl (sh s s0 s6), fun s i s0 s6 e _ _ => ?_⟩, stat_fr (fun b j hb => lg_neg (Or.inl hb) SL) ⟨h2, h3⟩, ⟨⟨by rw [a7, a8], by rw [a8]; decide, by rw [a8]; decide, fun g g0 g1 => by rw [a8] at g1; omega⟩, fun g g0 g1 => by rw [a8] at g1; omega⟩, Or.inl ⟨a9, b1⟩, ⟨⟨by rw [b2, b3], by rw [b3]; decide, by rw [b3]; decide, fun z => by rw [b3] at z; omega⟩, Or.inl ⟨b4, b5⟩⟩, fun g g0 g1 => by rw [a8] at g1; omega, fun g k g0 g1 => by rw [a8] at g1; omega, ⟨Or.inl b6, fun g g0 g1 => by rw [a8] at g1; omega⟩⟩
  · show sI z 1 1 = sI z 356 13
    rw [a1, a2]
  · show 0 ≤ sI z 356 13
    rw [a2]; decide
  · show sI z 356 13 ≤ 120
    rw [a2]; decide
  · have i1 : i < sI z 356 13 := i1
    rw [a2] at i1; omega
  · show sI z 0 5 = sI z 356 10
    rw [a3, a4]
  · show 0 ≤ sI z 356 10
    rw [a4]; decide
  · show sI z 356 10 ≤ 15
    rw [a4]; decide
  · have i1 : i < sI z 356 10 := i1
    rw [a4] at i1; omega
  · show sI z 341 1 = sI z 356 26
    rw [a5, a6]
  · show 0 ≤ sI z 356 26
    rw [a6]; decide
  · show sI z 356 26 ≤ 1000
    rw [a6]; decide
  · have i1 : i < sI z 356 26 := i1
    rw [a6] at i1; omega
  · rw [(sh s s0 s6).2.2] at e
    exact absurd e (by decide)
