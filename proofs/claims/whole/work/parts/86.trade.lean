-- ===== a step of the trades
def alB (n : Int) (ls : Int → Int → Int) (sz h dn : Int → Int) : Nat → Int → Bool
  | 0, _ => true
  | q + 1, p => if dn p = 0 ∧ ptF n ls sz h dn p < 0 then false else alB n ls sz h dn q (p + 1)
theorem alB_T {n : Int} {ls : Int → Int → Int} {sz h dn : Int → Int} : ∀ (q : Nat) (p : Int), alB n ls sz h dn q p = true → ∀ o, p ≤ o → o < p + q → dn o = 0 → 0 ≤ ptF n ls sz h dn o
  | 0, p, _, o, a, b, _ => by omega
  | q + 1, p, e, o, a, b, c => by
    have e1 : alB n ls sz h dn (q + 1) p = if dn p = 0 ∧ ptF n ls sz h dn p < 0 then false else alB n ls sz h dn q (p + 1) := rfl
    rw [e1] at e
    by_cases z : dn p = 0 ∧ ptF n ls sz h dn p < 0
    · rw [if_pos z] at e; cases e
    · rw [if_neg z] at e
      by_cases y : o = p
      · rw [y] at c ⊢
        by_cases w : ptF n ls sz h dn p < 0
        · exact absurd ⟨c, w⟩ z
        · omega
      · exact alB_T q (p + 1) e o (by omega) (by omega) c
theorem alB_F {n : Int} {ls : Int → Int → Int} {sz h dn : Int → Int} : ∀ (q : Nat) (p : Int), ¬ alB n ls sz h dn q p = true → ∃ o, p ≤ o ∧ o < p + q ∧ dn o = 0 ∧ ptF n ls sz h dn o < 0
  | 0, p, e => absurd rfl e
  | q + 1, p, e => by
    have e1 : alB n ls sz h dn (q + 1) p = if dn p = 0 ∧ ptF n ls sz h dn p < 0 then false else alB n ls sz h dn q (p + 1) := rfl
    rw [e1] at e
    by_cases z : dn p = 0 ∧ ptF n ls sz h dn p < 0
    · exact ⟨p, Int.le_refl p, by omega, z⟩
    · rw [if_neg z] at e
      obtain ⟨o, a, b, c⟩ := alB_F q (p + 1) e
      exact ⟨o, by omega, by omega, c⟩
theorem alB_all {n : Int} {ls : Int → Int → Int} {sz h dn : Int → Int} (n0 : 0 ≤ n) : alB n ls sz h dn n.toNat 0 = true ↔ allP n ls sz h dn := by
  constructor
  · intro e p p0 p1 c
    exact alB_T n.toNat 0 e p p0 (by omega) c
  · intro w
    by_cases c : alB n ls sz h dn n.toNat 0 = true
    · exact c
    · obtain ⟨o, a, b, e1, e2⟩ := alB_F n.toNat 0 c
      have := w o a (by omega) e1
      omega
/-- one step: those are done who point to nobody; or the first ring is closed -/
def stF (n : Int) (ls : Int → Int → Int) (sz h : Int → Int) (S : DE) : DE := if alB n ls sz h S.1 n.toNat 0 = true then clR (ptF n ls sz h S.1) h n.toNat S else (dnP n ls sz h S.1, S.2)
def stN (n : Int) (ls : Int → Int → Int) (sz h : Int → Int) : Nat → DE → DE
  | 0, S => S
  | q + 1, S => stN n ls sz h q (stF n ls sz h S)
theorem ptF_dn {n : Int} {ls : Int → Int → Int} {sz h dn : Int → Int} {p : Int} (c : dn p = 0) (hp : 0 ≤ ptF n ls sz h dn p) : dn (ptF n ls sz h dn p) = 0 := by
  unfold ptF at hp ⊢
  split
  · rename_i z; rw [if_pos z] at hp; omega
  · rename_i z
    rw [if_neg z] at hp
    split
    · exact c
    · rename_i y
      rw [if_neg y] at hp
      rcases hoF_r (h := h) (dn := dn) (t := fsT (fun t => decide (0 ≤ hoF h dn t n.toNat 0)) (ls p) (sz p).toNat 0) n.toNat 0 with w | w
      · omega
      · exact w.2.2.1
theorem mdW_dn {f h : Int → Int} {p : Int} : ∀ (q : Nat) (o : Int) (S : DE) (x : Int), (S.1 x = 0 ∨ S.1 x = 1) → ((mdW f h p q o S).1 x = 0 ∨ (mdW f h p q o S).1 x = 1) ∧ ((mdW f h p q o S).1 x = 0 → S.1 x = 0)
  | 0, _, _, _, hx => ⟨hx, fun z => z⟩
  | q + 1, o, S, x, hx => by
    have e2 : mdW f h p (q + 1) o S = if f o = p then upW f h S o else mdW f h p q (f o) (upW f h S o) := rfl
    have hu : ((upW f h S o).1 x = 0 ∨ (upW f h S o).1 x = 1) ∧ ((upW f h S o).1 x = 0 → S.1 x = 0) := by
      show (up S.1 o 1 x = 0 ∨ up S.1 o 1 x = 1) ∧ (up S.1 o 1 x = 0 → S.1 x = 0)
      by_cases y : x = o
      · rw [y, up_s]; exact ⟨Or.inr rfl, fun z => by omega⟩
      · rw [up_n y]; exact ⟨hx, fun z => z⟩
    rw [e2]
    by_cases c : f o = p
    · rw [if_pos c]; exact hu
    · rw [if_neg c]
      have := mdW_dn (f := f) (h := h) (p := p) q (f o) (upW f h S o) x hu.1
      exact ⟨this.1, fun z => hu.2 (this.2 z)⟩
theorem stF_dn {n : Int} {ls : Int → Int → Int} {sz h : Int → Int} {S : DE} {x : Int} (hx : S.1 x = 0 ∨ S.1 x = 1) : ((stF n ls sz h S).1 x = 0 ∨ (stF n ls sz h S).1 x = 1) ∧ ((stF n ls sz h S).1 x = 0 → S.1 x = 0) := by
  unfold stF
  by_cases c : alB n ls sz h S.1 n.toNat 0 = true
  · rw [if_pos c]
    unfold clR
    by_cases y : frR (ptF n ls sz h S.1) S.1 n.toNat n.toNat 0 = -1
    · rw [if_pos y]; exact ⟨hx, fun z => z⟩
    · rw [if_neg y]; exact mdW_dn _ _ _ _ hx
  · rw [if_neg c]
    show (dnP n ls sz h S.1 x = 0 ∨ dnP n ls sz h S.1 x = 1) ∧ (dnP n ls sz h S.1 x = 0 → S.1 x = 0)
    unfold dnP
    by_cases y : S.1 x = 0
    · rw [if_pos y]
      exact ⟨by split; exact Or.inr rfl; exact Or.inl rfl, fun _ => y⟩
    · rw [if_neg y]; exact ⟨Or.inr rfl, fun z => by omega⟩
