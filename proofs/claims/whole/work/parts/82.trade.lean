-- ===== a ring is closed
theorem rgM_min {f : Int → Int} {p : Int} : ∀ (q : Nat) (o : Int), rgM f p q o = true → ∃ k, 1 ≤ k ∧ k ≤ q ∧ itF f k o = p ∧ ∀ i, 1 ≤ i → i < k → ¬ itF f i o = p
  | 0, _, h => by cases h
  | q + 1, o, h => by
    have e : rgM f p (q + 1) o = if f o = p then true else rgM f p q (f o) := rfl
    rw [e] at h
    by_cases c : f o = p
    · exact ⟨1, Nat.le_refl 1, by omega, c, fun i a b => by omega⟩
    · rw [if_neg c] at h
      obtain ⟨k, k1, k2, k3, k4⟩ := rgM_min q (f o) h
      refine ⟨k + 1, by omega, by omega, k3, fun i a b y => ?_⟩
      by_cases z : i = 1
      · rw [z] at y; exact c y
      · have : i = (i - 1) + 1 := by omega
        rw [this] at y
        exact k4 (i - 1) (by omega) (by omega) y
abbrev DE : Type := (Int → Int) × (Int → Int)
def upW (f h : Int → Int) (S : DE) (o : Int) : DE := (up S.1 o 1, up S.2 o (h (f o)))
/-- a ring closed till the walk is back -/
def mdW (f h : Int → Int) (p : Int) : Nat → Int → DE → DE
  | 0, _, S => S
  | q + 1, o, S => if f o = p then upW f h S o else mdW f h p q (f o) (upW f h S o)
/-- a ring closed till one is done -/
def clW (f h : Int → Int) : Nat → Int → DE → DE
  | 0, _, S => S
  | q + 1, o, S => if S.1 o = 0 then clW f h q (f o) (upW f h S o) else S
theorem clW_md {f h dn : Int → Int} {p : Int} {Q : Int → Prop} (hq : ∀ x, Q x → dn x = 0 ∧ Q (f x)) (hp : Q p) : ∀ (q j : Nat) (S : DE), rgM f p q (itF f j p) = true → (∀ i, 1 ≤ i → i ≤ j → ¬ itF f i p = p) → (∀ x, (∃ i, i < j ∧ x = itF f i p) → S.1 x = 1) → (∀ x, (¬ ∃ i, i < j ∧ x = itF f i p) → S.1 x = dn x) → clW f h q (itF f j p) S = mdW f h p q (itF f j p) S
  | 0, _, _, _, _, _, _ => rfl
  | q + 1, j, S, hr, hn, h1, h0 => by
    have ho : Q (itF f j p) := itF_in (fun x z => (hq x z).2) j p hp
    obtain ⟨r, r1, r2, r3, r4⟩ := rgM_min (q + 1) _ hr
    have hd : ¬ ∃ i, i < j ∧ itF f j p = itF f i p := by
      rintro ⟨i, ij, e⟩
      have e2 : itF f (r + i) p = p := by rw [itF_add, ← e]; exact r3
      by_cases y : r + i ≤ j
      · exact hn (r + i) (by omega) y e2
      · refine r4 (r + i - j) (by omega) (by omega) ?_
        rw [← itF_add, show r + i - j + j = r + i by omega]; exact e2
    have hz : S.1 (itF f j p) = 0 := by rw [h0 _ hd]; exact (hq _ ho).1
    have e1 : clW f h (q + 1) (itF f j p) S = if S.1 (itF f j p) = 0 then clW f h q (f (itF f j p)) (upW f h S (itF f j p)) else S := rfl
    have e2 : mdW f h p (q + 1) (itF f j p) S = if f (itF f j p) = p then upW f h S (itF f j p) else mdW f h p q (f (itF f j p)) (upW f h S (itF f j p)) := rfl
    have ef : f (itF f j p) = itF f (j + 1) p := by
      have := itF_add (f := f) 1 j p
      rw [show 1 + j = j + 1 by omega] at this
      rw [this]; rfl
    have g1 : ∀ x, (∃ i, i < j + 1 ∧ x = itF f i p) → (upW f h S (itF f j p)).1 x = 1 := by
      rintro x ⟨i, ij, e⟩
      show up S.1 (itF f j p) 1 x = 1
      by_cases y : x = itF f j p
      · rw [y, up_s]
      · rw [up_n y]
        by_cases z : i = j
        · rw [z] at e; exact absurd e y
        · exact h1 x ⟨i, by omega, e⟩
    have g0 : ∀ x, (¬ ∃ i, i < j + 1 ∧ x = itF f i p) → (upW f h S (itF f j p)).1 x = dn x := by
      intro x hx
      show up S.1 (itF f j p) 1 x = dn x
      rw [up_n (fun y => hx ⟨j, by omega, y⟩)]
      exact h0 x (fun ⟨i, ij, e⟩ => hx ⟨i, by omega, e⟩)
    rw [e1, e2, if_pos hz]
    by_cases c : f (itF f j p) = p
    · rw [if_pos c, c]
      have hp1 : (upW f h S (itF f j p)).1 p = 1 := g1 p ⟨0, by omega, rfl⟩
      cases q with
      | zero => rfl
      | succ q =>
        show (if (upW f h S (itF f j p)).1 p = 0 then _ else upW f h S (itF f j p)) = _
        rw [if_neg (by rw [hp1]; decide)]
    · rw [if_neg c]
      have e3 : rgM f p (q + 1) (itF f j p) = if f (itF f j p) = p then true else rgM f p q (f (itF f j p)) := rfl
      rw [e3, if_neg c] at hr
      rw [ef] at hr c ⊢
      exact clW_md hq hp q (j + 1) _ hr (fun i a b => by
        by_cases y : i = j + 1
        · rw [y]; exact c
        · exact hn i a (by omega)) g1 g0
/-- the first that is in a ring -/
def frR (f dn : Int → Int) (n : Nat) : Nat → Int → Int
  | 0, _ => -1
  | q + 1, p => if dn p = 0 ∧ rgM f p n p = true then p else frR f dn n q (p + 1)
def clR (f h : Int → Int) (n : Nat) (S : DE) : DE := if frR f S.1 n n 0 = -1 then S else mdW f h (frR f S.1 n n 0) n (frR f S.1 n n 0) S
theorem X_closeRing_ok {d : Nat} {K : Int → Mem → Prop} {s : Mem} {g n : Int} {f h dn en : Int → Int} (g0 : 0 ≤ g) (g5 : g ≤ 5) (eN : s (4 + 43 * g) 1 = n) (n7 : 0 ≤ n ∧ n ≤ 7) (hh : ∀ o, 0 ≤ o → o < n → s 312 o = h o) (hd : ∀ o, 0 ≤ o → o < n → s 315 o = dn o) (he : ∀ o, 0 ≤ o → o < n → s 313 o = en o) (hf : ∀ o, 0 ≤ o → o < n → dn o = 0 → s 314 o = f o ∧ (0 ≤ f o ∧ f o < n) ∧ dn (f o) = 0)
    (k : ∀ s2 : Mem, (∀ o, 0 ≤ o → o < n → s2 315 o = (clR f h n.toNat (dn, en)).1 o ∧ s2 313 o = (clR f h n.toNat (dn, en)).2 o) → (∀ b j, ¬ b = 313 → ¬ b = 315 → s2 b j = s b j) → K 0 s2) : AM2 i_Trade_closeRing (d + 2) [(2, 311), (2, 4 + 43 * g)] s K := by
  have ckg := fun {P : Prop} => ck_g (P := P) g0 g5
  have hQ : ∀ x, (0 ≤ x ∧ x < n ∧ dn x = 0) → (0 ≤ x ∧ x < n ∧ s 314 x = f x) ∧ (0 ≤ f x ∧ f x < n ∧ dn (f x) = 0) := fun x z => by
    have := hf x z.1 z.2.1 z.2.2
    exact ⟨⟨z.1, z.2.1, this.1⟩, this.2.1.1, this.2.1.2, this.2.2⟩
  have l20 : ∀ (q : Nat) (i at' : Int) (S : DE) (s1 : Mem), 0 ≤ i → i + q = n → (0 ≤ at' ∧ at' < n ∧ dn at' = 0) → (∀ o, 0 ≤ o → o < n → s1 315 o = S.1 o ∧ s1 313 o = S.2 o) → (∀ b j, ¬ b = 313 → ¬ b = 315 → s1 b j = s b j) → clW f h q at' S = clR f h n.toNat (dn, en) → AW2 i_Trade_closeRing (d + 2) 20 [] [(0, (2, 311)), (1, (2, 4 + 43 * g)), (3, (0, at')), (4, (0, i))] s1 K := by
    intro q
    induction q with
    | zero =>
      intro i at' S s1 i0 e ha hm fr ec
      have ec : S = clR f h n.toNat (dn, en) := ec
      refine s_Trade_closeRing_20 ?_
      rw [ckg, fr (4 + 43 * g) 1 (by omega) (by omega), eN]
      exact brF_i (by omega) (k s1 (fun o o0 o1 => by rw [← ec]; exact hm o o0 o1) fr)
    | succ q ih =>
      intro i at' S s1 i0 e ha hm fr ec
      have e1 : clW f h (q + 1) at' S = if S.1 at' = 0 then clW f h q (f at') (upW f h S at') else S := rfl
      rw [e1] at ec
      have hv := hQ at' ha
      refine s_Trade_closeRing_20 ?_
      rw [ckg, fr (4 + 43 * g) 1 (by omega) (by omega), eN, (hm at' ha.1 ha.2.1).1, fr 314 at' (by decide) (by decide), hv.1.2.2, fr 312 (f at') (by decide) (by decide), hh (f at') hv.2.1 hv.2.2.1, w32_id (x := i + 1) (by omega) (by omega)]
      refine brT_i (by omega) (inb_i ha.1 (by omega) ⟨fun c => inb_i ha.1 (by omega) (inb_i hv.2.1 (by omega) (inb_i ha.1 (by omega) (inb_i ha.1 (by omega) (inb_i ha.1 (by omega) ?_)))), fun c => ?_⟩)
      · rw [if_pos c] at ec
        rw [show st (st s1 313 at' (h (f at'))) 315 at' 1 314 at' = f at' by rw [st_ne (by omega), st_ne (by omega), fr 314 at' (by decide) (by decide), hv.1.2.2]]
        refine ih (i + 1) (f at') (upW f h S at') _ (by omega) (by omega) hv.2 (fun o o0 o1 => ?_) (fun b j z1 z2 => by rw [st_ne (by omega), st_ne (by omega)]; exact fr b j z1 z2) ec
        by_cases z : o = at'
        · rw [z]
          exact ⟨by rw [st_self]; exact up_s.symm, by rw [st_ne (by omega), st_self]; exact up_s.symm⟩
        · refine ⟨?_, ?_⟩
          · rw [st_ne (by omega), st_ne (by omega), (hm o o0 o1).1]; exact (up_n z).symm
          · rw [st_ne (by omega), st_ne (by omega), (hm o o0 o1).2]; exact (up_n z).symm
      · rw [if_neg c] at ec
        exact k s1 (fun o o0 o1 => by rw [← ec]; exact hm o o0 o1) fr
  have l2 : ∀ (q : Nat) (p : Int), 0 ≤ p → p + q = n → frR f dn n.toNat q p = frR f dn n.toNat n.toNat 0 → AW2 i_Trade_closeRing (d + 2) 2 [] [(0, (2, 311)), (1, (2, 4 + 43 * g)), (2, (0, p))] s K := by
    intro q
    induction q with
    | zero =>
      intro p p0 e er
      have er : -1 = frR f dn n.toNat n.toNat 0 := er
      refine s_Trade_closeRing_2 ?_
      rw [ckg, eN]
      have ec : clR f h n.toNat (dn, en) = (dn, en) := by unfold clR; rw [if_pos er.symm]
      exact brF_i (by omega) (k s (fun o o0 o1 => by rw [ec]; exact ⟨hd o o0 o1, he o o0 o1⟩) (fun _ _ _ _ => rfl))
    | succ q ih =>
      intro p p0 e er
      have e1 : frR f dn n.toNat (q + 1) p = if dn p = 0 ∧ rgM f p n.toNat p = true then p else frR f dn n.toNat q (p + 1) := rfl
      rw [e1] at er
      refine s_Trade_closeRing_2 ?_
      rw [ckg, eN, hd p p0 (by omega), w32_id (x := p + 1) (by omega) (by omega)]
      refine brT_i (by omega) (inb_i p0 (by omega) ⟨fun c => ?_, fun c => ?_⟩)
      · have hp : 0 ≤ p ∧ p < n ∧ dn p = 0 := ⟨p0, by omega, c⟩
        refine X_isInRing_ok (d := d) (n := n) (f := f) (Q := fun x => 0 ≤ x ∧ x < n ∧ dn x = 0) g0 g5 eN n7 hQ hp ?_
        rw [rgM_n (n := n.toNat) (Q := fun x => 0 ≤ x ∧ x < n ∧ dn x = 0) (fun x z => ⟨⟨z.1, by have := z.2.1; omega⟩, (hQ x z).2⟩) hp]
        by_cases c2 : rgM f p n.toNat p = true
        · rw [if_pos c2]
          rw [if_pos ⟨c, c2⟩] at er
          refine br1 (l20 n.toNat 0 p (dn, en) s (Int.le_refl 0) (by omega) hp (fun o o0 o1 => ⟨hd o o0 o1, he o o0 o1⟩) (fun _ _ _ _ => rfl) ?_)
          have hc := clW_md (f := f) (h := h) (dn := dn) (p := p) (Q := fun x => 0 ≤ x ∧ x < n ∧ dn x = 0) (fun x z => ⟨z.2.2, (hQ x z).2⟩) hp n.toNat 0 (dn, en) c2 (fun i a b => by omega) (fun x ⟨i, a, _⟩ => by omega) (fun x _ => rfl)
          have hc : clW f h n.toNat p (dn, en) = mdW f h p n.toNat p (dn, en) := hc
          rw [hc]
          unfold clR
          rw [← er, if_neg (by omega)]
        · rw [if_neg c2]
          rw [if_neg (fun w => c2 w.2)] at er
          exact br0 (ih (p + 1) (by omega) (by omega) er)
      · rw [if_neg (fun w => c w.1)] at er
        exact ih (p + 1) (by omega) (by omega) er
  exact e_Trade_closeRing (l2 n.toNat 0 (Int.le_refl 0) (by omega) rfl)
