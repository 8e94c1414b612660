-- ===== trades: what a step keeps
/-- what is held: nothing outside of the people -/
def HT (n m : Int) (h : Int → Int) : Prop := ∀ x, -1 ≤ h x ∧ h x < m ∧ (0 ≤ h x → 0 ≤ x ∧ x < n)
def TSI (n m : Int) (h : Int → Int) (S : DE) : Prop := (∀ x, (S.1 x = 0 ∨ S.1 x = 1) ∧ (S.1 x = 0 → 0 ≤ h x ∧ S.2 x = h x) ∧ (-1 ≤ S.2 x ∧ S.2 x < m)) ∧ ∀ t, cntE n S.2 t = cntE n h t
theorem mdW_cnt {f h dn : Int → Int} {p n t : Int} {Q : Int → Prop} (hq : ∀ x, Q x → (0 ≤ x ∧ x < n ∧ dn x = 0) ∧ Q (f x)) (hp : Q p) : ∀ (q j : Nat) (S : DE), rgM f p q (itF f j p) = true → (∀ i, 1 ≤ i → i ≤ j → ¬ itF f i p = p) → (∀ x, (∃ i, i < j ∧ x = itF f i p) → S.1 x = 1) → (∀ x, (¬ ∃ i, i < j ∧ x = itF f i p) → S.1 x = dn x) → (∀ x, S.1 x = 0 → S.2 x = h x) →
    cntE n (mdW f h p q (itF f j p) S).2 t + (if h (itF f j p) = t then 1 else 0) = cntE n S.2 t + (if h p = t then 1 else 0) ∧ ∀ x, (mdW f h p q (itF f j p) S).1 x = 0 → (mdW f h p q (itF f j p) S).2 x = h x
  | 0, _, _, hr, _, _, _, _ => by cases hr
  | q + 1, j, S, hr, hn, h1, h0, hE => by
    have ho : Q (itF f j p) := itF_in (fun x z => (hq x z).2) j p hp
    obtain ⟨r, r1, r2, r3, r4⟩ := rgM_min (q + 1) _ hr
    have hd : ¬ ∃ i, i < j ∧ itF f j p = itF f i p := by
      rintro ⟨i, ij, e⟩
      have e2 : itF f (r + i) p = p := by rw [itF_add, ← e]; exact r3
      by_cases y : r + i ≤ j
      · exact hn (r + i) (by omega) y e2
      · refine r4 (r + i - j) (by omega) (by omega) ?_
        rw [← itF_add, show r + i - j + j = r + i by omega]; exact e2
    have hv := (hq _ ho).1
    have hz : S.1 (itF f j p) = 0 := by rw [h0 _ hd]; exact hv.2.2
    have e2 : mdW f h p (q + 1) (itF f j p) S = if f (itF f j p) = p then upW f h S (itF f j p) else mdW f h p q (f (itF f j p)) (upW f h S (itF f j p)) := rfl
    have ef : f (itF f j p) = itF f (j + 1) p := by
      have := itF_add (f := f) 1 j p
      rw [show 1 + j = j + 1 by omega] at this
      rw [this]; rfl
    have g1 : ∀ x, (∃ i, i < j + 1 ∧ x = itF f i p) → (upW f h S (itF f j p)).1 x = 1 := by
      rintro x ⟨i, ij, e⟩
      show up S.1 (itF f j p) 1 x = 1
      by_cases y : x = itF f j p
      · rw [y, up_s]
      · rw [up_n y]
        by_cases z : i = j
        · rw [z] at e; exact absurd e y
        · exact h1 x ⟨i, by omega, e⟩
    have g0 : ∀ x, (¬ ∃ i, i < j + 1 ∧ x = itF f i p) → (upW f h S (itF f j p)).1 x = dn x := by
      intro x hx
      show up S.1 (itF f j p) 1 x = dn x
      rw [up_n (fun y => hx ⟨j, by omega, y⟩)]
      exact h0 x (fun ⟨i, ij, e⟩ => hx ⟨i, by omega, e⟩)
    have gE : ∀ x, (upW f h S (itF f j p)).1 x = 0 → (upW f h S (itF f j p)).2 x = h x := by
      intro x hx
      have hx : up S.1 (itF f j p) 1 x = 0 := hx
      show up S.2 (itF f j p) (h (f (itF f j p))) x = h x
      by_cases y : x = itF f j p
      · rw [y, up_s] at hx; omega
      · rw [up_n y] at hx ⊢; exact hE x hx
    have hc : cntE n (upW f h S (itF f j p)).2 t = cntE n S.2 t + (if h (f (itF f j p)) = t then 1 else 0) - (if h (itF f j p) = t then 1 else 0) := by
      have := sm_set (f := fun v => if (upW f h S (itF f j p)).2 v = t then 1 else 0) (f' := fun v => if S.2 v = t then 1 else 0) (d := itF f j p) n.toNat 0 0 hv.1 (by omega) (fun v _ _ y => by
        show (if up S.2 (itF f j p) (h (f (itF f j p))) v = t then (1 : Int) else 0) = if S.2 v = t then 1 else 0
        rw [up_n y])
      unfold cntE
      rw [this, hE _ hz]
      show _ + (if up S.2 (itF f j p) (h (f (itF f j p))) (itF f j p) = t then (1 : Int) else 0) - _ = _
      rw [up_s]
    rw [e2]
    by_cases c : f (itF f j p) = p
    · rw [if_pos c]
      refine ⟨?_, gE⟩
      rw [hc, c]; omega
    · rw [if_neg c]
      have e3 : rgM f p (q + 1) (itF f j p) = if f (itF f j p) = p then true else rgM f p q (f (itF f j p)) := rfl
      rw [e3, if_neg c] at hr
      rw [ef] at hr c hc ⊢
      have := mdW_cnt (t := t) hq hp q (j + 1) _ hr (fun i a b => by
        by_cases y : i = j + 1
        · rw [y]; exact c
        · exact hn i a (by omega)) g1 g0 gE
      refine ⟨?_, this.2⟩
      have := this.1
      omega
theorem mdW_R {f h : Int → Int} {p : Int} {R : Int → Prop} (hh : ∀ x, R (h x)) : ∀ (q : Nat) (o : Int) (S : DE), (∀ x, R (S.2 x)) → ∀ x, R ((mdW f h p q o S).2 x)
  | 0, _, _, hS => hS
  | q + 1, o, S, hS => by
    have e2 : mdW f h p (q + 1) o S = if f o = p then upW f h S o else mdW f h p q (f o) (upW f h S o) := rfl
    have hu : ∀ x, R ((upW f h S o).2 x) := fun x => by
      show R (up S.2 o (h (f o)) x)
      by_cases y : x = o
      · rw [y, up_s]; exact hh _
      · rw [up_n y]; exact hS x
    rw [e2]
    by_cases c : f o = p
    · rw [if_pos c]; exact hu
    · rw [if_neg c]; exact mdW_R hh q (f o) _ hu
theorem frR_r {f dn : Int → Int} {n : Nat} : ∀ (q : Nat) (p : Int), frR f dn n q p = -1 ∨ (p ≤ frR f dn n q p ∧ frR f dn n q p < p + q ∧ dn (frR f dn n q p) = 0 ∧ rgM f (frR f dn n q p) n (frR f dn n q p) = true)
  | 0, _ => Or.inl rfl
  | q + 1, p => by
    have e : frR f dn n (q + 1) p = if dn p = 0 ∧ rgM f p n p = true then p else frR f dn n q (p + 1) := rfl
    rw [e]
    split
    · rename_i c; exact Or.inr ⟨Int.le_refl p, by omega, c⟩
    · rcases frR_r (f := f) (dn := dn) (n := n) q (p + 1) with z | z
      · exact Or.inl z
      · exact Or.inr ⟨by omega, by omega, z.2.2⟩
theorem frR_ex {f dn : Int → Int} {n : Nat} {x : Int} : ∀ (q : Nat) (p : Int), 0 ≤ p → p ≤ x → x < p + q → dn x = 0 → rgM f x n x = true → ¬ frR f dn n q p = -1
  | 0, _, _, a, b, _, _ => by omega
  | q + 1, p, p0, a, b, c, e => by
    have ee : frR f dn n (q + 1) p = if dn p = 0 ∧ rgM f p n p = true then p else frR f dn n q (p + 1) := rfl
    rw [ee]
    split
    · omega
    · rename_i z
      by_cases y : p = x
      · rw [y] at z; exact absurd ⟨c, e⟩ z
      · exact frR_ex q (p + 1) (by omega) (by omega) (by omega) c e
theorem frR_congr {f dn dn' : Int → Int} {n : Nat} : ∀ (q : Nat) (p : Int), (∀ x, p ≤ x → x < p + q → dn x = dn' x) → frR f dn n q p = frR f dn' n q p
  | 0, _, _ => rfl
  | q + 1, p, h => by
    have e : ∀ dn : Int → Int, frR f dn n (q + 1) p = if dn p = 0 ∧ rgM f p n p = true then p else frR f dn n q (p + 1) := fun _ => rfl
    rw [e, e, h p (Int.le_refl p) (by omega), frR_congr q (p + 1) (fun x a b => h x (by omega) (by omega))]
/-- where all point, the walk stays -/
theorem ptF_Q {n m : Int} {ls : Int → Int → Int} {sz h : Int → Int} {S : DE} (hh : HT n m h) (hS : ∀ x, S.1 x = 0 → 0 ≤ h x) (ha : allP n ls sz h S.1) : ∀ x, S.1 x = 0 → (0 ≤ x ∧ x < n ∧ S.1 x = 0) ∧ S.1 (ptF n ls sz h S.1 x) = 0 := fun x z => by
  have hr := (hh x).2.2 (hS x z)
  exact ⟨⟨hr.1, hr.2, z⟩, ptF_dn z (ha x hr.1 hr.2 z)⟩
theorem stF_TSI {n m : Int} {ls : Int → Int → Int} {sz h : Int → Int} {S : DE} (n0 : 0 ≤ n) (hh : HT n m h) (hS : TSI n m h S) : TSI n m h (stF n ls sz h S) := by
  have hd := fun x => stF_dn (n := n) (ls := ls) (sz := sz) (h := h) (hS.1 x).1
  have main : (∀ x, ((stF n ls sz h S).1 x = 0 → (stF n ls sz h S).2 x = h x) ∧ (-1 ≤ (stF n ls sz h S).2 x ∧ (stF n ls sz h S).2 x < m)) ∧ ∀ t, cntE n (stF n ls sz h S).2 t = cntE n h t := by
    have same : (∀ x, (S.1 x = 0 → S.2 x = h x) ∧ (-1 ≤ S.2 x ∧ S.2 x < m)) ∧ ∀ t, cntE n S.2 t = cntE n h t := ⟨fun x => ⟨fun z => ((hS.1 x).2.1 z).2, (hS.1 x).2.2⟩, hS.2⟩
    by_cases c : alB n ls sz h S.1 n.toNat 0 = true
    · have ha := (alB_all n0).mp c
      have hq := ptF_Q (m := m) hh (fun x z => ((hS.1 x).2.1 z).1) ha
      have e : stF n ls sz h S = clR (ptF n ls sz h S.1) h n.toNat S := by unfold stF; rw [if_pos c]
      rw [e]
      unfold clR
      by_cases y : frR (ptF n ls sz h S.1) S.1 n.toNat n.toNat 0 = -1
      · rw [if_pos y]; exact same
      · rw [if_neg y]
        have hf := (frR_r (f := ptF n ls sz h S.1) (dn := S.1) (n := n.toNat) n.toNat 0).resolve_left y
        generalize frR (ptF n ls sz h S.1) S.1 n.toNat n.toNat 0 = p at *
        have hm := fun t => mdW_cnt (n := n) (t := t) (f := ptF n ls sz h S.1) (h := h) (dn := S.1) (p := p) (Q := fun x => S.1 x = 0) hq hf.2.2.1 n.toNat 0 S hf.2.2.2 (fun i a b => by omega) (fun x ⟨i, a, _⟩ => by omega) (fun x _ => rfl) (fun x z => (same.1 x).1 z)
        have e0 : itF (ptF n ls sz h S.1) 0 p = p := rfl
        rw [e0] at hm
        refine ⟨fun x => ⟨fun z => (hm 0).2 x z, mdW_R (R := fun v => -1 ≤ v ∧ v < m) (fun x => ⟨(hh x).1, (hh x).2.1⟩) _ _ _ (fun x => (same.1 x).2) x⟩, fun t => ?_⟩
        have := (hm t).1
        have := same.2 t
        omega
    · have e : stF n ls sz h S = (dnP n ls sz h S.1, S.2) := by unfold stF; rw [if_neg c]
      have hd2 := fun x => (hd x).2
      rw [e] at hd2 ⊢
      exact ⟨fun x => ⟨fun z => (same.1 x).1 (hd2 x z), (same.1 x).2⟩, same.2⟩
  exact ⟨fun x => ⟨(hd x).1, fun z => ⟨((hS.1 x).2.1 ((hd x).2 z)).1, (main.1 x).1 z⟩, (main.1 x).2⟩, main.2⟩
theorem stN_TSI {n m : Int} {ls : Int → Int → Int} {sz h : Int → Int} (n0 : 0 ≤ n) (hh : HT n m h) : ∀ (q : Nat) (S : DE), TSI n m h S → TSI n m h (stN n ls sz h q S)
  | 0, _, hS => hS
  | q + 1, S, hS => stN_TSI n0 hh q _ (stF_TSI n0 hh hS)
theorem stN_s {n : Int} {ls : Int → Int → Int} {sz h : Int → Int} : ∀ (q : Nat) (S : DE), stN n ls sz h (q + 1) S = stF n ls sz h (stN n ls sz h q S)
  | 0, _ => rfl
  | q + 1, S => by
    have e : stN n ls sz h (q + 1 + 1) S = stN n ls sz h (q + 1) (stF n ls sz h S) := rfl
    rw [e, stN_s q (stF n ls sz h S)]; rfl
theorem stN_fix {n : Int} {ls : Int → Int → Int} {sz h : Int → Int} {S : DE} (e : stF n ls sz h S = S) : ∀ q : Nat, stN n ls sz h q S = S
  | 0 => rfl
  | q + 1 => by rw [stN_s, stN_fix e q, e]
theorem stN_add {n : Int} {ls : Int → Int → Int} {sz h : Int → Int} {S : DE} (a : Nat) : ∀ b : Nat, stN n ls sz h (a + b) S = stN n ls sz h b (stN n ls sz h a S)
  | 0 => rfl
  | b + 1 => by rw [show a + (b + 1) = a + b + 1 by omega, stN_s, stN_add a b, ← stN_s]
/-- how many are not done -/
def cz (n : Int) (dn : Int → Int) : Int := sm (fun o => if dn o = 0 then 1 else 0) n.toNat 0 0
theorem sm_lt {f g : Int → Int} : ∀ (m : Nat) (i a : Int), (∀ j, i ≤ j → j < i + m → f j ≤ g j) → (∃ o, i ≤ o ∧ o < i + m ∧ f o < g o) → sm f m i a < sm g m i a
  | 0, i, a, _, h => by obtain ⟨o, a, b, _⟩ := h; omega
  | m + 1, i, a, h, hx => by
    rw [sm_snoc, sm_snoc]
    have hl := h (i + m) (by omega) (by omega)
    have hle : ∀ k : Nat, k ≤ m → sm f k i a ≤ sm g k i a := by
      intro k
      induction k with
      | zero => intro _; exact Int.le_refl _
      | succ k ih =>
        intro hk
        rw [sm_snoc, sm_snoc]
        have := ih (by omega)
        have := h (i + k) (by omega) (by omega)
        omega
    obtain ⟨o, o0, o1, o2⟩ := hx
    by_cases c : o = i + m
    · rw [c] at o2
      have := hle m (Nat.le_refl m)
      omega
    · have := sm_lt m i a (fun j a b => h j a (by omega)) ⟨o, o0, by omega, o2⟩
      omega
theorem cz_lt {n : Int} {dn dn' : Int → Int} (h : ∀ x, dn' x = 0 → dn x = 0) (hx : ∃ o, 0 ≤ o ∧ o < n ∧ dn o = 0 ∧ ¬ dn' o = 0) : cz n dn' < cz n dn := by
  refine sm_lt n.toNat 0 0 (fun j _ _ => ?_) ?_
  · by_cases c : dn' j = 0
    · show (if dn' j = 0 then (1 : Int) else 0) ≤ if dn j = 0 then 1 else 0
      rw [if_pos c, if_pos (h j c)]; omega
    · show (if dn' j = 0 then (1 : Int) else 0) ≤ if dn j = 0 then 1 else 0
      rw [if_neg c]; split <;> omega
  · obtain ⟨o, o0, o1, c, c2⟩ := hx
    refine ⟨o, o0, by omega, ?_⟩
    show (if dn' o = 0 then (1 : Int) else 0) < if dn o = 0 then 1 else 0
    rw [if_pos c, if_neg c2]; omega
theorem cz_r {n : Int} {dn : Int → Int} (n0 : 0 ≤ n) : 0 ≤ cz n dn ∧ cz n dn ≤ n := by
  have := sm_le (f := fun o => if dn o = 0 then 1 else 0) (lo := 0) (hi := 1) n.toNat 0 0 (fun j _ _ => by
    show 0 ≤ (if dn j = 0 then (1 : Int) else 0) ∧ (if dn j = 0 then (1 : Int) else 0) ≤ 1
    split <;> omega)
  unfold cz
  omega
/-- a ring that is closed makes one done -/
theorem mdW_p {f h : Int → Int} {p : Int} : ∀ (q : Nat) (o : Int) (S : DE), (S.1 p = 1 ∨ o = p) → 1 ≤ q → (mdW f h p q o S).1 p = 1
  | 0, _, _, _, a => by omega
  | q + 1, o, S, hx, _ => by
    have e2 : mdW f h p (q + 1) o S = if f o = p then upW f h S o else mdW f h p q (f o) (upW f h S o) := rfl
    have hu : (upW f h S o).1 p = 1 := by
      show up S.1 o 1 p = 1
      by_cases y : p = o
      · rw [y, up_s]
      · rw [up_n y]; rcases hx with z | z; exact z; exact absurd z.symm y
    rw [e2]
    by_cases c : f o = p
    · rw [if_pos c]; exact hu
    · rw [if_neg c]
      cases q with
      | zero => exact hu
      | succ q => exact mdW_p (q + 1) (f o) _ (Or.inl hu) (by omega)
theorem stF_cz {n m : Int} {ls : Int → Int → Int} {sz h : Int → Int} {S : DE} (n0 : 0 ≤ n) (hS : TSI n m h S) : stF n ls sz h S = S ∨ cz n (stF n ls sz h S).1 < cz n S.1 := by
  have hd := fun x => stF_dn (n := n) (ls := ls) (sz := sz) (h := h) (hS.1 x).1
  by_cases c : alB n ls sz h S.1 n.toNat 0 = true
  · have e : stF n ls sz h S = clR (ptF n ls sz h S.1) h n.toNat S := by unfold stF; rw [if_pos c]
    by_cases y : frR (ptF n ls sz h S.1) S.1 n.toNat n.toNat 0 = -1
    · left; rw [e]; unfold clR; rw [if_pos y]
    · right
      have hf := (frR_r (f := ptF n ls sz h S.1) (dn := S.1) (n := n.toNat) n.toNat 0).resolve_left y
      refine cz_lt (fun x => (hd x).2) ⟨frR (ptF n ls sz h S.1) S.1 n.toNat n.toNat 0, hf.1, by omega, hf.2.2.1, ?_⟩
      rw [e]
      unfold clR
      rw [if_neg y, mdW_p _ _ _ (Or.inr rfl) (by omega)]
      decide
  · right
    obtain ⟨o, a, b, e1, e2⟩ := alB_F n.toNat 0 c
    refine cz_lt (fun x => (hd x).2) ⟨o, a, by omega, e1, ?_⟩
    have e : stF n ls sz h S = (dnP n ls sz h S.1, S.2) := by unfold stF; rw [if_neg c]
    rw [e]
    show ¬ dnP n ls sz h S.1 o = 0
    unfold dnP
    rw [if_pos e1, if_pos e2]
    decide
