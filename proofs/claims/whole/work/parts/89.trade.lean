-- ===== trades: the model's state as the class's
def cv (h : Int → Int) (M : DE) : DE := (fun p => if h p < 0 then 1 else M.1 p, fun p => if M.1 p = 0 then h p else M.2 p)
theorem hoF_congr {h dn dn' : Int → Int} {t : Int} (t0 : 0 ≤ t) (hd : ∀ o, 0 ≤ h o → dn o = dn' o) : ∀ (q : Nat) (o : Int), hoF h dn t q o = hoF h dn' t q o
  | 0, _ => rfl
  | q + 1, o => by
    have e : ∀ dn : Int → Int, hoF h dn t (q + 1) o = if dn o = 0 ∧ h o = t then o else hoF h dn t q (o + 1) := fun _ => rfl
    rw [e, e, hoF_congr t0 hd q (o + 1)]
    by_cases c : h o = t
    · rw [hd o (by omega)]
    · rw [if_neg (fun w => c w.2), if_neg (fun w => c w.2)]
theorem ptF_congr {n m p : Int} {ls : Int → Int → Int} {sz h dn dn' : Int → Int} (hL : LGo n m ls sz) (p0 : 0 ≤ p) (p1 : p < n) (hd : ∀ o, 0 ≤ h o → dn o = dn' o) : ptF n ls sz h dn p = ptF n ls sz h dn' p := by
  have hs := hL.1 p p0 p1
  have e1 : fsT (fun t => decide (0 ≤ hoF h dn t n.toNat 0)) (ls p) (sz p).toNat 0 = fsT (fun t => decide (0 ≤ hoF h dn' t n.toNat 0)) (ls p) (sz p).toNat 0 := fsT_congr _ _ (fun j j0 j1 => ⟨rfl, by
    have := hL.2 p j p0 p1 j0 (by omega)
    show decide (0 ≤ hoF h dn (ls p j) n.toNat 0) = decide (0 ≤ hoF h dn' (ls p j) n.toNat 0)
    rw [hoF_congr this.1 hd]⟩)
  unfold ptF
  rw [e1]
  rcases fsT_cases (c := fun t => decide (0 ≤ hoF h dn' t n.toNat 0)) (ls := ls p) (sz p).toNat 0 with ⟨z, -⟩ | ⟨j, j0, j1, z, -, -⟩
  · rw [z, if_pos rfl, if_pos rfl]
  · rw [z]
    have := hL.2 p j p0 p1 j0 (by omega)
    rw [hoF_congr this.1 hd]
theorem cv_hd {h : Int → Int} {M : DE} : ∀ o, 0 ≤ h o → M.1 o = (cv h M).1 o := fun o c => by
  show _ = if h o < 0 then (1 : Int) else M.1 o
  rw [if_neg (by omega)]
/-- some are done who point to nobody: the class does as much, or had done so -/
theorem cv_some {n m : Int} {ls : Int → Int → Int} {sz h : Int → Int} {M : DE} (n0 : 0 ≤ n) (hL : LGo n m ls sz) (hh : HT n m h) (hM : ∀ x, M.1 x = 0 ∨ M.1 x = 1) : cv h (dnM n ls sz h M.1, enM n ls sz h M.1 M.2) = cv h M ∨ cv h (dnM n ls sz h M.1, enM n ls sz h M.1 M.2) = stF n ls sz h (cv h M) := by
  have e2 : (cv h (dnM n ls sz h M.1, enM n ls sz h M.1 M.2)).2 = (cv h M).2 := by
    funext p
    show (if dnM n ls sz h M.1 p = 0 then h p else enM n ls sz h M.1 M.2 p) = if M.1 p = 0 then h p else M.2 p
    unfold dnM enM
    by_cases c : M.1 p = 0 ∧ pmF n ls sz h M.1 p = -2
    · rw [if_pos c, if_pos c, if_neg (by omega), if_pos c.1]
    · rw [if_neg c, if_neg c]
  -- one who holds something
  have key : ∀ p, 0 ≤ h p → M.1 p = 0 → (pmF n ls sz h M.1 p = -2 ↔ ptF n ls sz h (cv h M).1 p < 0) := fun p c z => by
    have hr := (hh p).2.2 c
    have hv := ptF_r (ls := ls) (sz := sz) (h := h) (dn := (cv h M).1) hr.1 hr.2
    unfold pmF nt
    rw [if_pos z, if_neg (by omega), ptF_congr hL hr.1 hr.2 cv_hd]
    split <;> omega
  by_cases c : alB n ls sz h (cv h M).1 n.toNat 0 = true
  · left
    have ha := (alB_all n0).mp c
    refine Prod.ext ?_ e2
    funext p
    show (if h p < 0 then 1 else dnM n ls sz h M.1 p) = if h p < 0 then 1 else M.1 p
    by_cases y : h p < 0
    · rw [if_pos y, if_pos y]
    · rw [if_neg y, if_neg y]
      unfold dnM
      by_cases z : M.1 p = 0
      · have hr := (hh p).2.2 (by omega)
        have hx := ha p hr.1 hr.2 (by rw [← cv_hd p (by omega)]; exact z)
        have hk := key p (by omega) z
        rw [if_neg (fun w => by have := hk.mp w.2; omega)]
      · rw [if_neg (fun w => z w.1)]
  · right
    have e : stF n ls sz h (cv h M) = (dnP n ls sz h (cv h M).1, (cv h M).2) := by unfold stF; rw [if_neg c]
    rw [e]
    refine Prod.ext ?_ e2
    funext p
    show (if h p < 0 then 1 else dnM n ls sz h M.1 p) = dnP n ls sz h (cv h M).1 p
    by_cases y : h p < 0
    · have e3 : (cv h M).1 p = 1 := by
        show (if h p < 0 then (1 : Int) else M.1 p) = 1
        rw [if_pos y]
      unfold dnP
      rw [if_pos y, if_neg (by omega)]
    · rw [if_neg y]
      unfold dnM dnP
      rw [← cv_hd p (by omega)]
      by_cases z : M.1 p = 0
      · have hk := key p (by omega) z
        rw [if_pos z]
        by_cases x : ptF n ls sz h (cv h M).1 p < 0
        · rw [if_pos x, if_pos ⟨z, hk.mpr x⟩]
        · rw [if_neg x, if_neg (fun w => x (hk.mp w.2)), z]
      · rw [if_neg z, if_neg (fun w => z w.1)]
        rcases hM p with w | w
        · exact absurd w z
        · exact w
theorem dnM_01 {n : Int} {ls : Int → Int → Int} {sz h : Int → Int} {dn : Int → Int} (hM : ∀ x, dn x = 0 ∨ dn x = 1) : (∀ x, dnM n ls sz h dn x = 0 ∨ dnM n ls sz h dn x = 1) ∧ ∀ x, dnM n ls sz h dn x = 0 → dn x = 0 := by
  constructor
  · intro x
    unfold dnM
    split
    · exact Or.inr rfl
    · exact hM x
  · intro x z
    unfold dnM at z
    by_cases c : dn x = 0 ∧ pmF n ls sz h dn x = -2
    · exact c.1
    · rw [if_neg c] at z; exact z
theorem not_allM {n : Int} {ls : Int → Int → Int} {sz h dn : Int → Int} (ha : ¬ allM n ls sz h dn) : ∃ o, 0 ≤ o ∧ o < n ∧ dn o = 0 ∧ ¬ dnM n ls sz h dn o = 0 := by
  apply Classical.byContradiction
  intro hno
  refine ha (fun p p0 p1 c w => hno ⟨p, p0, p1, c, ?_⟩)
  unfold dnM
  rw [if_pos ⟨c, w⟩]
  decide
/-- all that are left point -/
theorem allM_P {n m : Int} {ls : Int → Int → Int} {sz h : Int → Int} {M : DE} (hL : LGo n m ls sz) (ha : allM n ls sz h M.1) : (∀ p, 0 ≤ p → p < n → M.1 p = 0 → 0 ≤ h p ∧ pmF n ls sz h M.1 p = ptF n ls sz h (cv h M).1 p) ∧ allP n ls sz h (cv h M).1 := by
  have h1 : ∀ p, 0 ≤ p → p < n → M.1 p = 0 → 0 ≤ h p ∧ (0 ≤ ptF n ls sz h (cv h M).1 p ∧ pmF n ls sz h M.1 p = ptF n ls sz h (cv h M).1 p) := fun p p0 p1 c => by
    have w := ha p p0 p1 c
    have hv := ptF_r (ls := ls) (sz := sz) (h := h) (dn := (cv h M).1) p0 p1
    have ep : ptF n ls sz h M.1 p = ptF n ls sz h (cv h M).1 p := ptF_congr hL p0 p1 cv_hd
    unfold pmF nt at w ⊢
    rw [if_pos c] at w ⊢
    by_cases y : h p < 0
    · rw [if_pos y] at w; exact absurd rfl w
    · rw [if_neg y, ep] at w ⊢
      by_cases x : ptF n ls sz h (cv h M).1 p = -1
      · rw [if_pos x] at w; exact absurd rfl w
      · rw [if_neg x]; exact ⟨by omega, by omega, rfl⟩
  refine ⟨fun p p0 p1 c => ⟨(h1 p p0 p1 c).1, (h1 p p0 p1 c).2.2⟩, fun p p0 p1 c => ?_⟩
  have c : (if h p < 0 then (1 : Int) else M.1 p) = 0 := c
  by_cases y : h p < 0
  · rw [if_pos y] at c; omega
  · rw [if_neg y] at c; exact (h1 p p0 p1 c).2.1
theorem cv_md {f h : Int → Int} {p : Int} {Q : Int → Prop} (hq : ∀ x, Q x → 0 ≤ h x ∧ Q (f x)) : ∀ (q : Nat) (o : Int) (M : DE), Q o → cv h (mdW f h p q o M) = mdW f h p q o (cv h M)
  | 0, _, _, _ => rfl
  | q + 1, o, M, ho => by
    have e2 : ∀ M, mdW f h p (q + 1) o M = if f o = p then upW f h M o else mdW f h p q (f o) (upW f h M o) := fun _ => rfl
    have hu : cv h (upW f h M o) = upW f h (cv h M) o := by
      refine Prod.ext ?_ ?_
      · funext x
        show (if h x < 0 then 1 else up M.1 o 1 x) = up (fun p => if h p < 0 then 1 else M.1 p) o 1 x
        by_cases y : x = o
        · rw [y, up_s, up_s]; split <;> rfl
        · rw [up_n y, up_n y]
      · funext x
        show (if up M.1 o 1 x = 0 then h x else up M.2 o (h (f o)) x) = up (fun p => if M.1 p = 0 then h p else M.2 p) o (h (f o)) x
        by_cases y : x = o
        · rw [y, up_s, up_s, up_s, if_neg (by decide)]
        · rw [up_n y, up_n y, up_n y]
    rw [e2, e2, ← hu]
    by_cases c : f o = p
    · rw [if_pos c, if_pos c]
    · rw [if_neg c, if_neg c]; exact cv_md hq q (f o) _ (hq o ho).2
/-- where all point there is a ring -/
theorem ring_ex {n x : Int} {f dn : Int → Int} (hq : ∀ x, (0 ≤ x ∧ x < n ∧ dn x = 0) → (0 ≤ f x ∧ f x < n ∧ dn (f x) = 0)) (hx : 0 ≤ x ∧ x < n ∧ dn x = 0) : ¬ frR f dn n.toNat n.toNat 0 = -1 := by
  have hin : ∀ k, 0 ≤ itF f k x ∧ itF f k x < n ∧ dn (itF f k x) = 0 := fun k => itF_in (Q := fun x => 0 ≤ x ∧ x < n ∧ dn x = 0) hq k x hx
  obtain ⟨i, j, ij, jn, e⟩ := php n.toNat (fun k => (itF f k x).toNat) (fun k _ => by
    have := hin k
    show (itF f k x).toNat < n.toNat
    omega)
  have e : (itF f i x).toNat = (itF f j x).toNat := e
  have hi := hin i
  have hj := hin j
  refine frR_ex (x := itF f i x) n.toNat 0 (Int.le_refl 0) hi.1 (by omega) hi.2.2 (rgM_I n.toNat (j - i) _ (by omega) (by omega) ?_)
  rw [← itF_add, show j - i + i = j by omega]
  omega
/-- as far as the class comes in its seven steps -/
def rch (n : Int) (ls : Int → Int → Int) (sz h : Int → Int) (S : DE) : Prop := ∃ j : Nat, S = stN n ls sz h j (S0t h) ∧ (j : Int) + cz n S.1 ≤ 7
theorem rch_0 {n : Int} {ls : Int → Int → Int} {sz h : Int → Int} (n0 : 0 ≤ n) (n7 : n ≤ 7) : rch n ls sz h (S0t h) := ⟨0, rfl, by have := cz_r (n := n) (dn := (S0t h).1) n0; omega⟩
theorem rch_TSI {n m : Int} {ls : Int → Int → Int} {sz h : Int → Int} {S : DE} (n0 : 0 ≤ n) (hh : HT n m h) (hr : rch n ls sz h S) : TSI n m h S := by
  obtain ⟨j, e, -⟩ := hr
  rw [e]; exact stN_TSI n0 hh j _ (S0t_TSI hh)
theorem rch_s {n m : Int} {ls : Int → Int → Int} {sz h : Int → Int} {S : DE} (n0 : 0 ≤ n) (hh : HT n m h) (hr : rch n ls sz h S) : rch n ls sz h (stF n ls sz h S) := by
  rcases stF_cz (ls := ls) (sz := sz) n0 (rch_TSI n0 hh hr) with e | e
  · rw [e]; exact hr
  · obtain ⟨j, e1, e2⟩ := hr
    exact ⟨j + 1, by rw [stN_s, ← e1], by omega⟩
theorem rch_end {n : Int} {ls : Int → Int → Int} {sz h : Int → Int} {S : DE} (n0 : 0 ≤ n) (hr : rch n ls sz h S) (hf : stF n ls sz h S = S) : S = stN n ls sz h 7 (S0t h) := by
  obtain ⟨j, e1, e2⟩ := hr
  have := cz_r (n := n) (dn := S.1) n0
  have e3 : stN n ls sz h (j + (7 - j)) (S0t h) = stN n ls sz h (7 - j) (stN n ls sz h j (S0t h)) := stN_add j (7 - j)
  rw [show j + (7 - j) = 7 by omega, ← e1, stN_fix hf] at e3
  exact e3.symm
