-- ===== trades: where each points
/-- the first that is not done and holds a thing; -1: nobody -/
def hoF (h dn : Int → Int) (t : Int) : Nat → Int → Int
  | 0, _ => -1
  | q + 1, o => if dn o = 0 ∧ h o = t then o else hoF h dn t q (o + 1)
theorem hoF_r {h dn : Int → Int} {t : Int} : ∀ (q : Nat) (o : Int), hoF h dn t q o = -1 ∨ (o ≤ hoF h dn t q o ∧ hoF h dn t q o < o + q ∧ dn (hoF h dn t q o) = 0 ∧ h (hoF h dn t q o) = t)
  | 0, _ => Or.inl rfl
  | q + 1, o => by
    have e : hoF h dn t (q + 1) o = if dn o = 0 ∧ h o = t then o else hoF h dn t q (o + 1) := rfl
    rw [e]
    split
    · rename_i c
      exact Or.inr ⟨Int.le_refl o, by omega, c⟩
    · rcases hoF_r (h := h) (dn := dn) (t := t) q (o + 1) with z | z
      · exact Or.inl z
      · exact Or.inr ⟨by omega, by omega, z.2.2⟩
theorem hoF_ex {h dn : Int → Int} {t p : Int} : ∀ (q : Nat) (o : Int), o ≤ p → p < o + q → dn p = 0 → h p = t → 0 ≤ o → 0 ≤ hoF h dn t q o
  | 0, _, a, b, _, _, _ => by omega
  | q + 1, o, a, b, c, e, o0 => by
    have ee : hoF h dn t (q + 1) o = if dn o = 0 ∧ h o = t then o else hoF h dn t q (o + 1) := rfl
    rw [ee]
    split
    · exact o0
    · rename_i z
      by_cases y : o = p
      · rw [y] at z; exact absurd ⟨c, e⟩ z
      · exact hoF_ex q (o + 1) (by omega) (by omega) c e (by omega)
/-- to whom one points -/
def ptF (n : Int) (ls : Int → Int → Int) (sz h dn : Int → Int) (p : Int) : Int :=
  if fsT (fun t => decide (0 ≤ hoF h dn t n.toNat 0)) (ls p) (sz p).toNat 0 = -1 then -1
  else if h p = fsT (fun t => decide (0 ≤ hoF h dn t n.toNat 0)) (ls p) (sz p).toNat 0 then p
  else hoF h dn (fsT (fun t => decide (0 ≤ hoF h dn t n.toNat 0)) (ls p) (sz p).toNat 0) n.toNat 0
theorem X_holderOf_ok {d : Nat} {K : Int → Mem → Prop} {s : Mem} {g t p n : Int} {h dn : Int → Int} (g0 : 0 ≤ g) (g5 : g ≤ 5) (en : s (4 + 43 * g) 1 = n) (n7 : 0 ≤ n ∧ n ≤ 7) (p0 : 0 ≤ p) (p1 : p < n) (hh : ∀ o, 0 ≤ o → o < n → s 312 o = h o) (hd : ∀ o, 0 ≤ o → o < n → s 315 o = dn o) (k : K (if h p = t then p else hoF h dn t n.toNat 0) s) : AM2 i_Trade_holderOf (d + 1) [(2, 311), (2, 4 + 43 * g), (0, t), (0, p)] s K := by
  have ckg := fun {P : Prop} => ck_g (P := P) g0 g5
  have lp : ∀ (q : Nat) (o : Int), 0 ≤ o → o + q = n → K (hoF h dn t q o) s → AW2 i_Trade_holderOf (d + 1) 10 [] [(0, (2, 311)), (1, (2, 4 + 43 * g)), (2, (0, t)), (4, (0, o))] s K := by
    intro q
    induction q with
    | zero =>
      intro o o0 e kk
      refine s_Trade_holderOf_10 ?_
      rw [ckg, en]
      exact brF_i (by omega) kk
    | succ q ih =>
      intro o o0 e kk
      have ee : hoF h dn t (q + 1) o = if dn o = 0 ∧ h o = t then o else hoF h dn t q (o + 1) := rfl
      rw [ee] at kk
      refine s_Trade_holderOf_10 ?_
      rw [ckg, en, hd o o0 (by omega), hh o o0 (by omega), w32_id (x := o + 1) (by omega) (by omega)]
      refine brT_i (by omega) (inb_i o0 (by omega) ⟨fun c => inb_i o0 (by omega) ⟨fun c2 => ?_, fun c2 => ?_⟩, fun c => ?_⟩)
      · rw [if_pos ⟨c, c2⟩] at kk; exact kk
      · rw [if_neg (fun w => c2 w.2)] at kk; exact ih (o + 1) (by omega) (by omega) kk
      · rw [if_neg (fun w => c w.1)] at kk; exact ih (o + 1) (by omega) (by omega) kk
  refine e_Trade_holderOf fun _ _ => inb_i p0 (by omega) ?_
  rw [hh p p0 p1]
  refine ⟨fun c => ?_, fun c => lp n.toNat 0 (Int.le_refl 0) (by omega) ?_⟩
  · rw [if_pos c] at k; exact k
  · rw [if_neg c] at k; exact k
theorem M_pointOf_ok {d : Nat} {K : Int → Mem → Prop} {s : Mem} {g p n m : Int} {ls : Int → Int → Int} {sz h dn : Int → Int} (g0 : 0 ≤ g) (g5 : g ≤ 5) (hL : LGo n m ls sz) (hM : LM s g n m ls sz) (m8 : m ≤ 8) (en : s 357 g = n) (n7 : 0 ≤ n ∧ n ≤ 7) (p0 : 0 ≤ p) (p1 : p < n) (hp : 0 ≤ h p → dn p = 0) (hh : ∀ o, 0 ≤ o → o < n → s 394 o = h o) (hd : ∀ o, 0 ≤ o → o < n → s 396 o = dn o) (k : K (if h p < 0 then -2 else nt (ptF n ls sz h dn p)) s) : AM2 i_M_pointOf (d + 1) [(2, 356), (0, g), (0, p)] s K := by
  have hs := hL.1 p p0 p1
  have es := hM.1 p p0 p1
  have lp : ∀ (q : Nat) (i : Int), 0 ≤ i → i + q = sz p → K (if h p < 0 then -2 else nt (if fsT (fun t => decide (0 ≤ hoF h dn t n.toNat 0)) (ls p) q i = -1 then -1 else if h p = fsT (fun t => decide (0 ≤ hoF h dn t n.toNat 0)) (ls p) q i then p else hoF h dn (fsT (fun t => decide (0 ≤ hoF h dn t n.toNat 0)) (ls p) q i) n.toNat 0)) s → AW2 i_M_pointOf (d + 1) 2 [] [(0, (2, 356)), (1, (0, g)), (2, (0, p)), (3, (0, i))] s K := by
    intro q
    induction q with
    | zero =>
      intro i i0 e kk
      refine s_M_pointOf_2 ?_
      rw [w32_id (x := 7 * g) (by omega) (by omega), w32_id (x := 7 * g + p) (by omega) (by omega), es]
      refine inb_i (by omega) (by omega) (brF_i (by omega) ?_)
      have e2 : (if h p < 0 then (-2 : Int) else nt (if fsT (fun t => decide (0 ≤ hoF h dn t n.toNat 0)) (ls p) 0 i = -1 then -1 else if h p = fsT (fun t => decide (0 ≤ hoF h dn t n.toNat 0)) (ls p) 0 i then p else hoF h dn (fsT (fun t => decide (0 ≤ hoF h dn t n.toNat 0)) (ls p) 0 i) n.toNat 0)) = -2 := by
        split
        · rfl
        · rfl
      rw [e2] at kk; exact kk
    | succ q ih =>
      intro i i0 e kk
      have hl := hL.2 p i p0 p1 i0 (by omega)
      have el := hM.2 p i p0 p1 i0 (by omega)
      refine s_M_pointOf_2 ?_
      rw [w32_id (x := 7 * g) (by omega) (by omega), w32_id (x := 7 * g + p) (by omega) (by omega), es, w32_id (x := 56 * g) (by omega) (by omega), w32_id (x := 8 * p) (by omega) (by omega), w32_id (x := 56 * g + 8 * p) (by omega) (by omega), w32_id (x := 56 * g + 8 * p + i) (by omega) (by omega), el, hh p p0 p1]
      refine inb_i (by omega) (by omega) (brT_i (by omega) (inb_i p0 (by omega) ⟨fun c => ?_, fun c => inb_i (by omega) (by omega) (inb_i p0 (by omega) ⟨fun c2 => ?_, fun c2 => ?_⟩)⟩))
      · rw [if_pos c] at kk; exact kk
      · rw [if_neg c] at kk
        have hx := hoF_ex (h := h) (dn := dn) (t := ls p i) (p := p) n.toNat 0 p0 (by omega) (hp (by omega)) c2 (Int.le_refl 0)
        rw [fsT_T (by exact decide_eq_true hx)] at kk
        rw [if_neg (by omega), if_pos c2] at kk
        unfold nt at kk
        rw [if_neg (by omega)] at kk
        exact kk
      · have lp2 : ∀ (u : Nat) (o : Int), 0 ≤ o → o + u = n → hoF h dn (ls p i) u o = hoF h dn (ls p i) n.toNat 0 → AW2 i_M_pointOf (d + 1) 40 [] [(0, (2, 356)), (1, (0, g)), (2, (0, p)), (3, (0, i)), (4, (0, ls p i)), (5, (0, o))] s K := by
          intro u
          induction u with
          | zero =>
            intro o o0 e2 eo
            have eo : -1 = hoF h dn (ls p i) n.toNat 0 := eo
            refine s_M_pointOf_40 (inb_i g0 (by omega) ?_)
            rw [en, w32_id (x := i + 1) (by omega) (by omega)]
            refine brF_i (by omega) (ih (i + 1) (by omega) (by omega) ?_)
            rw [fsT_F (by exact decide_eq_false (by omega))] at kk
            exact kk
          | succ u ihu =>
            intro o o0 e2 eo
            have ee : hoF h dn (ls p i) (u + 1) o = if dn o = 0 ∧ h o = ls p i then o else hoF h dn (ls p i) u (o + 1) := rfl
            rw [ee] at eo
            refine s_M_pointOf_40 (inb_i g0 (by omega) ?_)
            rw [en, hd o o0 (by omega), hh o o0 (by omega), w32_id (x := o + 1) (by omega) (by omega)]
            refine brT_i (by omega) (inb_i o0 (by omega) ⟨fun c3 => inb_i o0 (by omega) ⟨fun c4 => ?_, fun c4 => ?_⟩, fun c3 => ?_⟩)
            · rw [if_pos ⟨c3, c4⟩] at eo
              rw [if_neg c, fsT_T (by exact decide_eq_true (by omega)), if_neg (by omega), if_neg c2, ← eo] at kk
              unfold nt at kk
              rw [if_neg (by omega)] at kk
              exact kk
            · rw [if_neg (fun w => c4 w.2)] at eo; exact ihu (o + 1) (by omega) (by omega) eo
            · rw [if_neg (fun w => c3 w.1)] at eo; exact ihu (o + 1) (by omega) (by omega) eo
        exact lp2 n.toNat 0 (Int.le_refl 0) (by omega) rfl
  exact e_M_pointOf fun _ _ => lp (sz p).toNat 0 (Int.le_refl 0) (by omega) k
