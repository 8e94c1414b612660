-- ===== rings among those who point
theorem php : ∀ (N : Nat) (a : Nat → Nat), (∀ k, k ≤ N → a k < N) → ∃ i j, i < j ∧ j ≤ N ∧ a i = a j
  | 0, a, h => absurd (h 0 (Nat.le_refl 0)) (Nat.not_lt_zero _)
  | N + 1, a, h => by
    by_cases c : ∃ i, i ≤ N ∧ a i = a (N + 1)
    · obtain ⟨i, i1, e⟩ := c
      exact ⟨i, N + 1, by omega, Nat.le_refl _, e⟩
    · have ne : ∀ i, i ≤ N → ¬ a i = a (N + 1) := fun i hi e => c ⟨i, hi, e⟩
      have hl := h (N + 1) (Nat.le_refl _)
      obtain ⟨i, j, ij, jN, e⟩ := php N (fun k => if a k = N then a (N + 1) else a k) (fun k hk => by
        show (if a k = N then a (N + 1) else a k) < N
        have h1 := h k (by omega)
        have h2 := ne k hk
        split <;> omega)
      have e : (if a i = N then a (N + 1) else a i) = if a j = N then a (N + 1) else a j := e
      have hi := ne i (by omega)
      have hj := ne j jN
      refine ⟨i, j, ij, by omega, ?_⟩
      by_cases x : a i = N
      · rw [if_pos x] at e
        by_cases y : a j = N
        · rw [x, y]
        · rw [if_neg y] at e; omega
      · rw [if_neg x] at e
        by_cases y : a j = N
        · rw [if_pos y] at e; exact absurd e hi
        · rw [if_neg y] at e; exact e
def itF (f : Int → Int) : Nat → Int → Int
  | 0, x => x
  | k + 1, x => itF f k (f x)
theorem itF_add {f : Int → Int} (a : Nat) : ∀ (b : Nat) (x : Int), itF f (a + b) x = itF f a (itF f b x)
  | 0, _ => rfl
  | b + 1, x => itF_add a b (f x)
theorem itF_in {f : Int → Int} {Q : Int → Prop} (h : ∀ x, Q x → Q (f x)) : ∀ (k : Nat) (x : Int), Q x → Q (itF f k x)
  | 0, _, q => q
  | k + 1, x, q => itF_in h k (f x) (h x q)
/-- the walk comes back to p within q steps -/
def rgM (f : Int → Int) (p : Int) : Nat → Int → Bool
  | 0, _ => false
  | q + 1, o => if f o = p then true else rgM f p q (f o)
theorem rgM_T {f : Int → Int} {p : Int} : ∀ (q : Nat) (o : Int), rgM f p q o = true → ∃ k, 1 ≤ k ∧ k ≤ q ∧ itF f k o = p
  | 0, _, h => by cases h
  | q + 1, o, h => by
    have e : rgM f p (q + 1) o = if f o = p then true else rgM f p q (f o) := rfl
    rw [e] at h
    by_cases c : f o = p
    · exact ⟨1, Nat.le_refl 1, by omega, c⟩
    · rw [if_neg c] at h
      obtain ⟨k, k1, k2, k3⟩ := rgM_T q (f o) h
      exact ⟨k + 1, by omega, by omega, k3⟩
theorem rgM_I {f : Int → Int} {p : Int} : ∀ (q k : Nat) (o : Int), 1 ≤ k → k ≤ q → itF f k o = p → rgM f p q o = true
  | 0, k, _, a, b, _ => by omega
  | q + 1, 0, _, a, _, _ => by omega
  | q + 1, 1, o, _, _, h => by
    have e : rgM f p (q + 1) o = if f o = p then true else rgM f p q (f o) := rfl
    have h : f o = p := h
    rw [e, if_pos h]
  | q + 1, k + 2, o, _, b, h => by
    have e : rgM f p (q + 1) o = if f o = p then true else rgM f p q (f o) := rfl
    rw [e]
    split
    · rfl
    · exact rgM_I q (k + 1) (f o) (by omega) (by omega) h
theorem rgM_n {f : Int → Int} {p : Int} {n : Nat} {Q : Int → Prop} (hq : ∀ x, Q x → (0 ≤ x ∧ x < n) ∧ Q (f x)) (hp : Q p) : rgM f p (n + 1) p = rgM f p n p := by
  by_cases c : rgM f p n p = true
  · obtain ⟨k, k1, k2, k3⟩ := rgM_T n p c
    rw [c, rgM_I (n + 1) k p k1 (by omega) k3]
  · by_cases c2 : rgM f p (n + 1) p = true
    · exfalso
      obtain ⟨k, k1, k2, k3⟩ := rgM_T (n + 1) p c2
      by_cases y : k ≤ n
      · exact c (rgM_I n k p k1 y k3)
      · have ek : k = n + 1 := by omega
        rw [ek] at k3
        have hin : ∀ k, 0 ≤ itF f k p ∧ itF f k p < n := fun k => (hq _ (itF_in (fun x z => (hq x z).2) k p hp)).1
        obtain ⟨i, j, ij, jn, e⟩ := php n (fun k => (itF f k p).toNat) (fun k _ => by
          have := hin k
          show (itF f k p).toNat < n
          omega)
        have e : (itF f i p).toNat = (itF f j p).toNat := e
        have hi := hin i
        have hj := hin j
        have e2 : itF f i p = itF f j p := by omega
        refine c (rgM_I n (n + 1 - j + i) p (by omega) (by omega) ?_)
        rw [itF_add, e2, ← itF_add, show n + 1 - j + j = n + 1 by omega]
        exact k3
    · rw [Bool.eq_false_iff.mpr c, Bool.eq_false_iff.mpr c2]
theorem X_isInRing_ok {d : Nat} {K : Int → Mem → Prop} {s : Mem} {g n p : Int} {f : Int → Int} {Q : Int → Prop} (g0 : 0 ≤ g) (g5 : g ≤ 5) (en : s (4 + 43 * g) 1 = n) (n7 : 0 ≤ n ∧ n ≤ 7) (hQ : ∀ x, Q x → (0 ≤ x ∧ x < n ∧ s 314 x = f x) ∧ Q (f x)) (hp : Q p) (k : K (if rgM f p (n.toNat + 1) p = true then 1 else 0) s) : AM2 i_Trade_isInRing (d + 1) [(2, 311), (2, 4 + 43 * g), (0, p)] s K := by
  have ckg := fun {P : Prop} => ck_g (P := P) g0 g5
  have lp : ∀ (q : Nat) (o i : Int), Q o → 0 ≤ i → i + q = n → K (if rgM f p (q + 1) o = true then 1 else 0) s → AW2 i_Trade_isInRing (d + 1) 7 [] [(0, (2, 311)), (1, (2, 4 + 43 * g)), (2, (0, p)), (3, (0, f o)), (4, (0, i))] s K := by
    intro q
    induction q with
    | zero =>
      intro o i ho i0 e kk
      have e1 : rgM f p (0 + 1) o = if f o = p then true else false := rfl
      rw [e1] at kk
      refine s_Trade_isInRing_7 ?_
      rw [ckg, en]
      refine brF_i (by omega) ⟨fun c => ?_, fun c => ?_⟩
      · rw [if_pos c, if_pos rfl] at kk; exact kk
      · rw [if_neg c, if_neg (by decide)] at kk; exact kk
    | succ q ih =>
      intro o i ho i0 e kk
      have e1 : rgM f p (q + 1 + 1) o = if f o = p then true else rgM f p (q + 1) (f o) := rfl
      rw [e1] at kk
      have hv := hQ o ho
      have hw := hQ _ hv.2
      refine s_Trade_isInRing_7 ?_
      rw [ckg, en, hw.1.2.2, w32_id (x := i + 1) (by omega) (by omega)]
      refine brT_i (by omega) ⟨fun c => brT_i c ?_, fun c => inb_i hw.1.1 (by omega) ?_⟩
      · rw [if_pos c, if_pos rfl] at kk; exact kk
      · rw [if_neg c] at kk; exact ih (f o) (i + 1) hv.2 (by omega) (by omega) kk
  have hv := hQ p hp
  refine e_Trade_isInRing fun _ => inb_i hv.1.1 (by omega) ?_
  rw [hv.1.2.2]
  exact lp n.toNat p 0 hp (Int.le_refl 0) (by omega) k
