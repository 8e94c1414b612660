-- ===== acts
def ix : List Int → Int → Int
  | [], _ => 0
  | b :: l, i => if i = 0 then b else ix l (i - 1)
theorem ix_old {b : Int} : ∀ (l : List Int) (i : Int), 0 ≤ i → i < l.length → ix (l ++ [b]) i = ix l i
  | [], i, i0, i1 => by simp at i1; omega
  | c :: l, i, i0, i1 => by
    show (if i = 0 then c else ix (l ++ [b]) (i - 1)) = if i = 0 then c else ix l (i - 1)
    rw [List.length_cons] at i1
    by_cases z : i = 0
    · rw [if_pos z, if_pos z]
    · rw [if_neg z, if_neg z]; exact ix_old l (i - 1) (by omega) (by omega)
theorem ix_new {b : Int} : ∀ (l : List Int), ix (l ++ [b]) l.length = b
  | [] => rfl
  | c :: l => by
    show (if (((c :: l).length : Nat) : Int) = 0 then c else ix (l ++ [b]) ((((c :: l).length : Nat) : Int) - 1)) = b
    rw [List.length_cons, if_neg (by omega), show ((l.length + 1 : Nat) : Int) - 1 = l.length by omega]
    exact ix_new l
/-- the bodies begun, as a side notes them -/
def NL (cb cj rb : Int) (σ s : Mem) (bs : List Int) : Prop := s cb cj = bs.length ∧ (∀ i : Int, 0 ≤ i → i < bs.length → i < 24 → s rb i = ix bs i) ∧ ∀ b j, ¬ b = rb → ¬ (b = cb ∧ j = cj) → s b j = σ b j
theorem NL_1 {cb cj rb b : Int} {σ s : Mem} {bs : List Int} (hd : ¬ cb = rb) (h : NL cb cj rb σ s bs) : NL cb cj rb σ (st (st s rb bs.length b) cb cj (bs.length + 1)) (bs ++ [b]) := by
  obtain ⟨h1, h2, h3⟩ := h
  refine ⟨by rw [st_self, List.length_append]; rfl, fun i i0 i1 i2 => ?_, fun x j z1 z2 => by rw [st_ne z2, st_ne (by omega)]; exact h3 x j z1 z2⟩
  rw [List.length_append] at i1
  have i1 : i < (bs.length : Int) + 1 := i1
  rw [st_ne (by omega)]
  by_cases z : i = bs.length
  · rw [z, st_self, ix_new]
  · rw [st_ne (by omega), ix_old bs i i0 (by omega)]; exact h2 i i0 (by omega) i2
theorem NL_2 {cb cj rb b : Int} {σ s : Mem} {bs : List Int} (hd : ¬ cb = rb) (hc : ¬ (bs.length : Int) < 24) (h : NL cb cj rb σ s bs) : NL cb cj rb σ (st s cb cj (bs.length + 1)) (bs ++ [b]) := by
  obtain ⟨h1, h2, h3⟩ := h
  refine ⟨by rw [st_self, List.length_append]; rfl, fun i i0 i1 i2 => ?_, fun x j z1 z2 => by rw [st_ne z2]; exact h3 x j z1 z2⟩
  rw [st_ne (by omega), ix_old bs i i0 (by omega)]; exact h2 i i0 (by omega) i2
theorem NL_eq {cb cj rb : Int} {σ s : Mem} {l l' : List Int} (h : NL cb cj rb σ s l) (e : l = l') : NL cb cj rb σ s l' := e ▸ h
theorem X_note_ok {d : Nat} {K : Int → Mem → Prop} {σ s : Mem} {b : Int} {bs : List Int} (hN : NL 341 1 342 σ s bs) (hl : (bs.length : Int) ≤ 900) (k : ∀ s2 : Mem, NL 341 1 342 σ s2 (bs ++ [b]) → K 0 s2) : AM2 i_Acts_note (d + 1) [(2, 341), (0, b)] s K := by
  refine e_Acts_note fun _ => ?_
  rw [hN.1]
  refine ⟨fun c => inb_i (by omega) c ?_, fun c => ?_⟩
  · rw [st_ne (by omega), hN.1, w32_id (by omega) (by omega)]; exact k _ (NL_1 (by decide) hN)
  · rw [w32_id (by omega) (by omega)]; exact k _ (NL_2 (by decide) c hN)
theorem M_begins_ok {d : Nat} {K : Int → Mem → Prop} {σ s : Mem} {b : Int} {bs : List Int} (hN : NL 356 26 374 σ s bs) (hl : (bs.length : Int) ≤ 900) (k : ∀ s2 : Mem, NL 356 26 374 σ s2 (bs ++ [b]) → K 0 s2) : AM2 i_M_begins (d + 1) [(2, 356), (0, b)] s K := by
  refine e_M_begins fun _ => ?_
  rw [hN.1]
  refine ⟨fun c => inb_i (by omega) c ?_, fun c => ?_⟩
  · rw [st_ne (by omega), hN.1, w32_id (by omega) (by omega)]; exact k _ (NL_1 (by decide) hN)
  · rw [w32_id (by omega) (by omega)]; exact k _ (NL_2 (by decide) c hN)
-- what is done, and the bodies that begin
def tkB (s : Int) : List Int := if s = 1 ∨ s = 2 then [20, 1] else [1]
def tkV (w s x : Int) : Int := if s = 1 ∨ s = 2 then w32 (w32 (x + w) - 1) else w32 (x + w)
def lkB (s : Int) : List Int := if s = 3 then [40, 11] else if s = 6 then [70, 11] else [11]
def lkV (w s x : Int) : Int := if s = 3 then w32 (xorI x w * 3) else if s = 6 then xorI (w32 (x + 1)) w else xorI x w
def lbB (k : Int) : List Int := [10] ++ tkB k
def lbV (w k x : Int) : Int := w32 (tkV w k x * 2)
def lvB (k s : Int) : List Int := if s = 2 then [30] ++ lbB k ++ tkB k else if s = 5 then [60] ++ lbB k else if s = 6 then [71] ++ ([60] ++ lbB k) ++ [11] else lbB k
def lvV (w k s x : Int) : Int := if s = 2 then w32 (lbV w k x + tkV w k 2) else if s = 5 then w32 (- lbV w k x) else if s = 6 then w32 (w32 (- lbV w k x) - xorI x w) else lbV w k x
def tbB (k : Int) : List Int := [2] ++ lvB k k ++ lkB k
def tbV (w k x : Int) : Int := w32 (lvV w k k x - lkV w k 1)
def tlB (k s : Int) : List Int := if s = 4 then [50] ++ tbB k else tbB k
def tlV (w k s x : Int) : Int := if s = 4 then xorI (tbV w k x) 5 else tbV w k x
theorem tkB_len (s : Int) : ((tkB s).length : Int) ≤ 2 := by unfold tkB; split <;> decide
theorem lkB_len (s : Int) : ((lkB s).length : Int) ≤ 2 := by unfold lkB; split; decide; split <;> decide
theorem lbB_len (k : Int) : ((lbB k).length : Int) ≤ 3 := by
  have := tkB_len k
  unfold lbB
  rw [List.length_append]; simp only [List.length_cons, List.length_nil]; omega
theorem lvB_len (k s : Int) : ((lvB k s).length : Int) ≤ 6 := by
  have := tkB_len k
  have := lbB_len k
  unfold lvB
  split
  · simp only [List.length_append, List.length_cons, List.length_nil]; omega
  · split
    · simp only [List.length_append, List.length_cons, List.length_nil]; omega
    · split
      · simp only [List.length_append, List.length_cons, List.length_nil]; omega
      · omega
theorem tlB_len (k s : Int) : ((tlB k s).length : Int) ≤ 10 := by
  have := lvB_len k k
  have := lkB_len k
  unfold tlB tbB
  split <;> simp only [List.length_append, List.length_cons, List.length_nil] <;> omega
-- ===== the class's
def bod (i : Int) : Int := if i = 0 then 1 else if i = 1 then 10 else if i = 2 then 11 else if i = 3 then 2 else if i = 4 then 20 else if i = 9 then 30 else if i = 14 then 40 else if i = 19 then 50 else if i = 21 then 60 else if i = 25 then 71 else if i = 26 then 70 else 0
/-- the other fixed row outside -/
def I_bod (σ : Mem) : Prop := ∀ i, 0 ≤ i → i < 28 → σ (-3) i = bod i
def abo (s : Int) : Int := if s = 0 then -1 else if s = 2 then 1 else if s = 6 then 5 else 0
theorem abo_ok {σ : Mem} {s : Int} (h : I_stat σ) (s0 : 0 ≤ s) (s6 : s ≤ 6) : σ (-2) s = abo s := by
  obtain ⟨h0, h1, h2, h3, h4, h5, h6⟩ := h
  have : s = 0 ∨ s = 1 ∨ s = 2 ∨ s = 3 ∨ s = 4 ∨ s = 5 ∨ s = 6 := by omega
  rcases this with z | z | z | z | z | z | z <;> rw [z]
  · exact h0
  · exact h1
  · exact h2
  · exact h3
  · exact h4
  · exact h5
  · exact h6
def fdF (a : Int) : Nat → Int → Int
  | 0, s => s
  | f + 1, s => if 0 < s then (if bod (4 * s + a) = 0 then fdF a f (abo s) else s) else s
theorem X_body_at {d : Nat} {K : Int → Mem → Prop} {σ : Mem} {a x l4 : Int} (hS : I_stat σ) (hb : I_bod σ) (a0 : 0 ≤ a) (a3 : a ≤ 3) : ∀ (f : Nat) (s l6 : Int), 0 ≤ s → s ≤ 6 → 0 ≤ l6 → l6 + f = 7 → AW2 i_Acts_begin (d + 1) 23 [] [(0, (2, 341)), (2, (0, a)), (3, (0, x)), (4, (0, l4)), (5, (0, fdF a f s))] σ K → AW2 i_Acts_begin (d + 1) 4 [] [(0, (2, 341)), (2, (0, a)), (3, (0, x)), (4, (0, l4)), (5, (0, s)), (6, (0, l6))] σ K
  | 0, s, l6, s0, s6, _, e, k => s_Acts_begin_4 (brF_i (by omega) k)
  | f + 1, s, l6, s0, s6, _, e, k => by
    unfold fdF at k
    by_cases c : 0 < s
    · rw [if_pos c] at k
      refine s_Acts_begin_4 (brT_i (by omega) (brT_i c ?_))
      rw [w32_id (x := s * 4) (by omega) (by omega), w32_id (x := s * 4 + a) (by omega) (by omega), w32_id (x := l6 + 1) (by omega) (by omega), hb (s * 4 + a) (by omega) (by omega), show s * 4 + a = 4 * s + a by omega, abo_ok hS s0 s6]
      refine inb_i (by omega) (by omega) ?_
      by_cases c2 : bod (4 * s + a) = 0
      · rw [if_pos c2] at k
        refine brT_i c2 (inb_i s0 (by omega) (X_body_at hS hb a0 a3 f (abo s) (l6 + 1) ?_ ?_ (by omega) (by omega) k))
        · unfold abo; rw [if_neg (by omega)]; split; decide; split <;> decide
        · unfold abo; rw [if_neg (by omega)]; split; decide; split <;> decide
      · rw [if_neg c2] at k
        exact brF_i c2 k
    · rw [if_neg c] at k
      exact s_Acts_begin_4 (brT_i (by omega) (brF_i c k))
theorem s7 {s : Int} {P : Int → Prop} (s0 : 0 ≤ s) (s6 : s ≤ 6) (h0 : P 0) (h1 : P 1) (h2 : P 2) (h3 : P 3) (h4 : P 4) (h5 : P 5) (h6 : P 6) : P s := by
  have : s = 0 ∨ s = 1 ∨ s = 2 ∨ s = 3 ∨ s = 4 ∨ s = 5 ∨ s = 6 := by omega
  rcases this with z | z | z | z | z | z | z <;> rw [z] <;> assumption
theorem fd_t {s : Int} (s0 : 0 ≤ s) (s6 : s ≤ 6) : fdF 0 7 s = if s = 1 ∨ s = 2 then 1 else 0 := s7 (P := fun s => fdF 0 7 s = if s = 1 ∨ s = 2 then 1 else 0) s0 s6 (by decide) (by decide) (by decide) (by decide) (by decide) (by decide) (by decide)
theorem fd_v {s : Int} (s0 : 0 ≤ s) (s6 : s ≤ 6) : fdF 1 7 s = if s = 2 then 2 else if s = 5 then 5 else if s = 6 then 6 else 0 := s7 (P := fun s => fdF 1 7 s = if s = 2 then 2 else if s = 5 then 5 else if s = 6 then 6 else 0) s0 s6 (by decide) (by decide) (by decide) (by decide) (by decide) (by decide) (by decide)
theorem fd_k {s : Int} (s0 : 0 ≤ s) (s6 : s ≤ 6) : fdF 2 7 s = if s = 3 then 3 else if s = 6 then 6 else 0 := s7 (P := fun s => fdF 2 7 s = if s = 3 then 3 else if s = 6 then 6 else 0) s0 s6 (by decide) (by decide) (by decide) (by decide) (by decide) (by decide) (by decide)
theorem fd_l {s : Int} (s0 : 0 ≤ s) (s6 : s ≤ 6) : fdF 3 7 s = if s = 4 then 4 else 0 := s7 (P := fun s => fdF 3 7 s = if s = 4 then 4 else 0) s0 s6 (by decide) (by decide) (by decide) (by decide) (by decide) (by decide) (by decide)
/-- who acts: the kind and the number -/
def AX (σ : Mem) (k w : Int) : Prop := I_stat σ ∧ I_bod σ ∧ (σ 341 2 = k ∧ σ 341 3 = w) ∧ 0 ≤ k ∧ k ≤ 6
theorem AX_S {σ s : Mem} {k w : Int} {bs : List Int} (hA : AX σ k w) (hN : NL 341 1 342 σ s bs) : I_stat s ∧ I_bod s ∧ s 341 2 = k ∧ s 341 3 = w := by
  obtain ⟨-, -, f⟩ := hN
  have f2 : ∀ j, s (-2) j = σ (-2) j := fun j => f _ j (by omega) (by omega)
  refine ⟨?_, fun i i0 i1 => by rw [f _ i (by omega) (by omega)]; exact hA.2.1 i i0 i1, by rw [f _ _ (by decide) (by decide)]; exact hA.2.2.1.1, by rw [f _ _ (by decide) (by decide)]; exact hA.2.2.1.2⟩
  have := hA.1
  unfold I_stat at this ⊢
  rw [f2, f2, f2, f2, f2, f2, f2]; exact this
theorem X_tk0 {d : Nat} {K : Int → Mem → Prop} {σ s : Mem} {k w x l4 : Int} {bs : List Int} (hA : AX σ k w) (hN : NL 341 1 342 σ s bs) (hl : (bs.length : Int) ≤ 900) (h0 : 0 ≤ l4) (h4 : l4 ≤ 40) (q : ∀ s2 : Mem, NL 341 1 342 σ s2 (bs ++ [1]) → K (w32 (x + w)) s2) : AW2 i_Acts_begin (d + 2) 23 [] [(0, (2, 341)), (2, (0, 0)), (3, (0, x)), (4, (0, l4)), (5, (0, 0))] s K := by
  have hb : s (-3) 0 = 1 := ((hN.2.2 (-3) 0 (by decide) (by decide)).trans (hA.2.1 0 (by decide) (by decide))).trans (by decide)
  refine s_Acts_begin_23 (brF_i (by decide) (brF_i (by omega) ?_))
  rw [show w32 (w32 ((0 : Int) * 4) + 0) = 0 by decide, hb]
  refine inb_i (by decide) (by decide) (inb_i (by decide) (by decide) (chkK_i rfl (X_note_ok hN (by omega) (fun s1 N1 => ?_))))
  refine brT_i rfl ?_
  rw [(AX_S hA N1).2.2.2]
  exact chkK_i rfl (q s1 N1)
theorem X_tk {t : Int} (t0 : 0 ≤ t) (t6 : t ≤ 6) {d : Nat} {K : Int → Mem → Prop} {σ s : Mem} {k w x l4 : Int} {bs : List Int} (hA : AX σ k w) (hN : NL 341 1 342 σ s bs) (hl : (bs.length : Int) ≤ 850) (h0 : 0 ≤ l4) (h4 : l4 ≤ 35) (q : ∀ s2 : Mem, NL 341 1 342 σ s2 (bs ++ tkB t) → K (tkV w t x) s2) : AM2 i_Acts_begin (d + 3) [(2, 341), (0, t), (0, 0), (0, x), (0, l4)] s K := by
  refine e_Acts_begin fun _ _ _ _ => X_body_at (AX_S hA hN).1 (AX_S hA hN).2.1 (by decide) (by decide) 7 t 0 t0 t6 (by decide) rfl ?_
  rw [fd_t t0 t6]
  unfold tkB tkV at q
  by_cases c : t = 1 ∨ t = 2
  · simp only [if_pos c] at q ⊢
    have hb : s (-3) 4 = 20 := ((hN.2.2 (-3) 4 (by decide) (by decide)).trans (hA.2.1 4 (by decide) (by decide))).trans (by decide)
    refine s_Acts_begin_23 (brF_i (by decide) (brF_i (by omega) ?_))
    rw [show w32 (w32 ((1 : Int) * 4) + 0) = 4 by decide, hb]
    refine inb_i (by decide) (by decide) (inb_i (by decide) (by decide) (chkK_i rfl (X_note_ok hN (by omega) (fun s1 N1 => ?_))))
    refine brF_i (by decide) (brF_i (by decide) (brF_i (by decide) (brF_i (by decide) (brT_i rfl ?_))))
    rw [w32_id (x := l4 + 1) (by omega) (by omega), abo_ok (AX_S hA hN).1 (s := 1) (by decide) (by decide), show abo 1 = 0 by decide]
    refine e_Acts_begin fun _ _ _ _ => X_body_at (AX_S hA N1).1 (AX_S hA N1).2.1 (by decide) (by decide) 7 0 0 (by decide) (by decide) (by decide) rfl ?_
    rw [show fdF 0 7 0 = 0 by decide]
    exact X_tk0 hA N1 (by simp only [List.length_append, List.length_cons, List.length_nil]; omega) (by omega) (by omega) (fun s2 N2 => q s2 (NL_eq N2 (by simp only [List.append_assoc, List.cons_append, List.nil_append])))
  · simp only [if_neg c] at q ⊢
    exact X_tk0 hA hN (by omega) h0 (by omega) q
theorem X_lk0 {d : Nat} {K : Int → Mem → Prop} {σ s : Mem} {k w x l4 : Int} {bs : List Int} (hA : AX σ k w) (hN : NL 341 1 342 σ s bs) (hl : (bs.length : Int) ≤ 900) (h0 : 0 ≤ l4) (h4 : l4 ≤ 40) (q : ∀ s2 : Mem, NL 341 1 342 σ s2 (bs ++ [11]) → K (xorI x w) s2) : AW2 i_Acts_begin (d + 2) 23 [] [(0, (2, 341)), (2, (0, 2)), (3, (0, x)), (4, (0, l4)), (5, (0, 0))] s K := by
  have hb : s (-3) 2 = 11 := ((hN.2.2 (-3) 2 (by decide) (by decide)).trans (hA.2.1 2 (by decide) (by decide))).trans (by decide)
  refine s_Acts_begin_23 (brF_i (by decide) (brF_i (by omega) ?_))
  rw [show w32 (w32 ((0 : Int) * 4) + 2) = 2 by decide, hb]
  refine inb_i (by decide) (by decide) (inb_i (by decide) (by decide) (chkK_i rfl (X_note_ok hN (by omega) (fun s1 N1 => ?_))))
  refine brF_i (by decide) (brF_i (by decide) (brF_i (by decide) (brT_i rfl ?_)))
  rw [(AX_S hA N1).2.2.2]
  exact chkK_i rfl (q s1 N1)
theorem X_lk5 {t : Int} (t5 : t = 0 ∨ t = 5) {d : Nat} {K : Int → Mem → Prop} {σ s : Mem} {k w x l4 : Int} {bs : List Int} (hA : AX σ k w) (hN : NL 341 1 342 σ s bs) (hl : (bs.length : Int) ≤ 900) (h0 : 0 ≤ l4) (h4 : l4 ≤ 40) (q : ∀ s2 : Mem, NL 341 1 342 σ s2 (bs ++ [11]) → K (xorI x w) s2) : AM2 i_Acts_begin (d + 2) [(2, 341), (0, t), (0, 2), (0, x), (0, l4)] s K := by
  refine e_Acts_begin fun _ _ _ _ => X_body_at (AX_S hA hN).1 (AX_S hA hN).2.1 (by decide) (by decide) 7 t 0 (by omega) (by omega) (by decide) rfl ?_
  rw [fd_k (by omega) (by omega), if_neg (by omega), if_neg (by omega)]
  exact X_lk0 hA hN hl h0 h4 q
theorem X_lk {t : Int} (t0 : 0 ≤ t) (t6 : t ≤ 6) {d : Nat} {K : Int → Mem → Prop} {σ s : Mem} {k w x l4 : Int} {bs : List Int} (hA : AX σ k w) (hN : NL 341 1 342 σ s bs) (hl : (bs.length : Int) ≤ 850) (h0 : 0 ≤ l4) (h4 : l4 ≤ 35) (q : ∀ s2 : Mem, NL 341 1 342 σ s2 (bs ++ lkB t) → K (lkV w t x) s2) : AM2 i_Acts_begin (d + 3) [(2, 341), (0, t), (0, 2), (0, x), (0, l4)] s K := by
  refine e_Acts_begin fun _ _ _ _ => X_body_at (AX_S hA hN).1 (AX_S hA hN).2.1 (by decide) (by decide) 7 t 0 t0 t6 (by decide) rfl ?_
  rw [fd_k t0 t6]
  unfold lkB lkV at q
  by_cases c : t = 3
  · simp only [if_pos c] at q ⊢
    have hb : s (-3) 14 = 40 := ((hN.2.2 (-3) 14 (by decide) (by decide)).trans (hA.2.1 14 (by decide) (by decide))).trans (by decide)
    refine s_Acts_begin_23 (brF_i (by decide) (brF_i (by omega) ?_))
    rw [show w32 (w32 ((3 : Int) * 4) + 2) = 14 by decide, hb]
    refine inb_i (by decide) (by decide) (inb_i (by decide) (by decide) (chkK_i rfl (X_note_ok hN (by omega) (fun s1 N1 => ?_))))
    refine brF_i (by decide) (brF_i (by decide) (brF_i (by decide) (brF_i (by decide) (brF_i (by decide) (brF_i (by decide) (brT_i rfl ?_))))))
    rw [w32_id (x := l4 + 1) (by omega) (by omega), abo_ok (AX_S hA hN).1 (s := 3) (by decide) (by decide), show abo 3 = 0 by decide]
    exact X_lk5 (Or.inl rfl) hA N1 (by simp only [List.length_append, List.length_cons, List.length_nil]; omega) (by omega) (by omega) (fun s2 N2 => q s2 (NL_eq N2 (by simp only [List.append_assoc, List.cons_append, List.nil_append])))
  · simp only [if_neg c] at q ⊢
    by_cases c6 : t = 6
    · simp only [if_pos c6] at q ⊢
      have hb : s (-3) 26 = 70 := ((hN.2.2 (-3) 26 (by decide) (by decide)).trans (hA.2.1 26 (by decide) (by decide))).trans (by decide)
      refine s_Acts_begin_23 (brF_i (by decide) (brF_i (by omega) ?_))
      rw [show w32 (w32 ((6 : Int) * 4) + 2) = 26 by decide, hb]
      refine inb_i (by decide) (by decide) (inb_i (by decide) (by decide) (chkK_i rfl (X_note_ok hN (by omega) (fun s1 N1 => ?_))))
      refine brF_i (by decide) (brF_i (by decide) (brF_i (by decide) (brF_i (by decide) (brF_i (by decide) (brF_i (by decide) (brF_i (by decide) (brF_i (by decide) (brF_i (by decide) (brT_i rfl ?_)))))))))
      rw [w32_id (x := l4 + 1) (by omega) (by omega), abo_ok (AX_S hA hN).1 (s := 6) (by decide) (by decide), show abo 6 = 5 by decide]
      exact X_lk5 (Or.inr rfl) hA N1 (by simp only [List.length_append, List.length_cons, List.length_nil]; omega) (by omega) (by omega) (fun s2 N2 => q s2 (NL_eq N2 (by simp only [List.append_assoc, List.cons_append, List.nil_append])))
    · simp only [if_neg c6] at q ⊢
      exact X_lk0 hA hN (by omega) h0 (by omega) q
theorem X_lb0 {d : Nat} {K : Int → Mem → Prop} {σ s : Mem} {k w x l4 : Int} {bs : List Int} (hA : AX σ k w) (hN : NL 341 1 342 σ s bs) (hl : (bs.length : Int) ≤ 800) (h0 : 0 ≤ l4) (h4 : l4 ≤ 34) (q : ∀ s2 : Mem, NL 341 1 342 σ s2 (bs ++ lbB k) → K (lbV w k x) s2) : AW2 i_Acts_begin (d + 4) 23 [] [(0, (2, 341)), (2, (0, 1)), (3, (0, x)), (4, (0, l4)), (5, (0, 0))] s K := by
  have hk := hA.2.2.2
  have hb : s (-3) 1 = 10 := ((hN.2.2 (-3) 1 (by decide) (by decide)).trans (hA.2.1 1 (by decide) (by decide))).trans (by decide)
  refine s_Acts_begin_23 (brF_i (by decide) (brF_i (by omega) ?_))
  rw [show w32 (w32 ((0 : Int) * 4) + 1) = 1 by decide, hb]
  refine inb_i (by decide) (by decide) (inb_i (by decide) (by decide) (chkK_i rfl (X_note_ok hN (by omega) (fun s1 N1 => ?_))))
  refine brF_i (by decide) (brF_i (by decide) (brT_i rfl ?_))
  rw [w32_id (x := l4 + 1) (by omega) (by omega), (AX_S hA N1).2.2.1]
  exact chkK_i rfl (X_tk hk.1 hk.2 hA N1 (by simp only [List.length_append, List.length_cons, List.length_nil]; omega) (by omega) (by omega) (fun s2 N2 => q s2 (NL_eq N2 (by simp only [List.append_assoc, List.cons_append, List.nil_append, lbB]))))
theorem X_lb {t : Int} (t5 : t = 0 ∨ t = 1) {d : Nat} {K : Int → Mem → Prop} {σ s : Mem} {k w x l4 : Int} {bs : List Int} (hA : AX σ k w) (hN : NL 341 1 342 σ s bs) (hl : (bs.length : Int) ≤ 800) (h0 : 0 ≤ l4) (h4 : l4 ≤ 34) (q : ∀ s2 : Mem, NL 341 1 342 σ s2 (bs ++ lbB k) → K (lbV w k x) s2) : AM2 i_Acts_begin (d + 4) [(2, 341), (0, t), (0, 1), (0, x), (0, l4)] s K := by
  refine e_Acts_begin fun _ _ _ _ => X_body_at (AX_S hA hN).1 (AX_S hA hN).2.1 (by decide) (by decide) 7 t 0 (by omega) (by omega) (by decide) rfl ?_
  rw [fd_v (by omega) (by omega), if_neg (by omega), if_neg (by omega), if_neg (by omega)]
  exact X_lb0 hA hN hl h0 h4 q
theorem X_lv5 {d : Nat} {K : Int → Mem → Prop} {σ s : Mem} {k w x l4 : Int} {bs : List Int} (hA : AX σ k w) (hN : NL 341 1 342 σ s bs) (hl : (bs.length : Int) ≤ 750) (h0 : 0 ≤ l4) (h4 : l4 ≤ 33) (q : ∀ s2 : Mem, NL 341 1 342 σ s2 (bs ++ ([60] ++ lbB k)) → K (w32 (- lbV w k x)) s2) : AW2 i_Acts_begin (d + 5) 23 [] [(0, (2, 341)), (2, (0, 1)), (3, (0, x)), (4, (0, l4)), (5, (0, 5))] s K := by
  have hb : s (-3) 21 = 60 := ((hN.2.2 (-3) 21 (by decide) (by decide)).trans (hA.2.1 21 (by decide) (by decide))).trans (by decide)
  refine s_Acts_begin_23 (brF_i (by decide) (brF_i (by omega) ?_))
  rw [show w32 (w32 ((5 : Int) * 4) + 1) = 21 by decide, hb]
  refine inb_i (by decide) (by decide) (inb_i (by decide) (by decide) (chkK_i rfl (X_note_ok hN (by omega) (fun s1 N1 => ?_))))
  refine brF_i (by decide) (brF_i (by decide) (brF_i (by decide) (brF_i (by decide) (brF_i (by decide) (brF_i (by decide) (brF_i (by decide) (brF_i (by decide) (brT_i rfl ?_))))))))
  rw [w32_id (x := l4 + 1) (by omega) (by omega), abo_ok (AX_S hA hN).1 (s := 5) (by decide) (by decide), show abo 5 = 0 by decide]
  exact X_lb (Or.inl rfl) hA N1 (by simp only [List.length_append, List.length_cons, List.length_nil]; omega) (by omega) (by omega) (fun s2 N2 => q s2 (NL_eq N2 (by simp only [List.append_assoc, List.cons_append, List.nil_append])))
theorem X_lv {t : Int} (t0 : 0 ≤ t) (t6 : t ≤ 6) {d : Nat} {K : Int → Mem → Prop} {σ s : Mem} {k w x l4 : Int} {bs : List Int} (hA : AX σ k w) (hN : NL 341 1 342 σ s bs) (hl : (bs.length : Int) ≤ 700) (h0 : 0 ≤ l4) (h4 : l4 ≤ 32) (q : ∀ s2 : Mem, NL 341 1 342 σ s2 (bs ++ lvB k t) → K (lvV w k t x) s2) : AM2 i_Acts_begin (d + 6) [(2, 341), (0, t), (0, 1), (0, x), (0, l4)] s K := by
  have hk := hA.2.2.2
  have n1 := lbB_len k
  refine e_Acts_begin fun _ _ _ _ => X_body_at (AX_S hA hN).1 (AX_S hA hN).2.1 (by decide) (by decide) 7 t 0 t0 t6 (by decide) rfl ?_
  rw [fd_v t0 t6]
  unfold lvB lvV at q
  by_cases c : t = 2
  · simp only [if_pos c] at q ⊢
    have hb : s (-3) 9 = 30 := ((hN.2.2 (-3) 9 (by decide) (by decide)).trans (hA.2.1 9 (by decide) (by decide))).trans (by decide)
    refine s_Acts_begin_23 (brF_i (by decide) (brF_i (by omega) ?_))
    rw [show w32 (w32 ((2 : Int) * 4) + 1) = 9 by decide, hb]
    refine inb_i (by decide) (by decide) (inb_i (by decide) (by decide) (chkK_i rfl (X_note_ok hN (by omega) (fun s1 N1 => ?_))))
    refine brF_i (by decide) (brF_i (by decide) (brF_i (by decide) (brF_i (by decide) (brF_i (by decide) (brT_i rfl ?_)))))
    rw [w32_id (x := l4 + 1) (by omega) (by omega), abo_ok (AX_S hA hN).1 (s := 2) (by decide) (by decide), show abo 2 = 1 by decide]
    refine X_lb (d := d + 1) (Or.inr rfl) hA N1 (by simp only [List.length_append, List.length_cons, List.length_nil]; omega) (by omega) (by omega) (fun s2 N2 => chkK_i rfl ?_)
    rw [(AX_S hA N2).2.2.1]
    exact X_tk (d := d + 2) hk.1 hk.2 hA N2 (by simp only [List.length_append, List.length_cons, List.length_nil]; omega) (by omega) (by omega) (fun s3 N3 => q s3 (NL_eq N3 (by simp only [List.append_assoc, List.cons_append, List.nil_append])))
  · simp only [if_neg c] at q ⊢
    by_cases c5 : t = 5
    · simp only [if_pos c5] at q ⊢
      exact X_lv5 hA hN (by omega) h0 (by omega) q
    · simp only [if_neg c5] at q ⊢
      by_cases c6 : t = 6
      · simp only [if_pos c6] at q ⊢
        have hb : s (-3) 25 = 71 := ((hN.2.2 (-3) 25 (by decide) (by decide)).trans (hA.2.1 25 (by decide) (by decide))).trans (by decide)
        refine s_Acts_begin_23 (brF_i (by decide) (brF_i (by omega) ?_))
        rw [show w32 (w32 ((6 : Int) * 4) + 1) = 25 by decide, hb]
        refine inb_i (by decide) (by decide) (inb_i (by decide) (by decide) (chkK_i rfl (X_note_ok hN (by omega) (fun s1 N1 => ?_))))
        refine brF_i (by decide) (brF_i (by decide) (brF_i (by decide) (brF_i (by decide) (brF_i (by decide) (brF_i (by decide) (brF_i (by decide) (brF_i (by decide) (brF_i (by decide) (brF_i (by decide) (brT_i rfl ?_))))))))))
        rw [w32_id (x := l4 + 1) (by omega) (by omega), abo_ok (AX_S hA hN).1 (s := 6) (by decide) (by decide), show abo 6 = 5 by decide]
        refine e_Acts_begin fun _ _ _ _ => X_body_at (AX_S hA N1).1 (AX_S hA N1).2.1 (by decide) (by decide) 7 5 0 (by decide) (by decide) (by decide) rfl ?_
        rw [show fdF 1 7 5 = 5 by decide]
        refine X_lv5 (d := d) hA N1 (by simp only [List.length_append, List.length_cons, List.length_nil]; omega) (by omega) (by omega) (fun s2 N2 => ?_)
        exact X_lk5 (d := d + 3) (Or.inr rfl) hA N2 (by simp only [List.length_append, List.length_cons, List.length_nil]; omega) (by omega) (by omega) (fun s3 N3 => q s3 (NL_eq N3 (by simp only [List.append_assoc, List.cons_append, List.nil_append])))
      · simp only [if_neg c6] at q ⊢
        exact X_lb0 (d := d + 2) hA hN (by omega) h0 (by omega) q
theorem X_tb0 {d : Nat} {K : Int → Mem → Prop} {σ s : Mem} {k w x l4 : Int} {bs : List Int} (hA : AX σ k w) (hN : NL 341 1 342 σ s bs) (hl : (bs.length : Int) ≤ 650) (h0 : 0 ≤ l4) (h4 : l4 ≤ 31) (q : ∀ s2 : Mem, NL 341 1 342 σ s2 (bs ++ tbB k) → K (tbV w k x) s2) : AW2 i_Acts_begin (d + 7) 23 [] [(0, (2, 341)), (2, (0, 3)), (3, (0, x)), (4, (0, l4)), (5, (0, 0))] s K := by
  have hk := hA.2.2.2
  have n1 := lvB_len k k
  have hb : s (-3) 3 = 2 := ((hN.2.2 (-3) 3 (by decide) (by decide)).trans (hA.2.1 3 (by decide) (by decide))).trans (by decide)
  refine s_Acts_begin_23 (brF_i (by decide) (brF_i (by omega) ?_))
  rw [show w32 (w32 ((0 : Int) * 4) + 3) = 3 by decide, hb]
  refine inb_i (by decide) (by decide) (inb_i (by decide) (by decide) (chkK_i rfl (X_note_ok hN (by omega) (fun s1 N1 => ?_))))
  refine brF_i (by decide) (brT_i rfl ?_)
  rw [w32_id (x := l4 + 1) (by omega) (by omega), (AX_S hA N1).2.2.1]
  refine chkK_i rfl (X_lv (d := d) hk.1 hk.2 hA N1 (by simp only [List.length_append, List.length_cons, List.length_nil]; omega) (by omega) (by omega) (fun s2 N2 => chkK_i rfl ?_))
  rw [(AX_S hA N2).2.2.1]
  exact X_lk (d := d + 3) hk.1 hk.2 hA N2 (by simp only [List.length_append, List.length_cons, List.length_nil]; omega) (by omega) (by omega) (fun s3 N3 => q s3 (NL_eq N3 (by simp only [List.append_assoc, List.cons_append, List.nil_append, tbB])))
theorem X_tl {t : Int} (t0 : 0 ≤ t) (t6 : t ≤ 6) {d : Nat} {K : Int → Mem → Prop} {σ s : Mem} {k w x l4 : Int} {bs : List Int} (hA : AX σ k w) (hN : NL 341 1 342 σ s bs) (hl : (bs.length : Int) ≤ 600) (h0 : 0 ≤ l4) (h4 : l4 ≤ 30) (q : ∀ s2 : Mem, NL 341 1 342 σ s2 (bs ++ tlB k t) → K (tlV w k t x) s2) : AM2 i_Acts_begin (d + 8) [(2, 341), (0, t), (0, 3), (0, x), (0, l4)] s K := by
  refine e_Acts_begin fun _ _ _ _ => X_body_at (AX_S hA hN).1 (AX_S hA hN).2.1 (by decide) (by decide) 7 t 0 t0 t6 (by decide) rfl ?_
  rw [fd_l t0 t6]
  unfold tlB tlV at q
  by_cases c : t = 4
  · simp only [if_pos c] at q ⊢
    have hb : s (-3) 19 = 50 := ((hN.2.2 (-3) 19 (by decide) (by decide)).trans (hA.2.1 19 (by decide) (by decide))).trans (by decide)
    refine s_Acts_begin_23 (brF_i (by decide) (brF_i (by omega) ?_))
    rw [show w32 (w32 ((4 : Int) * 4) + 3) = 19 by decide, hb]
    refine inb_i (by decide) (by decide) (inb_i (by decide) (by decide) (chkK_i rfl (X_note_ok hN (by omega) (fun s1 N1 => ?_))))
    refine brF_i (by decide) (brF_i (by decide) (brF_i (by decide) (brF_i (by decide) (brF_i (by decide) (brF_i (by decide) (brF_i (by decide) (brT_i rfl ?_)))))))
    rw [w32_id (x := l4 + 1) (by omega) (by omega), abo_ok (AX_S hA hN).1 (s := 4) (by decide) (by decide), show abo 4 = 0 by decide]
    refine e_Acts_begin fun _ _ _ _ => X_body_at (AX_S hA N1).1 (AX_S hA N1).2.1 (by decide) (by decide) 7 0 0 (by decide) (by decide) (by decide) rfl ?_
    rw [show fdF 3 7 0 = 0 by decide]
    exact X_tb0 (d := d) hA N1 (by simp only [List.length_append, List.length_cons, List.length_nil]; omega) (by omega) (by omega) (fun s2 N2 => q s2 (NL_eq N2 (by simp only [List.append_assoc, List.cons_append, List.nil_append])))
  · simp only [if_neg c] at q ⊢
    exact X_tb0 (d := d + 1) hA hN (by omega) h0 (by omega) q
