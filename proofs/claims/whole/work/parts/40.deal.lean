-- ===== runs: what a turn does
abbrev RS : Type := (Int → Int) × (Int → Int) × (Int → Int → Int) × (Int → Int → Int)
def up (f : Int → Int) (i v : Int) : Int → Int := fun j => if j = i then v else f j
def up2 (f : Int → Int → Int) (p i v : Int) : Int → Int → Int := fun q j => if q = p ∧ j = i then v else f q j
theorem up_s {f : Int → Int} {i v : Int} : up f i v i = v := if_pos rfl
theorem up_n {f : Int → Int} {i v j : Int} (h : ¬ j = i) : up f i v j = f j := if_neg h
theorem up2_s {f : Int → Int → Int} {p i v : Int} : up2 f p i v p i = v := if_pos ⟨rfl, rfl⟩
theorem up2_n {f : Int → Int → Int} {p i v q j : Int} (h : ¬ (q = p ∧ j = i)) : up2 f p i v q j = f q j := if_neg h
def tk (S : RS) (k p t : Int) : RS := if t = -1 then S else (up S.1 t (S.1 t - 1), up S.2.1 p (S.2.1 p + 1), up2 S.2.2.1 p (S.2.1 p) t, up2 S.2.2.2 p (S.2.1 p) k)
def frs (ls : Int → Int → Int) (sz : Int → Int) (S : RS) (p : Int) : Int := fsT (fun x => decide (0 < S.1 x)) (ls p) (sz p).toNat 0
def trn (ls : Int → Int → Int) (sz : Int → Int) (S : RS) (k p : Int) : RS := tk S k p (frs ls sz S p)
def rnd (ls : Int → Int → Int) (sz who : Int → Int) : Nat → Int → Int → RS → RS
  | 0, _, _, S => S
  | m + 1, i, k, S => rnd ls sz who m (i + 1) (k + 1) (trn ls sz S k (who i))
def whoR (o : Int → Int) (n : Int) (back : Bool) (r i : Int) : Int := if back = true ∧ r = 1 then o (n - 1 - i) else o i
def rns (ls : Int → Int → Int) (sz o : Int → Int) (n : Int) (back : Bool) : Nat → Int → Int → RS → RS
  | 0, _, _, S => S
  | m + 1, r, k, S => rns ls sz o n back m (r + 1) (k + n) (rnd ls sz (whoR o n back r) n.toNat 0 k S)
def S0 (am : Int → Int) : RS := (am, fun _ => 0, fun _ _ => 0, fun _ _ => 0)
/-- a run: n people, R rounds, an order, there (and back) -/
def dl (n R : Int) (o : Int → Int) (back : Bool) (am : Int → Int) (ls : Int → Int → Int) (sz : Int → Int) : RS := rns ls sz o n back R.toNat 0 0 (S0 am)
def PI (n m : Int) (S : RS) : Prop := (∀ t, 0 ≤ t → t < m → 0 ≤ S.1 t ∧ S.1 t ≤ 9) ∧ (∀ p i, 0 ≤ p → p < n → 0 ≤ i → i < S.2.1 p → 0 ≤ S.2.2.1 p i ∧ S.2.2.1 p i < m)
/-- before turn i of a round r -/
def GB2 (n r i : Int) (who : Int → Int) (S : RS) : Prop := (∀ p, 0 ≤ p → p < n → 0 ≤ S.2.1 p ∧ S.2.1 p ≤ r + 1) ∧ ∀ j, i ≤ j → j < n → S.2.1 (who j) ≤ r
def LGo (n m : Int) (ls : Int → Int → Int) (sz : Int → Int) : Prop := (∀ p, 0 ≤ p → p < n → 0 ≤ sz p ∧ sz p ≤ 8) ∧ ∀ p i, 0 ≤ p → p < n → 0 ≤ i → i < sz p → 0 ≤ ls p i ∧ ls p i < m
theorem frs_r {n m : Int} {ls : Int → Int → Int} {sz : Int → Int} {S : RS} {p : Int} (hL : LGo n m ls sz) (p0 : 0 ≤ p) (p1 : p < n) : frs ls sz S p = -1 ∨ (0 ≤ frs ls sz S p ∧ frs ls sz S p < m ∧ 0 < S.1 (frs ls sz S p)) := by
  have hs := hL.1 p p0 p1
  unfold frs
  rcases fsT_cases (c := fun x => decide (0 < S.1 x)) (ls := ls p) (sz p).toNat 0 with ⟨e, -⟩ | ⟨j, j0, j1, e, c, -⟩
  · exact Or.inl e
  · have := hL.2 p j p0 p1 j0 (by omega)
    rw [e]
    exact Or.inr ⟨this.1, this.2, of_decide_eq_true c⟩
theorem tk_PI {n m : Int} {S : RS} {k p t : Int} (h : PI n m S) (ht : t = -1 ∨ (0 ≤ t ∧ t < m ∧ 0 < S.1 t)) : PI n m (tk S k p t) := by
  unfold tk
  by_cases c : t = -1
  · rw [if_pos c]; exact h
  · rw [if_neg c]
    obtain ⟨t0, t1, t2⟩ := ht.resolve_left c
    refine ⟨fun u u0 u1 => ?_, fun q i q0 q1 i0 i1 => ?_⟩
    · have := h.1 u u0 u1
      by_cases z : u = t
      · subst z; show 0 ≤ up S.1 u (S.1 u - 1) u ∧ up S.1 u (S.1 u - 1) u ≤ 9; rw [up_s]; omega
      · show 0 ≤ up S.1 t (S.1 t - 1) u ∧ up S.1 t (S.1 t - 1) u ≤ 9; rw [up_n z]; exact this
    · show 0 ≤ up2 S.2.2.1 p (S.2.1 p) t q i ∧ up2 S.2.2.1 p (S.2.1 p) t q i < m
      have i1 : i < up S.2.1 p (S.2.1 p + 1) q := i1
      by_cases z : q = p ∧ i = S.2.1 p
      · obtain ⟨rfl, rfl⟩ := z; rw [up2_s]; exact ⟨t0, t1⟩
      · rw [up2_n z]
        by_cases y : q = p
        · subst y; rw [up_s] at i1; exact h.2 q i q0 q1 i0 (by omega)
        · rw [up_n y] at i1; exact h.2 q i q0 q1 i0 i1
theorem tk_got {n r i : Int} {who : Int → Int} {S : RS} {k t : Int} (hP : PM n who) (i0 : 0 ≤ i) (i1 : i < n) (h : GB2 n r i who S) : GB2 n r (i + 1) who (tk S k (who i) t) := by
  have hi := hP i i0 i1
  have hb := h.2 i (Int.le_refl i) i1
  have hg := h.1 (who i) hi.1.1 hi.1.2
  unfold tk
  by_cases c : t = -1
  · rw [if_pos c]; exact ⟨h.1, fun j j0 j1 => h.2 j (by omega) j1⟩
  · rw [if_neg c]
    refine ⟨fun p p0 p1 => ?_, fun j j0 j1 => ?_⟩
    · show 0 ≤ up S.2.1 (who i) (S.2.1 (who i) + 1) p ∧ up S.2.1 (who i) (S.2.1 (who i) + 1) p ≤ r + 1
      by_cases z : p = who i
      · rw [z, up_s]; omega
      · rw [up_n z]; exact h.1 p p0 p1
    · show up S.2.1 (who i) (S.2.1 (who i) + 1) (who j) ≤ r
      have : ¬ who j = who i := fun e => by have := hi.2 j (by omega) j1 e; omega
      rw [up_n this]
      exact h.2 j (by omega) j1
theorem whoR_PM {n r : Int} {o : Int → Int} {back : Bool} (h : PM n o) : PM n (whoR o n back r) := by
  intro i i0 i1
  unfold whoR
  by_cases c : back = true ∧ r = 1
  · rw [if_pos c]
    have hi := h (n - 1 - i) (by omega) (by omega)
    refine ⟨hi.1, fun j j0 j1 e => ?_⟩
    rw [if_pos c] at e
    have := hi.2 (n - 1 - j) (by omega) (by omega) e
    omega
  · rw [if_neg c]
    have hi := h i i0 i1
    refine ⟨hi.1, fun j j0 j1 e => ?_⟩
    rw [if_neg c] at e
    exact hi.2 j j0 j1 e
theorem rnd_PI {n m r : Int} {ls : Int → Int → Int} {sz who : Int → Int} (hL : LGo n m ls sz) (hP : PM n who) : ∀ (q : Nat) (i k : Int) (S : RS), 0 ≤ i → i + q = n → PI n m S → GB2 n r i who S → PI n m (rnd ls sz who q i k S) ∧ ∀ p, 0 ≤ p → p < n → 0 ≤ (rnd ls sz who q i k S).2.1 p ∧ (rnd ls sz who q i k S).2.1 p ≤ r + 1
  | 0, i, k, S, i0, e, h1, h2 => ⟨h1, h2.1⟩
  | q + 1, i, k, S, i0, e, h1, h2 => by
    have hi := hP i i0 (by omega)
    exact rnd_PI hL hP q (i + 1) (k + 1) _ (by omega) (by omega) (tk_PI h1 (frs_r hL hi.1.1 hi.1.2)) (tk_got hP i0 (by omega) h2)
theorem GB2_0 {n r : Int} {who : Int → Int} {S : RS} (hP : PM n who) (h : ∀ p, 0 ≤ p → p < n → 0 ≤ S.2.1 p ∧ S.2.1 p ≤ r) : GB2 n r 0 who S :=
  ⟨fun p p0 p1 => by have := h p p0 p1; omega, fun j j0 j1 => by have := hP j j0 j1; exact (h _ this.1.1 this.1.2).2⟩
theorem rns_PI {n m : Int} {ls : Int → Int → Int} {sz o : Int → Int} {back : Bool} (hL : LGo n m ls sz) (hP : PM n o) (n0 : 0 ≤ n) : ∀ (q : Nat) (r k : Int) (S : RS), PI n m S → (∀ p, 0 ≤ p → p < n → 0 ≤ S.2.1 p ∧ S.2.1 p ≤ r) → PI n m (rns ls sz o n back q r k S) ∧ ∀ p, 0 ≤ p → p < n → 0 ≤ (rns ls sz o n back q r k S).2.1 p ∧ (rns ls sz o n back q r k S).2.1 p ≤ r + q
  | 0, r, k, S, h1, h2 => ⟨h1, fun p p0 p1 => by have := h2 p p0 p1; exact ⟨this.1, by show S.2.1 p ≤ r + ((0 : Nat) : Int); omega⟩⟩
  | q + 1, r, k, S, h1, h2 => by
    have h3 := rnd_PI (r := r) (k := k) (S := S) hL (whoR_PM (r := r) (back := back) hP) n.toNat 0 (Int.le_refl 0) (by omega) h1 (GB2_0 (whoR_PM hP) h2)
    have h4 := rns_PI (back := back) hL hP n0 q (r + 1) (k + n) _ h3.1 h3.2
    refine ⟨h4.1, fun p p0 p1 => ?_⟩
    have := h4.2 p p0 p1
    refine ⟨this.1, ?_⟩
    have h5 := this.2
    show (rns ls sz o n back q (r + 1) (k + n) (rnd ls sz (whoR o n back r) n.toNat 0 k S)).2.1 p ≤ r + ((q + 1 : Nat) : Int)
    omega
theorem dl_PI {n m R : Int} {ls : Int → Int → Int} {sz o am : Int → Int} {back : Bool} (hL : LGo n m ls sz) (hP : PM n o) (n0 : 0 ≤ n) (R0 : 0 ≤ R) (ha : ∀ t, 0 ≤ t → t < m → 0 ≤ am t ∧ am t ≤ 9) : PI n m (dl n R o back am ls sz) ∧ ∀ p, 0 ≤ p → p < n → 0 ≤ (dl n R o back am ls sz).2.1 p ∧ (dl n R o back am ls sz).2.1 p ≤ R := by
  have h := rns_PI (back := back) (m := m) hL hP n0 R.toNat 0 0 (S0 am) ⟨ha, fun p i _ _ i0 i1 => by have i1 : i < 0 := i1; omega⟩ (fun p _ _ => ⟨Int.le_refl 0, Int.le_refl 0⟩)
  refine ⟨h.1, fun p p0 p1 => ?_⟩
  have := h.2 p p0 p1
  unfold dl
  omega
-- ===== the class's hands
theorem hF1 : ∀ h : Fin 2, (sK (263 + 22 * (h.val : Int)) = 4 ∧ sK (263 + 22 * (h.val : Int) + 1) = 100 ∧ sN (263 + 22 * (h.val : Int) + 1) = 8 ∧ sK (263 + 22 * (h.val : Int) + 2) = 100 ∧ sN (263 + 22 * (h.val : Int) + 2) = 7 ∧ sK (263 + 22 * (h.val : Int) + 3) = 106 ∧ sN (263 + 22 * (h.val : Int) + 3) = 7 ∧ sK (263 + 22 * (h.val : Int) + 11) = 106 ∧ sN (263 + 22 * (h.val : Int) + 11) = 7) ∧ (ptr (263 + 22 * (h.val : Int)) 0 = 263 + 22 * (h.val : Int) + 1 ∧ ptr (263 + 22 * (h.val : Int)) 1 = 263 + 22 * (h.val : Int) + 2 ∧ ptr (263 + 22 * (h.val : Int)) 2 = 263 + 22 * (h.val : Int) + 3 ∧ ptr (263 + 22 * (h.val : Int)) 3 = 263 + 22 * (h.val : Int) + 11) ∧
    ∀ p : Fin 7, ptr (263 + 22 * (h.val : Int) + 3) (p.val : Int) = 263 + 22 * (h.val : Int) + 4 + p.val ∧ ptr (263 + 22 * (h.val : Int) + 11) (p.val : Int) = 263 + 22 * (h.val : Int) + 12 + p.val ∧ sK (263 + 22 * (h.val : Int) + 4 + p.val) = 100 ∧ sN (263 + 22 * (h.val : Int) + 4 + p.val) = 3 ∧ sK (263 + 22 * (h.val : Int) + 12 + p.val) = 100 ∧ sN (263 + 22 * (h.val : Int) + 12 + p.val) = 3 := by decide +kernel
theorem hF {h : Int} (hh : h = 263 ∨ h = 285) : (sK h = 4 ∧ sK (h + 1) = 100 ∧ sN (h + 1) = 8 ∧ sK (h + 2) = 100 ∧ sN (h + 2) = 7 ∧ sK (h + 3) = 106 ∧ sN (h + 3) = 7 ∧ sK (h + 11) = 106 ∧ sN (h + 11) = 7) ∧ (ptr h 0 = h + 1 ∧ ptr h 1 = h + 2 ∧ ptr h 2 = h + 3 ∧ ptr h 3 = h + 11) := by
  rcases hh with rfl | rfl
  · exact ⟨(hF1 ⟨0, by decide⟩).1, (hF1 ⟨0, by decide⟩).2.1⟩
  · exact ⟨(hF1 ⟨1, by decide⟩).1, (hF1 ⟨1, by decide⟩).2.1⟩
theorem hR {h p : Int} (hh : h = 263 ∨ h = 285) (p0 : 0 ≤ p) (p7 : p < 7) : ptr (h + 3) p = h + 4 + p ∧ ptr (h + 11) p = h + 12 + p ∧ sK (h + 4 + p) = 100 ∧ sN (h + 4 + p) = 3 ∧ sK (h + 12 + p) = 100 ∧ sN (h + 12 + p) = 3 := by
  obtain ⟨n, rfl⟩ := Int.eq_ofNat_of_zero_le p0
  rcases hh with rfl | rfl
  · exact (hF1 ⟨0, by decide⟩).2.2 ⟨n, by omega⟩
  · exact (hF1 ⟨1, by decide⟩).2.2 ⟨n, by omega⟩
theorem ck_h {h : Int} {P : Prop} (hh : h = 263 ∨ h = 285) : chkK h 4 P = P := chkK_eq (hF hh).1.1
theorem ck_hl {h : Int} {P : Prop} (hh : h = 263 ∨ h = 285) : chkK (h + 1) 100 P = P := chkK_eq (hF hh).1.2.1
theorem sn_hl {h : Int} (hh : h = 263 ∨ h = 285) : sN (h + 1) = 8 := (hF hh).1.2.2.1
theorem ck_hg {h : Int} {P : Prop} (hh : h = 263 ∨ h = 285) : chkK (h + 2) 100 P = P := chkK_eq (hF hh).1.2.2.2.1
theorem sn_hg {h : Int} (hh : h = 263 ∨ h = 285) : sN (h + 2) = 7 := (hF hh).1.2.2.2.2.1
theorem ck_ht {h : Int} {P : Prop} (hh : h = 263 ∨ h = 285) : chkK (h + 3) 106 P = P := chkK_eq (hF hh).1.2.2.2.2.2.1
theorem sn_ht {h : Int} (hh : h = 263 ∨ h = 285) : sN (h + 3) = 7 := (hF hh).1.2.2.2.2.2.2.1
theorem ck_hm {h : Int} {P : Prop} (hh : h = 263 ∨ h = 285) : chkK (h + 11) 106 P = P := chkK_eq (hF hh).1.2.2.2.2.2.2.2.1
theorem sn_hm {h : Int} (hh : h = 263 ∨ h = 285) : sN (h + 11) = 7 := (hF hh).1.2.2.2.2.2.2.2.2
theorem pt_hl {h : Int} (hh : h = 263 ∨ h = 285) : ptr h 0 = h + 1 := (hF hh).2.1
theorem pt_hg {h : Int} (hh : h = 263 ∨ h = 285) : ptr h 1 = h + 2 := (hF hh).2.2.1
theorem pt_ht {h : Int} (hh : h = 263 ∨ h = 285) : ptr h 2 = h + 3 := (hF hh).2.2.2.1
theorem pt_hm {h : Int} (hh : h = 263 ∨ h = 285) : ptr h 3 = h + 11 := (hF hh).2.2.2.2
theorem pt_tr {h p : Int} (hh : h = 263 ∨ h = 285) (p0 : 0 ≤ p) (p7 : p < 7) : ptr (h + 3) p = h + 4 + p := (hR hh p0 p7).1
theorem pt_mr {h p : Int} (hh : h = 263 ∨ h = 285) (p0 : 0 ≤ p) (p7 : p < 7) : ptr (h + 11) p = h + 12 + p := (hR hh p0 p7).2.1
theorem ck_tr {h p : Int} {P : Prop} (hh : h = 263 ∨ h = 285) (p0 : 0 ≤ p) (p7 : p < 7) : chkK (h + 4 + p) 100 P = P := chkK_eq (hR hh p0 p7).2.2.1
theorem sn_tr {h p : Int} (hh : h = 263 ∨ h = 285) (p0 : 0 ≤ p) (p7 : p < 7) : sN (h + 4 + p) = 3 := (hR hh p0 p7).2.2.2.1
theorem ck_mr {h p : Int} {P : Prop} (hh : h = 263 ∨ h = 285) (p0 : 0 ≤ p) (p7 : p < 7) : chkK (h + 12 + p) 100 P = P := chkK_eq (hR hh p0 p7).2.2.2.2.1
theorem sn_mr {h p : Int} (hh : h = 263 ∨ h = 285) (p0 : 0 ≤ p) (p7 : p < 7) : sN (h + 12 + p) = 3 := (hR hh p0 p7).2.2.2.2.2
/-- a hand holds what a run has done -/
def HR (σ : Mem) (h n m : Int) (S : RS) : Prop :=
  (∀ t, 0 ≤ t → t < m → σ (h + 1) t = S.1 t) ∧ (∀ p, 0 ≤ p → p < n → σ (h + 2) p = S.2.1 p) ∧
  (∀ p i, 0 ≤ p → p < n → 0 ≤ i → i < S.2.1 p → σ (h + 12 + p) i = S.2.2.1 p i ∧ σ (h + 4 + p) i = S.2.2.2 p i) ∧
  ((0 ≤ σ h 4 ∧ σ h 4 < 256) ∧ ∀ t, 0 ≤ t → t < 8 → bt (σ h 4) t = decide (t < m ∧ 0 < S.1 t))
theorem HR_fr {σ s : Mem} {h n m : Int} {S : RS} (hn : n ≤ 7) (f : ∀ b j, h ≤ b → b ≤ h + 18 → s b j = σ b j) (h1 : HR σ h n m S) : HR s h n m S := by
  refine ⟨fun t t0 t1 => ?_, fun p p0 p1 => ?_, fun p i p0 p1 i0 i1 => ?_, ?_⟩
  · rw [f _ _ (by omega) (by omega)]; exact h1.1 t t0 t1
  · rw [f _ _ (by omega) (by omega)]; exact h1.2.1 p p0 p1
  · rw [f _ _ (by omega) (by omega), f _ _ (by omega) (by omega)]; exact h1.2.2.1 p i p0 p1 i0 i1
  · rw [f _ _ (by omega) (by omega)]; exact h1.2.2.2
theorem HR_tk {s s2 : Mem} {h n m : Int} {S : RS} {k p t : Int} (hn : n ≤ 7) (hm : m ≤ 8) (p0 : 0 ≤ p) (p1 : p < n) (h1 : HR s h n m S) (ht : 0 ≤ t ∧ t < m ∧ 0 < S.1 t)
    (f : ∀ b j, ¬ (b = h + 1 ∧ j = t) → ¬ (b = h ∧ j = 4) → ¬ (b = h + 12 + p ∧ j = S.2.1 p) → ¬ (b = h + 4 + p ∧ j = S.2.1 p) → ¬ (b = h + 2 ∧ j = p) → s2 b j = s b j)
    (w1 : s2 (h + 1) t = S.1 t - 1) (w2 : s2 (h + 12 + p) (S.2.1 p) = t) (w3 : s2 (h + 4 + p) (S.2.1 p) = k) (w4 : s2 (h + 2) p = S.2.1 p + 1)
    (w5 : (S.1 t - 1 = 0 ∧ s2 h 4 = andI (s h 4) (xorI (shlI 1 t) (-1))) ∨ (¬ S.1 t - 1 = 0 ∧ s2 h 4 = s h 4)) : HR s2 h n m (tk S k p t) := by
  obtain ⟨a1, a2, a3, a4, a5⟩ := h1
  unfold tk
  rw [if_neg (by omega)]
  have g0 : ∀ x : Int, 0 ≤ x → x < 8 → bt (s2 h 4) x = decide (x < m ∧ 0 < up S.1 t (S.1 t - 1) x) := by
    intro x x0 x1
    rcases w5 with ⟨z, e⟩ | ⟨z, e⟩
    · rw [e, (bit_clr a4.1 a4.2 (by omega) (by omega)).2 x x0 x1, a5 x x0 x1]
      by_cases y : x = t
      · subst y; rw [up_s]; simp; omega
      · rw [up_n y, decide_eq_false y]; simp
    · rw [e, a5 x x0 x1]
      by_cases y : x = t
      · subst y; rw [up_s]; simp only [decide_eq_decide]; omega
      · rw [up_n y]
  refine ⟨fun u u0 u1 => ?_, fun q q0 q1 => ?_, fun q i q0 q1 i0 i1 => ?_, ?_, fun x x0 x1 => g0 x x0 x1⟩
  · show s2 (h + 1) u = up S.1 t (S.1 t - 1) u
    by_cases y : u = t
    · subst y; rw [up_s, w1]
    · rw [up_n y, f _ _ (by omega) (by omega) (by omega) (by omega) (by omega)]; exact a1 u u0 u1
  · show s2 (h + 2) q = up S.2.1 p (S.2.1 p + 1) q
    by_cases y : q = p
    · subst y; rw [up_s, w4]
    · rw [up_n y, f _ _ (by omega) (by omega) (by omega) (by omega) (by omega)]; exact a2 q q0 q1
  · have i1 : i < up S.2.1 p (S.2.1 p + 1) q := i1
    show s2 (h + 12 + q) i = up2 S.2.2.1 p (S.2.1 p) t q i ∧ s2 (h + 4 + q) i = up2 S.2.2.2 p (S.2.1 p) k q i
    by_cases y : q = p ∧ i = S.2.1 p
    · obtain ⟨rfl, rfl⟩ := y; rw [up2_s, up2_s, w2, w3]; exact ⟨rfl, rfl⟩
    · have i2 : i < S.2.1 q := by
        by_cases z : q = p
        · subst z; rw [up_s] at i1; omega
        · rw [up_n z] at i1; exact i1
      rw [up2_n y, up2_n y, f _ _ (by omega) (by omega) (by omega) (by omega) (by omega), f _ _ (by omega) (by omega) (by omega) (by omega) (by omega)]
      exact a3 q i q0 q1 i0 i2
  · rcases w5 with ⟨z, e⟩ | ⟨z, e⟩
    · rw [e]; exact (bit_clr a4.1 a4.2 (by omega) (by omega)).1
    · rw [e]; exact a4
/-- the class holds the lists -/
def LX (s : Mem) (g n m : Int) (ls : Int → Int → Int) (sz : Int → Int) : Prop := (∀ p, 0 ≤ p → p < n → s (7 + 43 * g) p = sz p) ∧ ∀ p i, 0 ≤ p → p < n → 0 ≤ i → i < sz p → s (9 + 43 * g + p) i = ls p i
theorem X_take_ok {d : Nat} {K : Int → Mem → Prop} {s : Mem} {g h n m p k : Int} {ls : Int → Int → Int} {sz : Int → Int} {S : RS} (hh : h = 263 ∨ h = 285) (g0 : 0 ≤ g) (g5 : g ≤ 5) (hn : n ≤ 7) (hm : m ≤ 8) (hL : LGo n m ls sz) (hX : LX s g n m ls sz) (hS : HR s h n m S) (hP : PI n m S) (p0 : 0 ≤ p) (p1 : p < n) (hg : 0 ≤ S.2.1 p ∧ S.2.1 p ≤ 2)
    (kk : ∀ s2 : Mem, HR s2 h n m (trn ls sz S k p) → (∀ b j, ¬ (h ≤ b ∧ b ≤ h + 18) → s2 b j = s b j) → K 0 s2) : AM2 i_Hand_take (d + 2) [(2, h), (2, 4 + 43 * g), (0, p), (0, k)] s K := by
  have hs := hL.1 p p0 p1
  have hx := hX.1 p p0 p1
  refine e_Hand_take fun _ _ => ?_
  (try simp (disch := omega) only [w32_id, w64_id, inb_eq, st_self, st_ne, pt3, ck_g, ck_am, ck_he, ck_sz, ck_ls, ck_lv, ck_pa, ck_kn, sn_am, sn_he, sn_sz, sn_ls, sn_lv, sn_pa, sn_kn, pt_am, pt_he, pt_sz, pt_ls, pt_lv, pt_pa, pt_kn, ck_lr, ck_vr, ck_pr, sn_lr, sn_vr, sn_pr, pt_lr, pt_vr, pt_pr, pt_sh, ck_sh, pt_to, ck_to, sn_to, ck_h, ck_hl, ck_hg, ck_ht, ck_hm, ck_tr, ck_mr, sn_hl, sn_hg, sn_ht, sn_hm, sn_tr, sn_mr, pt_hl, pt_hg, pt_ht, pt_hm, pt_tr, pt_mr])
  refine X_firstOf_ok g0 g5 p0 (by omega) (by omega) hS.2.2.2.1.1 hS.2.2.2.1.2 (fun i i0 i1 => ?_) ?_
  · rw [hx] at i1; rw [hX.2 p i p0 p1 i0 i1]; have := hL.2 p i p0 p1 i0 i1; omega
  have ef : fsT (bt (s h 4)) (s (9 + 43 * g + p)) (s (7 + 43 * g) p).toNat 0 = frs ls sz S p := by
    rw [hx]
    refine fsT_congr _ _ (fun j j0 j1 => ?_)
    have h1 := hX.2 p j p0 p1 j0 (by omega)
    have h2 := hL.2 p j p0 p1 j0 (by omega)
    rw [h1, hS.2.2.2.2 _ h2.1 (by omega)]
    exact ⟨rfl, by simp only [decide_eq_decide]; omega⟩
  rw [ef]
  have hr := frs_r (S := S) hL p0 p1
  have kt : trn ls sz S k p = tk S k p (frs ls sz S p) := rfl
  rw [kt] at kk
  generalize frs ls sz S p = t at *
  have e2 := hS.2.1 p p0 p1
  refine ⟨fun c => ?_, fun c => ⟨fun c2 => ?_, fun c2 => by omega⟩⟩
  · unfold tk at kk
    rw [if_pos (by omega)] at kk
    exact kk s hS (fun _ _ _ => rfl)
  · obtain ⟨t0, t1, t2⟩ := hr.resolve_left (by omega)
    have e1 := hS.1 t t0 t1
    have hp9 := hP.1 t t0 t1
    rw [e2, e1]
    (try simp (disch := omega) only [w32_id, w64_id, inb_eq, st_self, st_ne, pt3, ck_g, ck_am, ck_he, ck_sz, ck_ls, ck_lv, ck_pa, ck_kn, sn_am, sn_he, sn_sz, sn_ls, sn_lv, sn_pa, sn_kn, pt_am, pt_he, pt_sz, pt_ls, pt_lv, pt_pa, pt_kn, ck_lr, ck_vr, ck_pr, sn_lr, sn_vr, sn_pr, pt_lr, pt_vr, pt_pr, pt_sh, ck_sh, pt_to, ck_to, sn_to, ck_h, ck_hl, ck_hg, ck_ht, ck_hm, ck_tr, ck_mr, sn_hl, sn_hg, sn_ht, sn_hm, sn_tr, sn_mr, pt_hl, pt_hg, pt_ht, pt_hm, pt_tr, pt_mr])
    refine ⟨fun z => ?_, fun z => ?_⟩
    · (try simp (disch := omega) only [w32_id, w64_id, inb_eq, st_self, st_ne, pt3, ck_g, ck_am, ck_he, ck_sz, ck_ls, ck_lv, ck_pa, ck_kn, sn_am, sn_he, sn_sz, sn_ls, sn_lv, sn_pa, sn_kn, pt_am, pt_he, pt_sz, pt_ls, pt_lv, pt_pa, pt_kn, ck_lr, ck_vr, ck_pr, sn_lr, sn_vr, sn_pr, pt_lr, pt_vr, pt_pr, pt_sh, ck_sh, pt_to, ck_to, sn_to, ck_h, ck_hl, ck_hg, ck_ht, ck_hm, ck_tr, ck_mr, sn_hl, sn_hg, sn_ht, sn_hm, sn_tr, sn_mr, pt_hl, pt_hg, pt_ht, pt_hm, pt_tr, pt_mr])
      refine kk _ (HR_tk hn hm p0 p1 hS ⟨t0, t1, t2⟩ (fun b j h1 h2 h3 h4 h5 => ?_) ?_ ?_ ?_ ?_ (Or.inl ⟨z, ?_⟩)) (fun b j c => ?_)
      · rw [st_ne h5, st_ne h4, st_ne h3, st_ne h2, st_ne h1]
      · (try simp (disch := omega) only [w32_id, w64_id, inb_eq, st_self, st_ne, pt3, ck_g, ck_am, ck_he, ck_sz, ck_ls, ck_lv, ck_pa, ck_kn, sn_am, sn_he, sn_sz, sn_ls, sn_lv, sn_pa, sn_kn, pt_am, pt_he, pt_sz, pt_ls, pt_lv, pt_pa, pt_kn, ck_lr, ck_vr, ck_pr, sn_lr, sn_vr, sn_pr, pt_lr, pt_vr, pt_pr, pt_sh, ck_sh, pt_to, ck_to, sn_to, ck_h, ck_hl, ck_hg, ck_ht, ck_hm, ck_tr, ck_mr, sn_hl, sn_hg, sn_ht, sn_hm, sn_tr, sn_mr, pt_hl, pt_hg, pt_ht, pt_hm, pt_tr, pt_mr])
      · (try simp (disch := omega) only [w32_id, w64_id, inb_eq, st_self, st_ne, pt3, ck_g, ck_am, ck_he, ck_sz, ck_ls, ck_lv, ck_pa, ck_kn, sn_am, sn_he, sn_sz, sn_ls, sn_lv, sn_pa, sn_kn, pt_am, pt_he, pt_sz, pt_ls, pt_lv, pt_pa, pt_kn, ck_lr, ck_vr, ck_pr, sn_lr, sn_vr, sn_pr, pt_lr, pt_vr, pt_pr, pt_sh, ck_sh, pt_to, ck_to, sn_to, ck_h, ck_hl, ck_hg, ck_ht, ck_hm, ck_tr, ck_mr, sn_hl, sn_hg, sn_ht, sn_hm, sn_tr, sn_mr, pt_hl, pt_hg, pt_ht, pt_hm, pt_tr, pt_mr])
      · (try simp (disch := omega) only [w32_id, w64_id, inb_eq, st_self, st_ne, pt3, ck_g, ck_am, ck_he, ck_sz, ck_ls, ck_lv, ck_pa, ck_kn, sn_am, sn_he, sn_sz, sn_ls, sn_lv, sn_pa, sn_kn, pt_am, pt_he, pt_sz, pt_ls, pt_lv, pt_pa, pt_kn, ck_lr, ck_vr, ck_pr, sn_lr, sn_vr, sn_pr, pt_lr, pt_vr, pt_pr, pt_sh, ck_sh, pt_to, ck_to, sn_to, ck_h, ck_hl, ck_hg, ck_ht, ck_hm, ck_tr, ck_mr, sn_hl, sn_hg, sn_ht, sn_hm, sn_tr, sn_mr, pt_hl, pt_hg, pt_ht, pt_hm, pt_tr, pt_mr])
      · (try simp (disch := omega) only [w32_id, w64_id, inb_eq, st_self, st_ne, pt3, ck_g, ck_am, ck_he, ck_sz, ck_ls, ck_lv, ck_pa, ck_kn, sn_am, sn_he, sn_sz, sn_ls, sn_lv, sn_pa, sn_kn, pt_am, pt_he, pt_sz, pt_ls, pt_lv, pt_pa, pt_kn, ck_lr, ck_vr, ck_pr, sn_lr, sn_vr, sn_pr, pt_lr, pt_vr, pt_pr, pt_sh, ck_sh, pt_to, ck_to, sn_to, ck_h, ck_hl, ck_hg, ck_ht, ck_hm, ck_tr, ck_mr, sn_hl, sn_hg, sn_ht, sn_hm, sn_tr, sn_mr, pt_hl, pt_hg, pt_ht, pt_hm, pt_tr, pt_mr])
      · (try simp (disch := omega) only [w32_id, w64_id, inb_eq, st_self, st_ne, pt3, ck_g, ck_am, ck_he, ck_sz, ck_ls, ck_lv, ck_pa, ck_kn, sn_am, sn_he, sn_sz, sn_ls, sn_lv, sn_pa, sn_kn, pt_am, pt_he, pt_sz, pt_ls, pt_lv, pt_pa, pt_kn, ck_lr, ck_vr, ck_pr, sn_lr, sn_vr, sn_pr, pt_lr, pt_vr, pt_pr, pt_sh, ck_sh, pt_to, ck_to, sn_to, ck_h, ck_hl, ck_hg, ck_ht, ck_hm, ck_tr, ck_mr, sn_hl, sn_hg, sn_ht, sn_hm, sn_tr, sn_mr, pt_hl, pt_hg, pt_ht, pt_hm, pt_tr, pt_mr])
      · (try simp (disch := omega) only [w32_id, w64_id, inb_eq, st_self, st_ne, pt3, ck_g, ck_am, ck_he, ck_sz, ck_ls, ck_lv, ck_pa, ck_kn, sn_am, sn_he, sn_sz, sn_ls, sn_lv, sn_pa, sn_kn, pt_am, pt_he, pt_sz, pt_ls, pt_lv, pt_pa, pt_kn, ck_lr, ck_vr, ck_pr, sn_lr, sn_vr, sn_pr, pt_lr, pt_vr, pt_pr, pt_sh, ck_sh, pt_to, ck_to, sn_to, ck_h, ck_hl, ck_hg, ck_ht, ck_hm, ck_tr, ck_mr, sn_hl, sn_hg, sn_ht, sn_hm, sn_tr, sn_mr, pt_hl, pt_hg, pt_ht, pt_hm, pt_tr, pt_mr])
    · (try simp (disch := omega) only [w32_id, w64_id, inb_eq, st_self, st_ne, pt3, ck_g, ck_am, ck_he, ck_sz, ck_ls, ck_lv, ck_pa, ck_kn, sn_am, sn_he, sn_sz, sn_ls, sn_lv, sn_pa, sn_kn, pt_am, pt_he, pt_sz, pt_ls, pt_lv, pt_pa, pt_kn, ck_lr, ck_vr, ck_pr, sn_lr, sn_vr, sn_pr, pt_lr, pt_vr, pt_pr, pt_sh, ck_sh, pt_to, ck_to, sn_to, ck_h, ck_hl, ck_hg, ck_ht, ck_hm, ck_tr, ck_mr, sn_hl, sn_hg, sn_ht, sn_hm, sn_tr, sn_mr, pt_hl, pt_hg, pt_ht, pt_hm, pt_tr, pt_mr])
      refine kk _ (HR_tk hn hm p0 p1 hS ⟨t0, t1, t2⟩ (fun b j h1 h2 h3 h4 h5 => ?_) ?_ ?_ ?_ ?_ (Or.inr ⟨z, ?_⟩)) (fun b j c => ?_)
      · rw [st_ne h5, st_ne h4, st_ne h3, st_ne h1]
      · (try simp (disch := omega) only [w32_id, w64_id, inb_eq, st_self, st_ne, pt3, ck_g, ck_am, ck_he, ck_sz, ck_ls, ck_lv, ck_pa, ck_kn, sn_am, sn_he, sn_sz, sn_ls, sn_lv, sn_pa, sn_kn, pt_am, pt_he, pt_sz, pt_ls, pt_lv, pt_pa, pt_kn, ck_lr, ck_vr, ck_pr, sn_lr, sn_vr, sn_pr, pt_lr, pt_vr, pt_pr, pt_sh, ck_sh, pt_to, ck_to, sn_to, ck_h, ck_hl, ck_hg, ck_ht, ck_hm, ck_tr, ck_mr, sn_hl, sn_hg, sn_ht, sn_hm, sn_tr, sn_mr, pt_hl, pt_hg, pt_ht, pt_hm, pt_tr, pt_mr])
      · (try simp (disch := omega) only [w32_id, w64_id, inb_eq, st_self, st_ne, pt3, ck_g, ck_am, ck_he, ck_sz, ck_ls, ck_lv, ck_pa, ck_kn, sn_am, sn_he, sn_sz, sn_ls, sn_lv, sn_pa, sn_kn, pt_am, pt_he, pt_sz, pt_ls, pt_lv, pt_pa, pt_kn, ck_lr, ck_vr, ck_pr, sn_lr, sn_vr, sn_pr, pt_lr, pt_vr, pt_pr, pt_sh, ck_sh, pt_to, ck_to, sn_to, ck_h, ck_hl, ck_hg, ck_ht, ck_hm, ck_tr, ck_mr, sn_hl, sn_hg, sn_ht, sn_hm, sn_tr, sn_mr, pt_hl, pt_hg, pt_ht, pt_hm, pt_tr, pt_mr])
      · (try simp (disch := omega) only [w32_id, w64_id, inb_eq, st_self, st_ne, pt3, ck_g, ck_am, ck_he, ck_sz, ck_ls, ck_lv, ck_pa, ck_kn, sn_am, sn_he, sn_sz, sn_ls, sn_lv, sn_pa, sn_kn, pt_am, pt_he, pt_sz, pt_ls, pt_lv, pt_pa, pt_kn, ck_lr, ck_vr, ck_pr, sn_lr, sn_vr, sn_pr, pt_lr, pt_vr, pt_pr, pt_sh, ck_sh, pt_to, ck_to, sn_to, ck_h, ck_hl, ck_hg, ck_ht, ck_hm, ck_tr, ck_mr, sn_hl, sn_hg, sn_ht, sn_hm, sn_tr, sn_mr, pt_hl, pt_hg, pt_ht, pt_hm, pt_tr, pt_mr])
      · (try simp (disch := omega) only [w32_id, w64_id, inb_eq, st_self, st_ne, pt3, ck_g, ck_am, ck_he, ck_sz, ck_ls, ck_lv, ck_pa, ck_kn, sn_am, sn_he, sn_sz, sn_ls, sn_lv, sn_pa, sn_kn, pt_am, pt_he, pt_sz, pt_ls, pt_lv, pt_pa, pt_kn, ck_lr, ck_vr, ck_pr, sn_lr, sn_vr, sn_pr, pt_lr, pt_vr, pt_pr, pt_sh, ck_sh, pt_to, ck_to, sn_to, ck_h, ck_hl, ck_hg, ck_ht, ck_hm, ck_tr, ck_mr, sn_hl, sn_hg, sn_ht, sn_hm, sn_tr, sn_mr, pt_hl, pt_hg, pt_ht, pt_hm, pt_tr, pt_mr])
      · (try simp (disch := omega) only [w32_id, w64_id, inb_eq, st_self, st_ne, pt3, ck_g, ck_am, ck_he, ck_sz, ck_ls, ck_lv, ck_pa, ck_kn, sn_am, sn_he, sn_sz, sn_ls, sn_lv, sn_pa, sn_kn, pt_am, pt_he, pt_sz, pt_ls, pt_lv, pt_pa, pt_kn, ck_lr, ck_vr, ck_pr, sn_lr, sn_vr, sn_pr, pt_lr, pt_vr, pt_pr, pt_sh, ck_sh, pt_to, ck_to, sn_to, ck_h, ck_hl, ck_hg, ck_ht, ck_hm, ck_tr, ck_mr, sn_hl, sn_hg, sn_ht, sn_hm, sn_tr, sn_mr, pt_hl, pt_hg, pt_ht, pt_hm, pt_tr, pt_mr])
      · (try simp (disch := omega) only [w32_id, w64_id, inb_eq, st_self, st_ne, pt3, ck_g, ck_am, ck_he, ck_sz, ck_ls, ck_lv, ck_pa, ck_kn, sn_am, sn_he, sn_sz, sn_ls, sn_lv, sn_pa, sn_kn, pt_am, pt_he, pt_sz, pt_ls, pt_lv, pt_pa, pt_kn, ck_lr, ck_vr, ck_pr, sn_lr, sn_vr, sn_pr, pt_lr, pt_vr, pt_pr, pt_sh, ck_sh, pt_to, ck_to, sn_to, ck_h, ck_hl, ck_hg, ck_ht, ck_hm, ck_tr, ck_mr, sn_hl, sn_hg, sn_ht, sn_hm, sn_tr, sn_mr, pt_hl, pt_hg, pt_ht, pt_hm, pt_tr, pt_mr])
