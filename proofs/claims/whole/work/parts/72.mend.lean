-- ===== a table mended: purely, and by the model
def TP (s : Mem) (b n m : Int) (F : Int → Int) : Prop := ∀ p t, 0 ≤ p → p < n → 0 ≤ t → t < m → s b (8 * p + t) = F (8 * p + t)
def FB (n m : Int) (F : Int → Int) : Prop := ∀ p t, 0 ≤ p → p < n → 0 ≤ t → t < m → 0 ≤ F (8 * p + t) ∧ F (8 * p + t) ≤ 60
def rowS (m : Int) (F : Int → Int) (p : Int) : Int := sm (fun t => F (8 * p + t)) m.toNat 0 0
def colS (n : Int) (F : Int → Int) (t : Int) : Int := sm (fun p => F (8 * p + t)) n.toNat 0 0
def lessF (F : Int → Int) (k o : Int) : Int → Int := if 0 < o then up F k (F k - minI o (F k)) else F
def dropF (m : Int) (lv : Int → Int → Int) (p : Int) (F : Int → Int) : Int → Int := fun x => if x / 8 = p ∧ x % 8 < m ∧ lv p (x % 8) < 0 then 0 else F x
def cutR (m R : Int) (ls : Int → Int → Int) (p : Int) : Nat → (Int → Int) → Int → Int
  | 0, F => F
  | i + 1, F => cutR m R ls p i (lessF F (8 * p + ls p i) (rowS m F p - 60 * R))
def mRows (m R : Int) (lv ls : Int → Int → Int) (sz : Int → Int) : Nat → Int → (Int → Int) → Int → Int
  | 0, _, F => F
  | q + 1, p, F => mRows m R lv ls sz q (p + 1) (cutR m R ls p (sz p).toNat (dropF m lv p F))
def cutC (n : Int) (am : Int → Int) (t : Int) : Nat → (Int → Int) → Int → Int
  | 0, F => F
  | p + 1, F => cutC n am t p (lessF F (8 * p + t) (colS n F t - 60 * am t))
def mCols (n : Int) (am : Int → Int) : Nat → Int → (Int → Int) → Int → Int
  | 0, _, F => F
  | q + 1, t, F => mCols n am q (t + 1) (cutC n am t n.toNat F)
def mendF (n m R : Int) (lv ls : Int → Int → Int) (sz am : Int → Int) (F : Int → Int) : Int → Int := mCols n am m.toNat 0 (mRows m R lv ls sz n.toNat 0 F)
theorem minI_r {o v : Int} (h : 0 < o) (v0 : 0 ≤ v) : 0 ≤ minI o v ∧ minI o v ≤ v ∧ minI o v ≤ o := by unfold minI; split <;> omega
theorem FB_less {n m k o : Int} {F : Int → Int} (h : FB n m F) : FB n m (lessF F k o) := by
  unfold lessF
  split
  · rename_i ho
    intro p t p0 p1 t0 t1
    have hq := h p t p0 p1 t0 t1
    by_cases z : 8 * p + t = k
    · rw [← z, up_s]
      have := minI_r ho hq.1
      omega
    · rw [up_n z]; exact hq
  · exact h
theorem dropF_at {m p p' t : Int} {lv : Int → Int → Int} {F : Int → Int} (t0 : 0 ≤ t) (t8 : t < 8) : dropF m lv p F (8 * p' + t) = if p' = p ∧ t < m ∧ lv p t < 0 then 0 else F (8 * p' + t) := by
  unfold dropF
  rw [show (8 * p' + t) / 8 = p' by omega, show (8 * p' + t) % 8 = t by omega]
theorem FB_drop {n m p : Int} {lv : Int → Int → Int} {F : Int → Int} (m8 : m ≤ 8) (h : FB n m F) : FB n m (dropF m lv p F) := by
  intro a t a0 a1 t0 t1
  rw [dropF_at t0 (by omega)]
  split
  · decide
  · exact h a t a0 a1 t0 t1
theorem FB_cutR {n m R p : Int} {ls : Int → Int → Int} : ∀ (i : Nat) (F : Int → Int), FB n m F → FB n m (cutR m R ls p i F)
  | 0, _, h => h
  | i + 1, _, h => FB_cutR i _ (FB_less h)
theorem FB_cutC {n m t : Int} {am : Int → Int} : ∀ (i : Nat) (F : Int → Int), FB n m F → FB n m (cutC n am t i F)
  | 0, _, h => h
  | i + 1, _, h => FB_cutC i _ (FB_less h)
theorem FB_mRows {n m R : Int} {lv ls : Int → Int → Int} {sz : Int → Int} (m8 : m ≤ 8) : ∀ (q : Nat) (p : Int) (F : Int → Int), FB n m F → FB n m (mRows m R lv ls sz q p F)
  | 0, _, _, h => h
  | q + 1, p, _, h => FB_mRows m8 q (p + 1) _ (FB_cutR _ _ (FB_drop m8 h))
theorem FB_mCols {n m : Int} {am : Int → Int} : ∀ (q : Nat) (t : Int) (F : Int → Int), FB n m F → FB n m (mCols n am q t F)
  | 0, _, _, h => h
  | q + 1, t, _, h => FB_mCols q (t + 1) _ (FB_cutC _ _ h)
theorem FB_mend {n m R : Int} {lv ls : Int → Int → Int} {sz am F : Int → Int} (m8 : m ≤ 8) (h : FB n m F) : FB n m (mendF n m R lv ls sz am F) := FB_mCols _ _ _ (FB_mRows m8 _ _ _ h)
theorem rowS_r {n m p : Int} {F : Int → Int} (m0 : 0 ≤ m) (h : FB n m F) (p0 : 0 ≤ p) (p1 : p < n) : 0 ≤ rowS m F p ∧ rowS m F p ≤ m * 60 := by
  have := sm_le (f := fun t => F (8 * p + t)) (lo := 0) (hi := 60) m.toNat 0 0 (fun j j0 j1 => h p j p0 p1 j0 (by omega))
  unfold rowS
  rw [show ((m.toNat : Nat) : Int) = m by omega] at this
  omega
theorem colS_r {n m t : Int} {F : Int → Int} (n0 : 0 ≤ n) (h : FB n m F) (t0 : 0 ≤ t) (t1 : t < m) : 0 ≤ colS n F t ∧ colS n F t ≤ n * 60 := by
  have := sm_le (f := fun p => F (8 * p + t)) (lo := 0) (hi := 60) n.toNat 0 0 (fun j j0 j1 => h j t j0 (by omega) t0 t1)
  unfold colS
  rw [show ((n.toNat : Nat) : Int) = n by omega] at this
  omega
theorem TP_less {s : Mem} {b n m p t o : Int} {F : Int → Int} (m8 : m ≤ 8) (t0 : 0 ≤ t) (t1 : t < m) (h : TP s b n m F) : TP (st s b (8 * p + t) (if 0 < o then F (8 * p + t) - minI o (F (8 * p + t)) else F (8 * p + t))) b n m (lessF F (8 * p + t) o) := by
  intro a u a0 a1 u0 u1
  unfold lessF
  by_cases z : 8 * a + u = 8 * p + t
  · rw [z, st_self]
    split
    · rw [up_s]
    · rfl
  · rw [st_ne (by omega), h a u a0 a1 u0 u1]
    split
    · rw [up_n z]
    · rfl
theorem M_less_ok {d : Nat} {K : Int → Mem → Prop} {s : Mem} {k o v : Int} (k0 : 0 ≤ k) (k1 : k < 56) (hv : s 398 k = v) (v0 : 0 ≤ v) (v1 : v ≤ 60) (o0 : -100000 ≤ o) (o1 : o ≤ 100000) (q : K 0 (st s 398 k (if 0 < o then v - minI o v else v))) : AM2 i_M_less (d + 1) [(2, 356), (0, k), (0, o)] s K := by
  refine e_M_less fun _ _ => inb_i k0 k1 ?_
  rw [hv]
  unfold minI at q
  refine ⟨fun c => inb_i k0 k1 (inb_i k0 k1 ⟨fun c2 => inb_i k0 k1 ?_, fun c2 => inb_i k0 k1 ?_⟩), fun c => inb_i k0 k1 ⟨fun c2 => inb_i k0 k1 ?_, fun c2 => inb_i k0 k1 ?_⟩⟩
  · rw [if_pos (by omega), if_pos c] at q
    rw [w32_id (by omega) (by omega)]; exact q
  · rw [if_pos (by omega), if_pos c] at q
    rw [w32_id (by omega) (by omega), show v - 0 = v - v by omega]; exact q
  · rw [if_pos c2, if_neg c] at q
    rw [w32_id (by omega) (by omega)]; exact q
  · rw [if_neg c2] at q
    rw [w32_id (by omega) (by omega), show v - 0 = v by omega]; exact q
theorem M_rowS_ok {d : Nat} {K : Int → Mem → Prop} {s : Mem} {g p n m : Int} {F : Int → Int} (g0 : 0 ≤ g) (g5 : g ≤ 5) (em : s 358 g = m) (m0 : 1 ≤ m ∧ m ≤ 8) (p0 : 0 ≤ p) (p1 : p < n) (n7 : n ≤ 7) (hT : TP s 398 n m F) (hF : FB n m F) (k : K (rowS m F p) s) : AM2 i_M_sumOf (d + 1) [(2, 356), (0, g), (0, p)] s K := by
  have lp : ∀ (q : Nat) (t a : Int), 0 ≤ t → t + q = m → 0 ≤ a → a ≤ t * 60 → K (sm (fun t => F (8 * p + t)) q t a) s → AW2 i_M_sumOf (d + 1) 4 [] [(0, (2, 356)), (1, (0, g)), (2, (0, p)), (3, (0, a)), (4, (0, t))] s K := by
    intro q
    induction q with
    | zero => intro t a t0 e a0 a1 h; exact s_M_sumOf_4 (inb_i g0 (by omega) (brF_i (by omega) h))
    | succ q ih =>
      intro t a t0 e a0 a1 h
      have hf := hF p t p0 p1 t0 (by omega)
      refine s_M_sumOf_4 (inb_i g0 (by omega) (brT_i (by omega) ?_))
      rw [w32_id (x := 8 * p) (by omega) (by omega), w32_id (x := 8 * p + t) (by omega) (by omega), w32_id (x := t + 1) (by omega) (by omega), hT p t p0 p1 t0 (by omega), w32_id (x := a + F (8 * p + t)) (by omega) (by omega)]
      exact inb_i (by omega) (by omega) (ih (t + 1) _ (by omega) (by omega) (by omega) (by omega) h)
  exact e_M_sumOf fun _ _ => lp m.toNat 0 0 (Int.le_refl 0) (by omega) (Int.le_refl 0) (by omega) k
theorem M_colS_ok {d : Nat} {K : Int → Mem → Prop} {s : Mem} {g t n m : Int} {F : Int → Int} (g0 : 0 ≤ g) (g5 : g ≤ 5) (en : s 357 g = n) (n0 : 1 ≤ n ∧ n ≤ 7) (t0 : 0 ≤ t) (t1 : t < m) (m8 : m ≤ 8) (hT : TP s 398 n m F) (hF : FB n m F) (k : K (colS n F t) s) : AM2 i_M_sumOver (d + 1) [(2, 356), (0, g), (0, t)] s K := by
  have lp : ∀ (q : Nat) (p a : Int), 0 ≤ p → p + q = n → 0 ≤ a → a ≤ p * 60 → K (sm (fun p => F (8 * p + t)) q p a) s → AW2 i_M_sumOver (d + 1) 4 [] [(0, (2, 356)), (1, (0, g)), (2, (0, t)), (3, (0, a)), (4, (0, p))] s K := by
    intro q
    induction q with
    | zero => intro p a p0 e a0 a1 h; exact s_M_sumOver_4 (inb_i g0 (by omega) (brF_i (by omega) h))
    | succ q ih =>
      intro p a p0 e a0 a1 h
      have hf := hF p t p0 (by omega) t0 t1
      refine s_M_sumOver_4 (inb_i g0 (by omega) (brT_i (by omega) ?_))
      rw [w32_id (x := 8 * p) (by omega) (by omega), w32_id (x := 8 * p + t) (by omega) (by omega), w32_id (x := p + 1) (by omega) (by omega), hT p t p0 (by omega) t0 t1, w32_id (x := a + F (8 * p + t)) (by omega) (by omega)]
      exact inb_i (by omega) (by omega) (ih (p + 1) _ (by omega) (by omega) (by omega) (by omega) h)
  exact e_M_sumOver fun _ _ => lp n.toNat 0 0 (Int.le_refl 0) (by omega) (Int.le_refl 0) (by omega) k
