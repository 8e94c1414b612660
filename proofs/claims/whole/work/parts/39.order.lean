-- ===== orders told as digits
theorem sm_snoc {f : Int → Int} : ∀ (m : Nat) (i a : Int), sm f (m + 1) i a = sm f m i a + f (i + m)
  | 0, i, a => by unfold sm; unfold sm; simp
  | m + 1, i, a => by
    rw [show sm f (m + 1 + 1) i a = sm f (m + 1) (i + 1) (a + f i) from rfl, sm_snoc m (i + 1) (a + f i), show sm f (m + 1) i a = sm f m (i + 1) (a + f i) from rfl]
    congr 2
    omega
theorem sm_set {f f' : Int → Int} {d : Int} : ∀ (m : Nat) (i a : Int), i ≤ d → d < i + m → (∀ j, i ≤ j → j < i + m → ¬ j = d → f j = f' j) → sm f m i a = sm f' m i a + f d - f' d
  | 0, i, a, h1, h2, _ => by omega
  | m + 1, i, a, h1, h2, h => by
    rw [sm_snoc, sm_snoc]
    by_cases q : d = i + m
    · rw [sm_congr m i a (fun j a b => h j a (by omega) (by omega)), q]; omega
    · rw [sm_set m i a h1 (by omega) (fun j a b c => h j a (by omega) c), h (i + m) (by omega) (by omega) (fun z => q z.symm)]; omega
/-- the class reads digits from the last one on: are they each of 0 .. n - 1 once? -/
def rC (n le : Int) : Nat → Int → Int → Bool
  | 0, rest, _ => decide (rest = 0)
  | m + 1, rest, seen => if rest % 10 - le < 0 then false else if n ≤ rest % 10 - le then false else if bt seen (rest % 10 - le) then false else rC n le m (rest / 10) (orI seen (shlI 1 (rest % 10 - le)))
def rM (mask : Int) : Nat → Int → Int → Bool
  | 0, rest, seen => decide (rest = 0 ∧ seen = mask)
  | m + 1, rest, seen => rM mask m (rest / 10) (orI seen (shlI 1 (rest % 10)))
/-- the digit at a place, of the last m ones -/
def dgt : Nat → Int → Int → Int
  | 0, _, _ => 0
  | m + 1, rest, i => if i = m then rest % 10 else dgt m (rest / 10) i
theorem dgt_top {m : Nat} {rest : Int} : dgt (m + 1) rest m = rest % 10 := if_pos rfl
theorem dgt_low {m : Nat} {rest i : Int} (h : ¬ i = m) : dgt (m + 1) rest i = dgt m (rest / 10) i := if_neg h
def PM (n : Int) (o : Int → Int) : Prop := ∀ i, 0 ≤ i → i < n → (0 ≤ o i ∧ o i < n) ∧ ∀ j, 0 ≤ j → j < n → o j = o i → j = i
theorem rC_perm {n le : Int} (hn : n ≤ 8) : ∀ (m : Nat) (rest seen : Int), 0 ≤ rest → 0 ≤ seen → seen < 65536 → rC n le m rest seen = true → ∀ i : Int, 0 ≤ i → i < (m : Int) → (0 ≤ dgt m rest i - le ∧ dgt m rest i - le < n) ∧ bt seen (dgt m rest i - le) = false ∧ ∀ j : Int, 0 ≤ j → j < (m : Int) → dgt m rest j = dgt m rest i → j = i := by
  intro m
  induction m with
  | zero => intro rest seen _ _ _ _ i i0 i1; omega
  | succ m ih =>
    intro rest seen r0 s0 s1 h i i0 i1
    unfold rC at h
    by_cases c1 : rest % 10 - le < 0
    · rw [if_pos c1] at h; cases h
    · rw [if_neg c1] at h
      by_cases c2 : n ≤ rest % 10 - le
      · rw [if_pos c2] at h; cases h
      · rw [if_neg c2] at h
        cases c3 : bt seen (rest % 10 - le) with
        | true => rw [c3] at h; cases h
        | false =>
          rw [c3] at h
          have ho := bit_or (b := seen) (t := rest % 10 - le) s0 s1 (by omega) (by omega)
          have ih2 := ih (rest / 10) _ (by omega) ho.1.1 ho.1.2 h
          have hlow : ∀ k, 0 ≤ k → k < (m : Int) → dgt (m + 1) rest k = dgt m (rest / 10) k := fun k k0 k1 => by rw [dgt_low (by omega)]
          have htop : dgt (m + 1) rest m = rest % 10 := dgt_top
          have hne : ∀ k, 0 ≤ k → k < (m : Int) → ¬ dgt m (rest / 10) k = rest % 10 := fun k k0 k1 z => by
            have := (ih2 k k0 k1).2.1
            rw [z, ho.2 _ (by omega)] at this
            simp at this
          by_cases c : i = m
          · rw [c, htop]
            refine ⟨by omega, c3, fun j j0 j1 e => ?_⟩
            by_cases z : j = m
            · exact z
            · rw [hlow j j0 (by omega)] at e
              exact absurd e (hne j j0 (by omega))
          · have h3 := ih2 i i0 (by omega)
            rw [hlow i i0 (by omega)]
            refine ⟨h3.1, ?_, fun j j0 j1 e => ?_⟩
            · have := h3.2.1
              rw [ho.2 _ h3.1.1] at this
              rw [Bool.or_eq_false_iff] at this
              exact this.1
            · by_cases z : j = m
              · rw [z, htop] at e
                exact absurd e.symm (hne i i0 (by omega))
              · rw [hlow j j0 (by omega)] at e
                exact h3.2.2 j j0 (by omega) e
/-- how many of le .. le + n - 1 are not among the bits -/
def mis (n le seen : Int) : Int := sm (fun u => if bt seen u then 0 else 1) n.toNat le 0
theorem mis_or {n le seen d : Int} (le0 : 0 ≤ le) (s0 : 0 ≤ seen) (s1 : seen < 65536) (d0 : 0 ≤ d) (d1 : d < 16) : mis n le seen ≤ mis n le (orI seen (shlI 1 d)) + (if le ≤ d ∧ d < le + n ∧ bt seen d = false then 1 else 0) := by
  have ho := bit_or (b := seen) (t := d) s0 s1 d0 d1
  unfold mis
  by_cases c : le ≤ d ∧ d < le + n
  · rw [sm_set (f := fun u => if bt seen u then 0 else 1) (f' := fun u => if bt (orI seen (shlI 1 d)) u then 0 else 1) (d := d) n.toNat le 0 c.1 (by omega) (fun j a b e => by
      show (if bt seen j then (0 : Int) else 1) = if bt (orI seen (shlI 1 d)) j then 0 else 1
      rw [ho.2 j (by omega), decide_eq_false e, Bool.or_false])]
    (try dsimp only)
    rw [ho.2 d d0, decide_eq_true rfl, Bool.or_true, if_pos rfl]
    cases q : bt seen d with
    | true => simp
    | false => simp [c.1, c.2]
  · rw [sm_congr (f := fun u => if bt seen u then 0 else 1) (f' := fun u => if bt (orI seen (shlI 1 d)) u then 0 else 1) n.toNat le 0 (fun j a b => by
      show (if bt seen j then (0 : Int) else 1) = if bt (orI seen (shlI 1 d)) j then 0 else 1
      rw [ho.2 j (by omega), decide_eq_false (show ¬ j = d by omega), Bool.or_false])]
    split <;> omega
/-- the bits le .. le + n - 1, no others -/
def isMask (n le mask : Int) : Prop := 0 ≤ mask ∧ mask < 65536 ∧ ∀ u, 0 ≤ u → u < 16 → bt mask u = decide (le ≤ u ∧ u < le + n)
theorem rM_mis {n le mask : Int} (le0 : 0 ≤ le) (hm : isMask n le mask) (hn : n ≤ 8) (hle : le ≤ 1) : ∀ (m : Nat) (rest seen : Int), 0 ≤ rest → 0 ≤ seen → seen < 65536 → rM mask m rest seen = true → mis n le seen ≤ m := by
  intro m
  induction m with
  | zero =>
    intro rest seen r0 s0 s1 h
    have h2 := of_decide_eq_true h
    unfold mis
    rw [sm_congr (f' := fun _ => 0) n.toNat le 0 (fun j a b => by
      show (if bt seen j then (0 : Int) else 1) = 0
      rw [h2.2, hm.2.2 j (by omega) (by omega), decide_eq_true ⟨a, by omega⟩, if_pos rfl])]
    have := (sm_le (f := fun _ => 0) (lo := 0) (hi := 0) n.toNat le 0 (fun _ _ _ => ⟨Int.le_refl 0, Int.le_refl 0⟩)).2
    simpa using this
  | succ m ih =>
    intro rest seen r0 s0 s1 h
    have ho := bit_or (b := seen) (t := rest % 10) s0 s1 (by omega) (by omega)
    have h1 := ih (rest / 10) _ (by omega) ho.1.1 ho.1.2 h
    have h2 := mis_or (n := n) (le := le) (seen := seen) (d := rest % 10) le0 s0 s1 (by omega) (by omega)
    split at h2 <;> omega
theorem rC_rM {n le mask : Int} (le0 : 0 ≤ le) (hle : le ≤ 1) (hn : n ≤ 8) (hm : isMask n le mask) : ∀ (m : Nat) (rest s t : Int), 0 ≤ rest → (0 ≤ s ∧ s < 65536) → (0 ≤ t ∧ t < 65536) → (∀ u, 0 ≤ u → u < 16 → bt t u = (decide (le ≤ u ∧ u < le + n) && bt s (u - le))) → mis n le t = m → rC n le m rest s = rM mask m rest t := by
  intro m
  induction m with
  | zero =>
    intro rest s t r0 hs ht hb hmi
    show decide (rest = 0) = decide (rest = 0 ∧ t = mask)
    have e : t = mask := by
      refine bit_ext ht.1 ht.2 hm.1 hm.2.1 (fun u u0 u1 => ?_)
      rw [hm.2.2 u u0 u1]
      by_cases c : le ≤ u ∧ u < le + n
      · rw [decide_eq_true c]
        cases q : bt t u with
        | true => rfl
        | false =>
          exfalso
          unfold mis at hmi
          rw [sm_set (f := fun u => if bt t u then 0 else 1) (f' := fun v => if v = u then 0 else (if bt t v then 0 else 1)) (d := u) n.toNat le 0 c.1 (by omega) (fun j _ _ e => by (try dsimp only); rw [if_neg e])] at hmi
          have := (sm_le (f := fun v => if v = u then 0 else (if bt t v then 0 else 1)) (lo := 0) (hi := 1) n.toNat le 0 (fun j _ _ => by (try dsimp only); split <;> (try split) <;> omega)).1
          (try dsimp only at hmi)
          rw [q, if_pos rfl, if_neg (by decide)] at hmi
          omega
      · rw [hb u u0 u1, decide_eq_false c, Bool.false_and]
    simp [e]
  | succ m ih =>
    intro rest s t r0 hs ht hb hmi
    have ho := bit_or (b := t) (t := rest % 10) ht.1 ht.2 (by omega) (by omega)
    have hmo := mis_or (n := n) (le := le) (seen := t) (d := rest % 10) le0 ht.1 ht.2 (by omega) (by omega)
    have bad : ¬ (le ≤ rest % 10 ∧ rest % 10 < le + n ∧ bt t (rest % 10) = false) → rM mask (m + 1) rest t = false := fun c => by
      rw [if_neg c] at hmo
      cases q : rM mask (m + 1) rest t with
      | false => rfl
      | true =>
        have := rM_mis le0 hm hn hle m (rest / 10) _ (by omega) ho.1.1 ho.1.2 q
        omega
    unfold rC
    by_cases c1 : rest % 10 - le < 0
    · rw [if_pos c1, bad (by omega)]
    · rw [if_neg c1]
      by_cases c2 : n ≤ rest % 10 - le
      · rw [if_pos c2, bad (by omega)]
      · rw [if_neg c2]
        have hb1 := hb (rest % 10) (by omega) (by omega)
        rw [decide_eq_true (show le ≤ rest % 10 ∧ rest % 10 < le + n by omega), Bool.true_and] at hb1
        cases c3 : bt s (rest % 10 - le) with
        | true => rw [if_pos rfl, bad (by rw [hb1, c3]; simp)]
        | false =>
          rw [if_neg (by decide)]
          rw [hb1] at hmo
          have ho2 := bit_or (b := s) (t := rest % 10 - le) hs.1 hs.2 (by omega) (by omega)
          refine ih (rest / 10) _ _ (by omega) ho2.1 ho.1 (fun u u0 u1 => ?_) ?_
          · rw [ho.2 u u0, hb u u0 u1]
            by_cases c : le ≤ u ∧ u < le + n
            · rw [decide_eq_true c, Bool.true_and, Bool.true_and, ho2.2 (u - le) (by omega)]
              congr 1
              simp only [decide_eq_decide]
              omega
            · rw [decide_eq_false c, Bool.false_and, Bool.false_and, decide_eq_false (show ¬ u = rest % 10 by omega)]; rfl
          · rw [if_pos ⟨by omega, by omega, c3⟩] at hmo
            have up : mis n le (orI t (shlI 1 (rest % 10))) ≤ mis n le t - 1 := by
              unfold mis
              rw [sm_set (f := fun u => if bt t u then 0 else 1) (f' := fun u => if bt (orI t (shlI 1 (rest % 10))) u then 0 else 1) (d := rest % 10) n.toNat le 0 (by omega) (by omega) (fun j a b e => by
                show (if bt t j then (0 : Int) else 1) = if bt (orI t (shlI 1 (rest % 10))) j then 0 else 1
                rw [ho.2 j (by omega), decide_eq_false e, Bool.or_false])]
              (try dsimp only)
              rw [ho.2 _ (by omega), decide_eq_true rfl, Bool.or_true, if_pos rfl, hb1, c3, if_neg (by decide)]
              omega
            omega
theorem mis_0 {n le : Int} (n0 : 0 ≤ n) : mis n le 0 = n := by
  unfold mis
  rw [sm_congr (f' := fun _ => 1) n.toNat le 0 (fun j _ _ => by (try dsimp only); rw [bit_0, if_neg (by decide)])]
  have := sm_le (f := fun _ => 1) (lo := 1) (hi := 1) n.toNat le 0 (fun _ _ _ => ⟨Int.le_refl 1, Int.le_refl 1⟩)
  omega
theorem rC_eq {n le mask num : Int} (le0 : 0 ≤ le) (hle : le ≤ 1) (n0 : 0 ≤ n) (hn : n ≤ 8) (hm : isMask n le mask) (h0 : 0 ≤ num) : rC n le n.toNat num 0 = rM mask n.toNat num 0 :=
  rC_rM le0 hle hn hm n.toNat num 0 0 h0 ⟨Int.le_refl 0, by decide⟩ ⟨Int.le_refl 0, by decide⟩ (fun u _ _ => by rw [bit_0, bit_0, Bool.and_false]) (by rw [mis_0 n0]; omega)
/-- is a number a line of 0 .. n - 1 by its digits less le? -/
def isL (n le num : Int) : Bool := decide (0 ≤ num) && rC n le n.toNat num 0
theorem isL_PM {n le num : Int} (n0 : 0 ≤ n) (hn : n ≤ 8) (h : isL n le num = true) : 0 ≤ num ∧ PM n (fun i => dgt n.toNat num i - le) := by
  unfold isL at h
  rw [Bool.and_eq_true] at h
  have h0 := of_decide_eq_true h.1
  refine ⟨h0, fun i i0 i1 => ?_⟩
  have hh := rC_perm hn n.toNat num 0 h0 (Int.le_refl 0) (by decide) h.2
  have h2 := hh i i0 (by omega)
  exact ⟨h2.1, fun j j0 j1 e => h2.2.2 j j0 (by omega) (by dsimp only at e; omega)⟩
theorem X_readLine_ok {d : Nat} {K : Int → Mem → Prop} {σ : Mem} {num n le l : Int} (n0 : 0 ≤ n) (n8 : n ≤ 8) (le0 : 0 ≤ le) (le1 : le ≤ 1) (hk : sK l = 100) (hl : n ≤ sN l) (k1 : ∀ σ2 : Mem, isL n le num = true → (∀ i, 0 ≤ i → i < n → σ2 l i = dgt n.toNat num i - le) → (∀ b j, ¬ (b = l ∧ 0 ≤ j ∧ j < n) → σ2 b j = σ b j) → K 1 σ2) (k0 : ∀ σ2 : Mem, isL n le num = false → (∀ b j, ¬ (b = l ∧ 0 ≤ j ∧ j < n) → σ2 b j = σ b j) → K 0 σ2) : AM2 i_X_readLine (d + 1) [(0, num), (0, n), (0, le), (2, l)] σ K := by
  refine e_X_readLine fun hnum _ _ => ⟨fun c => k0 σ (by unfold isL; rw [decide_eq_false (by omega)]; rfl) (fun _ _ _ => rfl), fun c => ⟨by rw [hk]; exact ⟨by decide, by decide⟩, fun z => by omega, fun _ => ?_⟩⟩
  unfold r32 at hnum
  rw [w32_id (by omega) (by omega)]
  have hL : isL n le num = rC n le n.toNat num 0 := by unfold isL; rw [decide_eq_true (by omega), Bool.true_and]
  have go : ∀ (m : Nat) (rest s : Int) (σ1 : Mem), (m : Int) ≤ n → 0 ≤ rest → rest ≤ 2147483647 → 0 ≤ s → s < 65536 → isL n le num = rC n le m rest s → (∀ i : Int, 0 ≤ i → i < (m : Int) → dgt n.toNat num i = dgt m rest i) → (∀ i : Int, (m : Int) ≤ i → i < n → σ1 l i = dgt n.toNat num i - le) → (∀ b j, ¬ (b = l ∧ 0 ≤ j ∧ j < n) → σ1 b j = σ b j) → AW2 i_X_readLine (d + 1) 16 [] [(1, (0, n)), (2, (0, le)), (3, (2, l)), (4, (0, rest)), (5, (0, s)), (6, (0, (m : Int) - 1))] σ1 K := by
    intro m
    induction m with
    | zero =>
      intro rest s σ1 hm r0 r1 s0 s1 e hd hx hf
      refine s_X_readLine_16 ⟨fun _ => ⟨fun z => k1 σ1 (by rw [e]; exact decide_eq_true z) (fun i i0 i1 => hx i (by omega) i1) hf, fun z => k0 σ1 (by rw [e]; exact decide_eq_false z) hf⟩, fun z => by omega⟩
    | succ m ih =>
      intro rest s σ1 hm r0 r1 s0 s1 e hd hx hf
      have e1 : ((m + 1 : Nat) : Int) - 1 = m := by omega
      rw [e1]
      refine s_X_readLine_16 ⟨fun z => by omega, fun _ => ?_⟩
      unfold rC at e
      rw [remI_nn r0 r1 (by decide) (by decide), divI_nn r0 r1 (by decide) (by decide), w32_id (x := rest % 10 - le) (by omega) (by omega), w32_id (x := (m : Int) + -1) (by omega) (by omega)]
      refine ⟨fun c1 => k0 σ1 (by rw [e, if_pos c1]) hf, fun c1 => ⟨fun c2 => ?_, fun c2 => k0 σ1 (by rw [e, if_neg c1, if_pos (by omega)]) hf⟩⟩
      rw [if_neg c1, if_neg (show ¬ n ≤ rest % 10 - le by omega)] at e
      rw [bit_e s0 (by omega) (by omega) (by omega)]
      cases q : bt s (rest % 10 - le) with
      | true => rw [q, if_pos rfl] at e; exact ⟨fun z => absurd z (by decide), fun _ => k0 σ1 e hf⟩
      | false =>
        rw [q, if_neg (by decide)] at e
        have ho := bit_or (b := s) (t := rest % 10 - le) s0 s1 (by omega) (by omega)
        refine ⟨fun _ => chkK_i hk (inb_i (by omega) (by omega) ?_), fun z => absurd rfl z⟩
        rw [show (m : Int) + -1 = (m : Int) - 1 by omega]
        refine ih (rest / 10) _ _ (by omega) (by omega) (by omega) ho.1.1 ho.1.2 e (fun i i0 i1 => ?_) (fun i i0 i1 => ?_) (fun b j z => by rw [st_ne (by omega), hf b j z])
        · rw [hd i i0 (by omega)]; rw [dgt_low (by omega)]
        · by_cases z : i = m
          · rw [z, st_self, hd m (by omega) (by omega)]; rw [dgt_top]
          · rw [st_ne (by omega)]; exact hx i (by omega) i1
  have := go n.toNat num 0 σ (by omega) (by omega) (by omega) (Int.le_refl 0) (by decide) hL (fun _ _ _ => rfl) (fun i i0 i1 => by omega) (fun _ _ _ => rfl)
  rw [show ((n.toNat : Nat) : Int) - 1 = n - 1 by omega] at this
  exact this
theorem ones_mask {n : Int} (n0 : 0 ≤ n) (n8 : n ≤ 8) : isMask n 0 (shlI 1 n - 1) := by
  have h := bit_ones n0 (by omega)
  refine ⟨h.1.1, by omega, fun u u0 u1 => ?_⟩
  rw [h.2 u u0 u1]
  simp only [decide_eq_decide]
  omega
theorem M_isOrder_ok {d : Nat} {K : Int → Mem → Prop} {σ : Mem} {g num : Int} (g0 : 0 ≤ g) (g5 : g ≤ 5) (n1 : 1 ≤ σ 357 g) (n7 : σ 357 g ≤ 7) (k : ∀ σ2 : Mem, (0 ≤ num → ∀ i, 0 ≤ i → i < σ 357 g → σ2 379 i = dgt (σ 357 g).toNat num i) → (∀ b j, ¬ (b = 379 ∧ 0 ≤ j ∧ j < σ 357 g) → σ2 b j = σ b j) → K (if isL (σ 357 g) 0 num then 1 else 0) σ2) : AM2 i_M_isOrder (d + 1) [(2, 356), (0, g), (0, num)] σ K := by
  refine e_M_isOrder fun _ hnum => inb_i g0 (by omega) ?_
  unfold r32 at hnum
  generalize hn : σ 357 g = n at *
  rw [w32_id (by omega) (by omega)]
  have hones := bit_ones (n := n) (by omega) (by omega)
  by_cases c0 : 0 ≤ num
  · have hL : isL n 0 num = rM (shlI 1 n - 1) n.toNat num 0 := by unfold isL; rw [decide_eq_true c0, Bool.true_and, rC_eq (Int.le_refl 0) (by decide) (by omega) (by omega) (ones_mask (by omega) (by omega)) c0]
    have go : ∀ (m : Nat) (rest s : Int) (σ1 : Mem), (m : Int) ≤ n → 0 ≤ rest → rest ≤ 2147483647 → 0 ≤ s → s < 65536 → isL n 0 num = rM (shlI 1 n - 1) m rest s → (∀ i : Int, 0 ≤ i → i < (m : Int) → dgt n.toNat num i = dgt m rest i) → (∀ i : Int, (m : Int) ≤ i → i < n → σ1 379 i = dgt n.toNat num i) → (∀ b j, ¬ (b = 379 ∧ 0 ≤ j ∧ j < n) → σ1 b j = σ b j) → AW2 i_M_isOrder (d + 1) 13 [] [(0, (2, 356)), (2, (0, num)), (3, (0, n)), (4, (0, rest)), (5, (0, s)), (6, (0, (m : Int) - 1))] σ1 K := by
      intro m
      induction m with
      | zero =>
        intro rest s σ1 hm r0 r1 s0 s1 e hd hx hf
        have kk := k σ1 (fun _ i i0 i1 => hx i (by omega) i1) hf
        rw [e] at kk
        unfold rM at kk
        refine s_M_isOrder_13 ⟨fun _ => ⟨fun z => by omega, fun _ => ?_⟩, fun z => by omega⟩
        rw [w32_id (x := shlI 1 n - 1) (by omega) (by omega)]
        refine ⟨fun z => ⟨fun y => ?_, fun y => ?_⟩, fun z => ?_⟩
        · rw [decide_eq_true ⟨z, y⟩, if_pos rfl] at kk; exact kk
        · rw [decide_eq_false (fun q => y q.2), if_neg (by decide)] at kk; exact kk
        · rw [decide_eq_false (fun q => z q.1), if_neg (by decide)] at kk; exact kk
      | succ m ih =>
        intro rest s σ1 hm r0 r1 s0 s1 e hd hx hf
        have e1 : ((m + 1 : Nat) : Int) - 1 = m := by omega
        rw [e1]
        have ho := bit_or (b := s) (t := rest % 10) s0 s1 (by omega) (by omega)
        refine s_M_isOrder_13 ⟨fun z => by omega, fun _ => inb_i (by omega) (by omega) ⟨fun z => by omega, fun _ => inb_i (by omega) (by omega) ?_⟩⟩
        rw [remI_nn r0 r1 (by decide) (by decide), divI_nn r0 r1 (by decide) (by decide), st_self, w32_id (x := (m : Int) + -1) (by omega) (by omega), show (m : Int) + -1 = (m : Int) - 1 by omega]
        refine ih (rest / 10) _ _ (by omega) (by omega) (by omega) ho.1.1 ho.1.2 e (fun i i0 i1 => ?_) (fun i i0 i1 => ?_) (fun b j z => by rw [st_ne (by omega), hf b j z])
        · rw [hd i i0 (by omega)]; rw [dgt_low (by omega)]
        · by_cases z : i = m
          · rw [z, st_self, hd m (by omega) (by omega)]; rw [dgt_top]
          · rw [st_ne (by omega)]; exact hx i (by omega) i1
    have := go n.toNat num 0 σ (by omega) (by omega) (by omega) (Int.le_refl 0) (by decide) hL (fun _ _ _ => rfl) (fun i i0 i1 => by omega) (fun _ _ _ => rfl)
    rw [show ((n.toNat : Nat) : Int) - 1 = n - 1 by omega] at this
    exact this
  · have go : ∀ (m : Nat) (rest s : Int) (σ1 : Mem), (m : Int) ≤ n → (∀ b j, ¬ (b = 379 ∧ 0 ≤ j ∧ j < n) → σ1 b j = σ b j) → AW2 i_M_isOrder (d + 1) 13 [] [(0, (2, 356)), (2, (0, num)), (3, (0, n)), (4, (0, rest)), (5, (0, s)), (6, (0, (m : Int) - 1))] σ1 K := by
      intro m
      induction m with
      | zero =>
        intro rest s σ1 hm hf
        have kk := k σ1 (fun z => absurd z c0) hf
        unfold isL at kk
        rw [decide_eq_false c0, Bool.false_and, if_neg (by decide)] at kk
        exact s_M_isOrder_13 ⟨fun _ => ⟨fun z => kk, fun z => by omega⟩, fun z => by omega⟩
      | succ m ih =>
        intro rest s σ1 hm hf
        have e1 : ((m + 1 : Nat) : Int) - 1 = m := by omega
        rw [e1]
        refine s_M_isOrder_13 ⟨fun z => by omega, fun _ => inb_i (by omega) (by omega) ⟨fun z => ?_, fun z => by omega⟩⟩
        rw [w32_id (x := (m : Int) + -1) (by omega) (by omega), show (m : Int) + -1 = (m : Int) - 1 by omega]
        exact ih _ _ _ (by omega) (fun b j z => by rw [st_ne (by omega), hf b j z])
    have := go n.toNat num 0 σ (by omega) (fun _ _ _ => rfl)
    rw [show ((n.toNat : Nat) : Int) - 1 = n - 1 by omega] at this
    exact this
