-- ===== feed
def byteU (v i : Int) : Int := andI (ushI v (8 * i)) 255
def byteS (v i : Int) : Int := andI (shrI v (8 * i)) 255
theorem byte_r (x : Int) : 0 ≤ andI x 255 ∧ andI x 255 ≤ 255 := by
  have h : (Int32.ofInt x &&& Int32.ofInt 255).toBitVec.toNat ≤ 255 := by
    rw [Int32.toBitVec_and, BitVec.toNat_and]
    exact Nat.le_trans Nat.and_le_right (by decide)
  have e : andI x 255 = ((Int32.ofInt x &&& Int32.ofInt 255).toBitVec.toNat : Int) := by
    show (Int32.ofInt x &&& Int32.ofInt 255).toBitVec.toInt = _
    rw [BitVec.toInt_eq_toNat_cond, if_pos (by omega)]
  rw [e]
  omega
theorem byte_bv (x : BitVec 32) : ∀ s : Nat, s ≤ 24 → (x.sshiftRight s) &&& 255#32 = (x >>> s) &&& 255#32 := by
  intro s hs
  apply BitVec.eq_of_getLsbD_eq
  intro i hi
  have e : (255#32 : BitVec 32).getLsbD i = decide (i < 8) := by
    have : ∀ i : Nat, i < 32 → (255#32 : BitVec 32).getLsbD i = decide (i < 8) := by decide
    exact this i hi
  rw [BitVec.getLsbD_and, BitVec.getLsbD_and, e]
  by_cases q : i < 8
  · rw [BitVec.getLsbD_sshiftRight, BitVec.getLsbD_ushiftRight]
    simp [q, hi, show s + i < 32 by omega, show ¬ 32 ≤ i by omega]
  · simp [q]
theorem byte_eq (v k : Int) (h0 : 0 ≤ k) (h3 : k ≤ 3) : byteU v k = byteS v k := by
  have key : ∀ s : Int, (∃ n : Nat, n ≤ 24 ∧ (∀ x : Int32, (x >>> (Int32.ofInt s &&& 31)).toBitVec = x.toBitVec.sshiftRight n) ∧ (∀ x : Int32, ((x.toUInt32 >>> ((Int32.ofInt s).toUInt32 &&& 31)).toInt32).toBitVec = x.toBitVec >>> n)) → andI (ushI v s) 255 = andI (shrI v s) 255 := by
    rintro s ⟨n, hn, h1, h2⟩
    unfold andI ushI shrI
    rw [emI, emI]
    congr 1
    apply Int32.toBitVec.inj
    rw [Int32.toBitVec_and, Int32.toBitVec_and, h1, h2]
    exact (byte_bv _ n hn).symm
  unfold byteU byteS
  rcases (by omega : k = 0 ∨ k = 1 ∨ k = 2 ∨ k = 3) with rfl | rfl | rfl | rfl
  · exact key _ ⟨0, by decide, fun x => rfl, fun x => rfl⟩
  · exact key _ ⟨8, by decide, fun x => rfl, fun x => rfl⟩
  · exact key _ ⟨16, by decide, fun x => rfl, fun x => rfl⟩
  · exact key _ ⟨24, by decide, fun x => rfl, fun x => rfl⟩
theorem X_feed_loop {d : Nat} {K : Int → Mem → Prop} {σ : Mem} {n v L : Int} (hL : 0 ≤ L) (h1 : 1 ≤ n) (h4 : n ≤ 4) (hLn : L + n ≤ 120) (fin : ∀ σ' : Mem, (∀ b j, ¬ (b = 2 ∧ L ≤ j) → ¬ (b = 1 ∧ j = 1) → σ' b j = σ b j) → σ' 1 1 = L + n → (∀ i, 0 ≤ i → i < n → σ' 2 (L + i) = byteU v i) → K (L + n) σ') :
    ∀ (m : Nat) (k : Int) (σk : Mem), k + m = n → 0 ≤ k → (∀ b j, ¬ (b = 2 ∧ L ≤ j) → ¬ (b = 1 ∧ j = 1) → σk b j = σ b j) → σk 1 1 = L + k → (∀ i, 0 ≤ i → i < k → σk 2 (L + i) = byteU v i) →
    AW2 i_X_feed (d + 2) 19 [] [(0, (2, 0)), (1, (0, n)), (2, (0, v)), (3, (0, k))] σk K := by
  intro m
  induction m with
  | zero =>
    intro k σk hk h0 hf hl ht
    refine s_X_feed_19 ⟨fun c => absurd c (by omega), fun _ => ?_⟩
    rw [show k = n by omega] at hl ht
    rw [hl]
    exact fin σk hf hl ht
  | succ m ih =>
    intro k σk hk h0 hf hl ht
    refine s_X_feed_19 ⟨fun _ => ?_, fun c => absurd (by omega) c⟩
    rw [w32_id (by omega) (by omega), w32_id (by omega) (by omega)]
    refine e_Tape_add fun _ => ⟨fun _ => inb_i (by omega) (by omega) ?_, fun c => absurd (by omega) c⟩
    refine ih (k + 1) _ (by omega) (by omega) (fun b j a1 a2 => ?_) ?_ (fun i i0 i1 => ?_)
    · rw [st_ne (by omega), st_ne (by omega)]
      exact hf b j a1 a2
    · rw [st_self, st_ne (by omega), hl, w32_id (by omega) (by omega)]
      omega
    · rw [st_ne (by omega), hl]
      by_cases q : i = k
      · subst q
        rw [st_self]
        rfl
      · rw [st_ne (by omega)]
        exact ht i i0 (by omega)
theorem M_feed_loop {d : Nat} {K : Int → Mem → Prop} {σ : Mem} {n v L : Int} (hL : 0 ≤ L) (h1 : 1 ≤ n) (h4 : n ≤ 4) (hLn : L + n ≤ 120) (fin : ∀ σ' : Mem, (∀ b j, ¬ (b = 367 ∧ L ≤ j) → ¬ (b = 356 ∧ j = 13) → σ' b j = σ b j) → σ' 356 13 = L + n → (∀ i, 0 ≤ i → i < n → σ' 367 (L + i) = byteS v i) → K (L + n) σ') :
    ∀ (m : Nat) (k : Int) (σk : Mem), k + m = n → 0 ≤ k → (∀ b j, ¬ (b = 367 ∧ L ≤ j) → ¬ (b = 356 ∧ j = 13) → σk b j = σ b j) → σk 356 13 = L + k → (∀ i, 0 ≤ i → i < k → σk 367 (L + i) = byteS v i) →
    AW2 i_M_feed (d + 1) 17 [] [(0, (2, 356)), (1, (0, n)), (2, (0, v)), (3, (0, k))] σk K := by
  intro m
  induction m with
  | zero =>
    intro k σk hk h0 hf hl ht
    refine s_M_feed_17 ⟨fun c => absurd c (by omega), fun _ => ?_⟩
    rw [show k = n by omega] at hl ht
    rw [hl]
    exact fin σk hf hl ht
  | succ m ih =>
    intro k σk hk h0 hf hl ht
    refine s_M_feed_17 ⟨fun _ => inb_i (by omega) (by omega) ?_, fun c => absurd (by omega) c⟩
    rw [w32_id (x := k + 1) (by omega) (by omega), w32_id (x := 8 * k) (by omega) (by omega)]
    refine ih (k + 1) _ (by omega) (by omega) (fun b j a1 a2 => ?_) ?_ (fun i i0 i1 => ?_)
    · rw [st_ne (by omega), st_ne (by omega)]
      exact hf b j a1 a2
    · rw [st_self, st_ne (by omega), hl, w32_id (by omega) (by omega)]
      omega
    · rw [st_ne (by omega), hl]
      by_cases q : i = k
      · subst q
        rw [st_self]
        rfl
      · rw [st_ne (by omega)]
        exact ht i i0 (by omega)
/-- the two tapes hold the same -/
def I_tape (σ : Mem) : Prop := σ 1 1 = σ 356 13 ∧ 0 ≤ σ 356 13 ∧ σ 356 13 ≤ 120 ∧ ∀ i, 0 ≤ i → i < σ 356 13 → σ 2 i = σ 367 i ∧ 0 ≤ σ 367 i ∧ σ 367 i ≤ 255
theorem call_feed {d : Nat} {σ : Mem} {n v : Int} {P : Int → Int → Mem → Prop} (hT : I_tape σ) (h : ∀ r σ2, (∀ b j, ¬ b = 2 → ¬ b = 367 → ¬ (b = 1 ∧ j = 1) → ¬ (b = 356 ∧ j = 13) → σ2 b j = σ b j) → I_tape σ2 → P r r σ2) :
    AM2 i_X_feed (d + 2) [(2, 0), (0, n), (0, v)] σ (fun w1 σ1 => AM2 i_M_feed (d + 2) [(2, 356), (0, n), (0, v)] σ1 (fun w2 σ2 => P w1 w2 σ2)) := by
  obtain ⟨t1, t2, t3, t4⟩ := hT
  have same : ∀ r, P r r σ := fun r => h r σ (fun _ _ _ _ _ _ => rfl) ⟨t1, t2, t3, t4⟩
  have bad : ∀ r, ¬ (1 ≤ n ∧ n ≤ 4) → r = -1 → AM2 i_M_feed (d + 2) [(2, 356), (0, n), (0, v)] σ (fun w2 σ2 => P r w2 σ2) := fun r hn hr => e_M_feed fun _ _ => M_in_ok (fun a b => absurd ⟨a, b⟩ hn) (fun _ => br0 (by rw [hr]; exact same _))
  refine e_X_feed fun _ _ => ⟨fun c => bad _ (by omega) rfl, fun c1 => ⟨fun c => bad _ (by omega) rfl, fun c2 => ?_⟩⟩
  rw [t1, w32_id (by omega) (by omega)]
  have go : ∀ σ1 : Mem, σ1 356 13 = σ 356 13 → ∀ {K : Int → Mem → Prop}, (120 < σ 356 13 + n → K (-3) σ1) → (¬ 120 < σ 356 13 + n → AW2 i_M_feed (d + 2) 17 [] [(0, (2, 356)), (1, (0, n)), (2, (0, v)), (3, (0, 0))] σ1 K) → AM2 i_M_feed (d + 2) [(2, 356), (0, n), (0, v)] σ1 K := by
    intro σ1 e K k1 k2
    refine e_M_feed fun _ _ => M_in_ok (fun a b => br1 ?_) (fun c => absurd ⟨by omega, by omega⟩ c)
    rw [e, w32_id (by omega) (by omega)]
    exact ⟨k1, k2⟩
  refine ⟨fun c => go σ rfl (fun _ => same _) (fun z => absurd c z), fun c => ?_⟩
  refine X_feed_loop (σ := σ) (L := σ 356 13) (by omega) (by omega) (by omega) (by omega) (fun σ1 f1 l1 x1 => ?_) n.toNat 0 σ (by omega) (by omega) (fun _ _ _ _ => rfl) (by omega) (fun i i0 i1 => by omega)
  have e1 : σ1 356 13 = σ 356 13 := f1 _ _ (by omega) (by omega)
  refine go σ1 e1 (fun z => absurd z c) (fun _ => ?_)
  refine M_feed_loop (σ := σ1) (L := σ 356 13) (by omega) (by omega) (by omega) (by omega) (fun σ2 f2 l2 x2 => ?_) n.toNat 0 σ1 (by omega) (by omega) (fun _ _ _ _ => rfl) (by omega) (fun i i0 i1 => by omega)
  refine h _ σ2 (fun b j a1 a2 a3 a4 => ?_) ⟨?_, ?_, ?_, fun i i0 i1 => ?_⟩
  · rw [f2 b j (by omega) a4, f1 b j (by omega) a3]
  · rw [l2, f2 _ _ (by omega) (by omega), l1]
  · omega
  · omega
  · by_cases q : i < σ 356 13
    · rw [f2 2 i (by omega) (by omega), f1 2 i (by omega) (by omega), f2 367 i (by omega) (by omega), f1 367 i (by omega) (by omega)]
      exact t4 i i0 q
    · obtain ⟨k, rfl⟩ : ∃ k, i = σ 356 13 + k := ⟨i - σ 356 13, by omega⟩
      rw [f2 2 _ (by omega) (by omega), x1 k (by omega) (by omega), x2 k (by omega) (by omega)]
      exact ⟨byte_eq v k (by omega) (by omega), byte_r _⟩
