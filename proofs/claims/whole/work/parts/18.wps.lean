theorem ald_lt {r i : Int} {a : Nat} {σ : Mem} (h1 : sK r = a) (h2 : 0 ≤ i) (h3 : i < aln (X2 σ) a r) : r < ((X2 σ).2.1 : Int) := by
  cases r with
  | ofNat k =>
    have h1 : (shp k).1 = a := h1
    by_cases z : k < NC
    · show (k : Int) < (NC : Int)
      omega
    · exfalso
      rw [shp_out (by omega)] at h1
      unfold aln at h3
      rw [if_neg (by dsimp only at h1; omega)] at h3
      have : sN (Int.ofNat k) = ((shp k).2 : Int) := rfl
      rw [this, shp_out (by omega)] at h3
      dsimp only at h3
      omega
  | negSucc n => exact Int.lt_of_lt_of_le (Int.negSucc_lt_zero n) (Int.natCast_nonneg _)
theorem beq0 (c : Nat) : (c = 0 ∧ Nat.beq c 0 = true) ∨ (¬ c = 0 ∧ Nat.beq c 0 = false) := by
  cases q : Nat.beq c 0 with
  | true => exact Or.inl ⟨Nat.eq_of_beq_eq_true q, rfl⟩
  | false => exact Or.inr ⟨Nat.ne_of_beq_eq_false q, rfl⟩
theorem take_rev (n : Nat) (stk : List AV) (hs : List AV) (h : stk.drop n = hs) : stk = (stk.take n).reverse.reverse ++ hs := by
  rw [List.reverse_reverse, ← h, List.take_append_drop]
set_option maxHeartbeats 4000000 in
theorem stepP_aw {M : MI} {d : Nat} {K : Int → Mem → Prop} {go : List AI → Nat → List AV → Lo → Mem → Prop} {ai : AI} {rest : List AI} {pos : Nat} {stk : List AV} {loc : Lo} {σ : Mem} (hM : chkM M = true) (hA : ∀ a, a < 250 → okM (callee a)) (hi : (mT M)[pos]? = some ai) (hr : rest = (mT M).drop (pos + 1))
    (hgo : ∀ r q stk loc σ, r = (mT M).drop q → go r q stk loc σ → AW2 M (d + 1) q stk loc σ K) (h : stepP M d K go ai rest pos stk loc σ) : AW2 M (d + 1) pos stk loc σ K := by
  obtain ⟨op, pc, a, b, c, v, tl⟩ := ai
  have nx : ∀ {stk loc σ}, go rest (pos + 1) stk loc σ → AW2 M (d + 1) (pos + 1) stk loc σ K := fun h => hgo _ _ _ _ _ hr h
  have jp : ∀ {stk t}, go ((mT M).drop t) t stk loc σ → AW2 M (d + 1) t stk loc σ K := fun h => hgo _ _ _ _ _ rfl h
  have lt : ∀ {r : Int} {k : Nat}, sK r = k → k < 900 → r < ((X2 σ).2.1 : Int) := fun h h9 => sK_lt h h9
  unfold stepP at h
  dsimp only at h
  have h0 := cb h; clear h; rcases h0 with ⟨rfl, h⟩ | ⟨-, h⟩
  · obtain ⟨t, x, hx⟩ : ∃ t x, lkp loc a = (t, x) := ⟨_, _, rfl⟩
    rw [hx] at h
    have h0 := cbF h; clear h; obtain ⟨e, h⟩ := h0
    have e : t = b := e
    subst e
    exact aw_load hM hi hx (nx h)
  have h0 := cb h; clear h; rcases h0 with ⟨rfl, h⟩ | ⟨-, h⟩
  · exact aw_const hM hi (nx h)
  have h0 := cb h; clear h; rcases h0 with ⟨rfl, h⟩ | ⟨-, h⟩
  · split at h
    · have h0 := chkK_e h; clear h; obtain ⟨h1, h⟩ := h0
      have h0 := cT h; clear h; obtain ⟨h2, h⟩ := h0
      have h2 : a < 100 := Nat.le_of_ble_eq_true h2
      refine aw_getf hM hi h1 h2 (lt h1 (by omega)) ?_
      unfold gfv
      rcases cb h with ⟨q, h⟩ | ⟨q1, h⟩
      · rw [if_pos q]; exact nx h
      · rw [if_neg q1]
        rcases cb h with ⟨q, h⟩ | ⟨q2, h⟩
        · rw [if_pos q]; exact nx h
        · rw [if_neg q2]
          rcases cb h with ⟨q, h⟩ | ⟨q3, h⟩
          · rw [if_pos q]; exact nx h
          · rw [if_neg q3]; exact nx h
    · exact h.elim
  have h0 := cb h; clear h; rcases h0 with ⟨rfl, h⟩ | ⟨-, h⟩
  · split at h
    · have h0 := chkK_e h; clear h; obtain ⟨h1, h⟩ := h0
      have h0 := inb_e h; clear h; obtain ⟨⟨h2, h3⟩, h⟩ := h0
      have h0 := cT h; clear h; obtain ⟨h4, h⟩ := h0
      have h4 : 100 ≤ a := Nat.le_of_ble_eq_true h4
      refine aw_ald hM hi h4 h1 (ald_lt h1 h2 h3) h2 h3 ?_
      unfold alv
      rcases cb h with ⟨q, h⟩ | ⟨q1, h⟩
      · rw [if_pos q]; exact nx h
      · rw [if_neg q1]
        cases q : (Nat.ble 103 a && Nat.blt a 900) with
        | true =>
          rw [q] at h
          simp only [Bool.and_eq_true] at q
          rw [if_pos ⟨Nat.le_of_ble_eq_true q.1, Nat.le_of_ble_eq_true q.2⟩]; exact nx h
        | false =>
          rw [q] at h
          rw [if_neg (fun z => by have z1 := Nat.ble_eq_true_of_le z.1; have z2 : Nat.blt a 900 = true := Nat.ble_eq_true_of_le z.2; rw [z1, z2] at q; cases q)]; exact nx h
    · exact h.elim
  have h0 := cb h; clear h; rcases h0 with ⟨rfl, h⟩ | ⟨-, h⟩
  · split at h
    · refine aw_bin hM hi ?_
      unfold binI
      repeat (rcases cb h with ⟨q, h⟩ | ⟨q, h⟩; · rw [if_pos q]; exact nx h
              rw [if_neg q])
      exact nx h
    · exact h.elim
  have h0 := cb h; clear h; rcases h0 with ⟨rfl, h⟩ | ⟨-, h⟩
  · split at h
    · have h0 := cbF h; clear h; obtain ⟨e, h⟩ := h0
      subst e
      exact aw_store hM hi (nx (putC_e h))
    · exact h.elim
  have h0 := cb h; clear h; rcases h0 with ⟨rfl, h⟩ | ⟨-, h⟩
  · split at h
    · exact aw_ifc hM hi (brc_mono h jp nx)
    · exact h.elim
  have h0 := cb h; clear h; rcases h0 with ⟨rfl, h⟩ | ⟨-, h⟩
  · split at h
    · exact aw_icmp hM hi (brc_mono h jp nx)
    · exact h.elim
  have h0 := cb h; clear h; rcases h0 with ⟨rfl, h⟩ | ⟨-, h⟩
  · have fin : ∀ w, (mR M = some .boolean → w = 0 ∨ w = 1) → stk = topR M w → K w σ → AW2 M (d + 1) pos stk loc σ K := by
      intro w hb hs hk
      rw [hs]
      by_cases q : mR M = some .boolean
      · refine aw_ret hM hi ?_ ⟨σ, rfl, hk⟩
        unfold rgR
        rw [q]
        exact hb q
      · exact aw_retn hM hi q ⟨σ, rfl, hk⟩
    split at h
    · rename_i q; exact fin 0 (fun z => by rw [q] at z; cases z) (by unfold topR pushR; rw [q]) h
    · rename_i q; exact fin _ (fun z => by rw [q] at z; cases z) (by unfold topR pushR; rw [q]) h
    · rename_i q; obtain ⟨h1, h⟩ := boolP_e h; exact fin _ (fun _ => h1) (by unfold topR pushR; rw [q]) h
    · rename_i q; exact fin _ (fun z => by rw [q] at z; cases z) (by unfold topR pushR; rw [q]) h
    · rename_i q; exact fin _ (fun z => by rw [q] at z; cases z) (by unfold topR pushR; rw [q]) h
    · exact h.elim
  have h0 := cb h; clear h; rcases h0 with ⟨rfl, h⟩ | ⟨-, h⟩
  · exact aw_goto hM hi (jp h)
  have h0 := cb h; clear h; rcases h0 with ⟨rfl, h⟩ | ⟨-, h⟩
  · obtain ⟨t, x, hx⟩ : ∃ t x, lkp loc a = (t, x) := ⟨_, _, rfl⟩
    rw [hx] at h
    have h0 := cbF h; clear h; obtain ⟨e, h⟩ := h0
    have e : t = 0 := e
    subst e
    exact aw_iinc hM hi hx (nx (putC_e h))
  have h0 := cb h; clear h; rcases h0 with ⟨rfl, h⟩ | ⟨-, h⟩
  · have h0 := cT h; clear h; obtain ⟨hb, h⟩ := h0
    simp only [Bool.and_eq_true] at hb
    have hb13 : b < 13 := Nat.le_of_ble_eq_true hb.1
    have ha : a < 250 := Nat.le_of_ble_eq_true hb.2
    split at h
    · rename_i r s hdr
      have h0 := cT h; clear h; obtain ⟨hz, h⟩ := h0
      have hz : szS s ≤ 8 := Nat.le_of_ble_eq_true hz
      have h0 := cbF h; clear h; obtain ⟨hln, h⟩ := h0
      have h0 := chkK_e h; clear h; obtain ⟨hk, h⟩ := h0
      rw [take_rev _ _ _ hdr]
      refine aw_callv (mc' := 0) (ms' := 0) hM hi (hA a ha) hb13 hk (lt hk (by omega)) (by rw [List.length_reverse]; exact hln) hz (Nat.le_refl _) (Nat.le_refl _) h (fun w X' _ hX => ?_)
      obtain ⟨σ', rfl, hk2⟩ := hX
      exact nx (pushC_e hk2)
    · exact h.elim
  have h0 := cb h; clear h; rcases h0 with ⟨rfl, h⟩ | ⟨-, h⟩
  · have h0 := cT h; clear h; obtain ⟨hb, h⟩ := h0
    simp only [Bool.and_eq_true] at hb
    have hz : szS (stk.drop v.toNat) ≤ 8 := Nat.le_of_ble_eq_true hb.1
    have ha : a < 250 := Nat.le_of_ble_eq_true hb.2
    have h0 := cbF h; clear h; obtain ⟨hln, h⟩ := h0
    rw [take_rev v.toNat stk _ rfl]
    refine aw_calls (mc' := 0) (ms' := 0) hM hi (hA a ha) (by rw [List.length_reverse]; exact hln) hz (Nat.le_refl _) (Nat.le_refl _) h (fun w X' _ hX => ?_)
    obtain ⟨σ', rfl, hk2⟩ := hX
    exact nx (pushC_e hk2)
  have h0 := cb h; clear h; rcases h0 with ⟨rfl, h⟩ | ⟨-, h⟩
  · split at h
    · have h0 := cb h; clear h; rcases h0 with ⟨rfl, h⟩ | ⟨-, h⟩
      · have h0 := chkK_e h; clear h; obtain ⟨h1, h⟩ := h0
        have h0 := inb_e h; clear h; obtain ⟨⟨h2, h3⟩, h⟩ := h0
        exact aw_iast hM hi h1 (lt h1 (by omega)) h2 h3 (nx h)
      · have h0 := cbF h; clear h; obtain ⟨rfl, h⟩ := h0
        have h0 := chkK_e h; clear h; obtain ⟨h1, h⟩ := h0
        have h0 := inb_e h; clear h; obtain ⟨⟨h2, h3⟩, h⟩ := h0
        have h0 := boolP_e h; clear h; obtain ⟨h4, h⟩ := h0
        exact aw_zast hM hi h1 rfl h2 h3 h4 (nx h)
    · have h0 := cbF h; clear h; obtain ⟨rfl, h⟩ := h0
      have h0 := chkK_e h; clear h; obtain ⟨h1, h⟩ := h0
      have h0 := inb_e h; clear h; obtain ⟨⟨h2, h3⟩, h⟩ := h0
      exact aw_last hM hi h1 rfl h2 h3 (nx h)
    · exact h.elim
  have h0 := cb h; clear h; rcases h0 with ⟨rfl, h⟩ | ⟨-, h⟩
  · split at h
    · rename_i w r s
      obtain ⟨t, x⟩ := w
      have h0 := cbF h; clear h; obtain ⟨e, h⟩ := h0
      dsimp only at e
      subst e
      have h0 := cT h; clear h; obtain ⟨h2, h⟩ := h0
      have h2 : a < 100 := Nat.le_of_ble_eq_true h2
      have h0 := chkK_e h; clear h; obtain ⟨h1, h⟩ := h0
      have h0 := cbN h; clear h; obtain ⟨h3, h⟩ := h0
      have ep : pfv (X2 σ) a b r x = X2 (st σ r b x) := by unfold pfv; rw [if_neg h3]; rfl
      have h0 := cb h; clear h; rcases h0 with ⟨h4, h⟩ | ⟨h4, h⟩
      · have h0 := boolP_e h; clear h; obtain ⟨h5, h⟩ := h0
        refine aw_putf hM hi h1 h2 (lt h1 (by omega)) (fun _ => h5) ?_
        rw [ep]; exact nx h
      · refine aw_putf hM hi h1 h2 (lt h1 (by omega)) (fun z => absurd z h4) ?_
        rw [ep]; exact nx h
    · exact h.elim
  have h0 := cb h; clear h; rcases h0 with ⟨rfl, h⟩ | ⟨-, h⟩
  · exact aw_lconst hM hi (nx h)
  have h0 := cb h; clear h; rcases h0 with ⟨rfl, h⟩ | ⟨-, h⟩
  · split at h
    · have h0 := nzP_e h; clear h; obtain ⟨h1, h⟩ := h0
      refine aw_div hM hi h1 ?_
      rcases beq0 c with ⟨q, e⟩ | ⟨q, e⟩
      · rw [e] at h; rw [if_pos q]; exact nx h
      · rw [e] at h; rw [if_neg q]; exact nx h
    · exact h.elim
  have h0 := cb h; clear h; rcases h0 with ⟨rfl, h⟩ | ⟨-, h⟩
  · split at h
    · refine aw_lbin hM hi ?_
      unfold binL
      repeat (rcases cb h with ⟨q, h⟩ | ⟨q, h⟩; · rw [if_pos q]; exact nx h
              rw [if_neg q])
      exact nx h
    · exact h.elim
  have h0 := cb h; clear h; rcases h0 with ⟨rfl, h⟩ | ⟨-, h⟩
  · split at h
    · have h0 := nzP_e h; clear h; obtain ⟨h1, h⟩ := h0
      refine aw_ldiv hM hi h1 ?_
      rcases beq0 c with ⟨q, e⟩ | ⟨q, e⟩
      · rw [e] at h; rw [if_pos q]; exact nx h
      · rw [e] at h; rw [if_neg q]; exact nx h
    · exact h.elim
  have h0 := cb h; clear h; rcases h0 with ⟨rfl, h⟩ | ⟨-, h⟩
  · split at h
    · refine aw_un hM hi ?_
      unfold unI
      repeat (rcases cb h with ⟨q, h⟩ | ⟨q, h⟩; · rw [if_pos q]; exact nx h
              rw [if_neg q])
      exact nx h
    · exact h.elim
  have h0 := cb h; clear h; rcases h0 with ⟨rfl, h⟩ | ⟨-, h⟩
  · split at h
    · exact aw_i2l hM hi (nx h)
    · exact h.elim
  have h0 := cb h; clear h; rcases h0 with ⟨rfl, h⟩ | ⟨-, h⟩
  · split at h
    · exact aw_l2i hM hi (nx h)
    · exact h.elim
  have h0 := cb h; clear h; rcases h0 with ⟨rfl, h⟩ | ⟨-, h⟩
  · split at h
    · exact aw_lneg hM hi (nx h)
    · exact h.elim
  have h0 := cb h; clear h; rcases h0 with ⟨rfl, h⟩ | ⟨-, h⟩
  · split at h
    · exact aw_lci hM hi (brc_mono h jp jp)
    · exact h.elim
  have h0 := cb h; clear h; rcases h0 with ⟨rfl, h⟩ | ⟨-, h⟩
  · split at h
    · exact aw_ifnull hM hi (brc_mono h jp nx)
    · exact h.elim
  have h0 := cb h; clear h; rcases h0 with ⟨rfl, h⟩ | ⟨-, h⟩
  · split at h
    · exact aw_acmp hM hi h.1.1 h.1.2 (brc_mono h.2 jp nx)
    · exact h.elim
  have h0 := cb h; clear h; rcases h0 with ⟨rfl, h⟩ | ⟨-, h⟩
  · split at h
    · refine aw_tsw hM hi (fun t ht => ?_)
      rw [← ht]
      exact jp (tsw_e tl v h)
    · exact h.elim
  have h0 := cb h; clear h; rcases h0 with ⟨rfl, h⟩ | ⟨-, h⟩
  · split at h
    · have h0 := cbF h; clear h; obtain ⟨h1, h⟩ := h0
      refine aw_lsw hM hi h1 (fun t ht => ?_)
      rw [← ht]
      exact jp (lswP_e tl h)
    · exact h.elim
  have h0 := cb h; clear h; rcases h0 with ⟨rfl, h⟩ | ⟨-, h⟩
  · exact aw_gets hM hi (nx h)
  have h0 := cb h; clear h; rcases h0 with ⟨rfl, h⟩ | ⟨-, h⟩
  · split at h
    · have h0 := cb h; clear h; rcases h0 with ⟨rfl, h⟩ | ⟨h9, h⟩
      · obtain ⟨rfl, h⟩ := h
        exact aw_alen hM hi (Or.inr ⟨rfl, rfl⟩) (nx h)
      · exact aw_alen hM hi (Or.inl ⟨h.1.1, h.1.2, lt rfl h.1.2, h9⟩) (nx h.2)
    · exact h.elim
  have h0 := cb h; clear h; rcases h0 with ⟨rfl, h⟩ | ⟨-, h⟩
  · split at h
    · have h0 := cbN h; clear h; obtain ⟨h1, h⟩ := h0
      exact aw_dup hM hi h1 (nx h)
    · exact h.elim
  have h0 := cb h; clear h; rcases h0 with ⟨rfl, h⟩ | ⟨-, h⟩
  · split at h
    · have h0 := cbN h; clear h; obtain ⟨h1, h⟩ := h0
      have h0 := cbN h; clear h; obtain ⟨h2, h⟩ := h0
      exact aw_dup2 hM hi h1 h2 (nx h)
    · exact h.elim
  have h0 := cb h; clear h; rcases h0 with ⟨rfl, h⟩ | ⟨-, h⟩
  · split at h
    · have h0 := cbN h; clear h; obtain ⟨h1, h⟩ := h0
      exact aw_pop hM hi h1 (nx h)
    · exact h.elim
  have h0 := cb h; clear h; rcases h0 with ⟨rfl, h⟩ | ⟨-, h⟩
  · split at h
    · have h0 := cT h; clear h; obtain ⟨hz, h⟩ := h0
      have hz := Nat.le_of_ble_eq_true hz
      have h0 := cT h; clear h; obtain ⟨h1, h⟩ := h0
      have h0 := chkK_e h; clear h; obtain ⟨h2, h⟩ := h0
      have h0 := chkK_e h; clear h; obtain ⟨h3, h⟩ := h0
      obtain ⟨⟨g1, g2, g3, g4, g5⟩, h⟩ := h
      refine aw_copy hM hi ?_ rfl g1 g2 g3 g4 g5 hz (nx h)
      simp only [Bool.or_eq_true] at h1
      rcases h1 with q | q
      · have q := Nat.eq_of_beq_eq_true q
        exact Or.inl ⟨by rw [h2, q], by rw [h3, q]⟩
      · have q := Nat.eq_of_beq_eq_true q
        exact Or.inr ⟨by rw [h2, q], by rw [h3, q]⟩
    · exact h.elim
  have h0 := cb h; clear h; rcases h0 with ⟨rfl, h⟩ | ⟨-, h⟩
  · split at h
    · obtain ⟨hz, h⟩ := cT h
      simp only [Bool.and_eq_true] at hz
      have hb : b < 2 := Nat.le_of_ble_eq_true hz.1
      refine aw_math2 hM hi hb (Nat.le_of_ble_eq_true hz.2) ?_
      rcases beq0 b with ⟨q, e⟩ | ⟨q, e⟩
      · rw [e] at h; rw [if_pos q]; exact nx h
      · rw [e] at h; rw [if_neg q]; exact nx h
    · obtain ⟨hz, h⟩ := cT h
      have hz := Nat.le_of_ble_eq_true hz
      rcases cb h with ⟨q, h⟩ | ⟨h2, h⟩
      · refine aw_math3 hM hi (Or.inl q) hz ?_
        rw [if_pos q]; exact nx h
      · rcases cb h with ⟨q, h⟩ | ⟨h3, h⟩
        · refine aw_math3 hM hi (Or.inr q) hz ?_
          rw [if_neg h2]; exact nx h
        · obtain ⟨h4, h⟩ := cT h
          simp only [Bool.and_eq_true] at h4
          refine aw_math1 hM hi (Nat.eq_of_beq_eq_true h4.1) ?_ (nx h)
          have := Nat.le_of_ble_eq_true h4.2
          show (if (1 : Nat) = 1 then 2 else 1) + szS _ ≤ 8
          rw [if_pos rfl]
          omega
    · obtain ⟨h4, h⟩ := cT h
      simp only [Bool.and_eq_true] at h4
      exact aw_math1 hM hi (Nat.eq_of_beq_eq_true h4.1) (Nat.le_of_ble_eq_true h4.2) (nx h)
    · exact h.elim
  have h0 := cbF h; clear h; obtain ⟨rfl, h⟩ := h0
  exact aw_null hM hi (nx h)
theorem wp_aw {M : MI} {cuts : List (Nat × List Nat)} {d : Nat} {K : Int → Mem → Prop} (hM : chkM M = true) (hA : ∀ a, a < 250 → okM (callee a)) : ∀ (n : Nat) (rest : List AI) (pos : Nat) (stk : List AV) (loc : Lo) (σ : Mem), rest = (mT M).drop pos → wp M cuts d K n rest pos stk loc σ → AW2 M (d + 1) pos stk loc σ K
  | 0, _, _, _, _, _, _, h => h.elim
  | n + 1, [], _, _, _, _, _, h => h.elim
  | n + 1, ai :: rest, pos, stk, loc, σ, hr, h => by
    have hi : (mT M)[pos]? = some ai := by
      have e : ((mT M).drop pos)[0]? = some ai := by rw [← hr]; rfl
      rw [List.getElem?_drop] at e
      simpa using e
    have hr2 : rest = (mT M).drop (pos + 1) := by
      have e : ((mT M).drop pos).drop 1 = rest := by rw [← hr]; rfl
      rw [List.drop_drop] at e
      exact e.symm
    refine stepP_aw hM hA hi hr2 (fun r q stk loc σ hrq hg => ?_) h
    split at hg
    · exact hg.elim
    · split at hg
      · exact aw_sub pick_mem hg
      · exact wp_aw hM hA n _ q stk loc σ hrq hg
