theorem ckI : ∀ a, isIni a = true → chkM (callee a) = true ∧ okM (callee a) ∧ mR (callee a) = none ∧ pcOf (callee a) 0 = 0 ∧ 1 ≤ mL (callee a) := by
  intro a ha
  have h : a = 0 ∨ a = 5 ∨ a = 11 ∨ a = 17 ∨ a = 32 ∨ a = 38 ∨ a = 46 ∨ a = 55 ∨ a = 63 ∨ a = 68 ∨ a = 77 := by
    simp [isIni, beq_dec] at ha
    omega
  rcases h with rfl | rfl | rfl | rfl | rfl | rfl | rfl | rfl | rfl | rfl | rfl
  · exact ⟨ck_Acts_init, okA2 _ (by decide), rfl, rfl, Nat.le_of_ble_eq_true rfl⟩
  · exact ⟨ck_Eating_init, okA2 _ (by decide), rfl, rfl, Nat.le_of_ble_eq_true rfl⟩
  · exact ⟨ck_Evens_init, okA2 _ (by decide), rfl, rfl, Nat.le_of_ble_eq_true rfl⟩
  · exact ⟨ck_Giving_init, okA2 _ (by decide), rfl, rfl, Nat.le_of_ble_eq_true rfl⟩
  · exact ⟨ck_Hand_init, okA2 _ (by decide), rfl, rfl, Nat.le_of_ble_eq_true rfl⟩
  · exact ⟨ck_Parting_init, okA2 _ (by decide), rfl, rfl, Nat.le_of_ble_eq_true rfl⟩
  · exact ⟨ck_Rings_init, okA2 _ (by decide), rfl, rfl, Nat.le_of_ble_eq_true rfl⟩
  · exact ⟨ck_Shares_init, okA2 _ (by decide), rfl, rfl, Nat.le_of_ble_eq_true rfl⟩
  · exact ⟨ck_Shelf_init, okA2 _ (by decide), rfl, rfl, Nat.le_of_ble_eq_true rfl⟩
  · exact ⟨ck_Tape_init, okA2 _ (by decide), rfl, rfl, Nat.le_of_ble_eq_true rfl⟩
  · exact ⟨ck_Trade_init, okA2 _ (by decide), rfl, rfl, Nat.le_of_ble_eq_true rfl⟩
theorem drop_at {M : MI} {pos : Nat} {ai : AI} {rs : List AI} (h : ai :: rs = (mT M).drop pos) : (mT M)[pos]? = some ai ∧ rs = (mT M).drop (pos + 1) := by
  constructor
  · have h1 : ((mT M).drop pos)[0]? = some ai := by rw [← h]; rfl
    rw [List.getElem?_drop] at h1
    exact h1
  · rw [← List.drop_drop, ← h]; rfl
theorem run_ok {z : Mem} (hz : hz0 z) : ∀ (n d : Nat) (M : MI) (rs : List AI) (pos : Nat) (stk : List AV) (loc : Lo) (C C' : CS), run n d M rs pos stk loc C = some C' → chkM M = true → mR M = none → rs = (mT M).drop pos → goodC C →
    goodC C' ∧ C.1 ≤ C'.1 ∧ ∀ (n0 mc ms : Nat) (K : Int → HS → Prop), n0 ≤ C.1 → C'.1 - n0 ≤ mc → SS C'.1 - SS n0 ≤ ms → K 0 (XC z C') → AW M (d + 1) mc ms pos stk loc (XC z C) (C.1 - n0) (SS C.1 - SS n0) K := by
  intro n
  induction n with
  | zero => intro d M rs pos stk loc C C' h; cases h
  | succ n ih =>
    intro d M rs pos stk loc C C' h hM hret hrs hg
    cases rs with
    | nil => cases h
    | cons ai rs =>
      obtain ⟨hi, hrs2⟩ := drop_at hrs
      obtain ⟨op, pc, a, b, c, v, tl⟩ := ai
      unfold run at h
      dsimp only at h
      cases q : Nat.beq op 34 with
      | true =>
        rw [q, cond_true] at h
        obtain rfl := bq q
        split at h
        · cases h
          refine ⟨hg, Nat.le_refl _, fun n0 mc ms K h0 h1 h2 hK => ?_⟩
          have e : topR M 0 = [] := by unfold topR pushR; rw [hret]
          have h9 := aw_ret (d := d + 1) (mc := mc) (ms := ms) (loc := loc) (cells := C.1 - n0) (slots := SS C.1 - SS n0) (w := 0) hM hi (by unfold rgR; rw [hret]; trivial) hK
          rw [e] at h9
          exact h9
        · cases h
      | false =>
      rw [q, cond_false] at h
      clear q
      cases q : Nat.beq op 33 with
      | true =>
        rw [q, cond_true] at h
        obtain rfl := bq q
        split at h
        · rename_i d' t r s
          cases e : (Nat.beq t 2 && decide (0 ≤ r) && isIni a && decide (v = 0) && Nat.ble (szS s) 8) with
          | false => rw [e] at h; cases h
          | true =>
            rw [e, cond_true] at h
            simp only [Bool.and_eq_true, decide_eq_true_eq] at e
            obtain ⟨⟨⟨⟨e1, e2⟩, e3⟩, rfl⟩, e5⟩ := e
            obtain rfl := bq e1
            have e5 := Nat.le_of_ble_eq_true e5
            obtain ⟨c1, c2, c3, c4, c5⟩ := ckI a e3
            split at h
            · rename_i C1 hC1
              obtain ⟨g1, l1, k1⟩ := ih d' (callee a) _ 0 [] _ C C1 hC1 c1 c3 rfl hg
              obtain ⟨g2, l2, k2⟩ := ih (d' + 1) M rs (pos + 1) s loc C1 C' h hM hret hrs2 g1
              refine ⟨g2, Nat.le_trans l1 l2, fun n0 mc ms K h0 h1 h2 hK => ?_⟩
              have m0 := SS_mono h0
              have m1 := SS_mono l1
              have m2 := SS_mono l2
              refine aw_calli (as := []) (mc' := C1.1 - C.1) (ms' := SS C1.1 - SS C.1) (K' := fun w X => X = XC z C1) hM hi c2 c3 e2 rfl e5 (by omega) (by omega) (am_aw c2 (by show 1 ≤ _; exact c5) c4 fun _ => ?_) fun w X' _ hX => ?_
              · have h9 := k1 C.1 (C1.1 - C.1) (SS C1.1 - SS C.1) (fun w X => X = XC z C1) (Nat.le_refl _) (Nat.le_refl _) (Nat.le_refl _) rfl
                rw [Nat.sub_self, Nat.sub_self] at h9
                exact h9
              · subst hX
                have e6 : pushR (callee a) w s = s := by unfold pushR; rw [c3]
                rw [e6]
                have h9 := k2 n0 mc ms K (Nat.le_trans h0 l1) h1 h2 hK
                rw [show C.1 - n0 + (C1.1 - C.1) = C1.1 - n0 by omega, show SS C.1 - SS n0 + (SS C1.1 - SS C.1) = SS C1.1 - SS n0 by omega]
                exact h9
            · cases h
        · cases h
      | false =>
      rw [q, cond_false] at h
      split at h
      · rename_i pos' stk' loc' C1 hst
        obtain ⟨g1, l1, k1⟩ := cst_ok hz hM hg hi hst
        have hrs3 : cond (Nat.beq pos' (pos + 1)) rs ((mT M).drop pos') = (mT M).drop pos' := by
          cases e : Nat.beq pos' (pos + 1) with
          | false => rfl
          | true => rw [bq e]; exact hrs2
        obtain ⟨g2, l2, k2⟩ := ih d M _ pos' stk' loc' C1 C' h hM hret hrs3 g1
        refine ⟨g2, Nat.le_trans l1 l2, fun n0 mc ms K h0 h1 h2 hK => ?_⟩
        have m2 := SS_mono l2
        exact k1 d n0 mc ms K h0 (by omega) (by omega) (k2 n0 mc ms K (Nat.le_trans h0 l1) h1 h2 hK)
      · cases h
