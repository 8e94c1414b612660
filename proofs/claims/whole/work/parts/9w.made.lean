theorem ckI : ∀ a, isIni a = true → chkM (callee a) = true ∧ okM (callee a) ∧ mR (callee a) = none ∧ pcOf (callee a) 0 = 0 ∧ 1 ≤ mL (callee a) := by
  intro a ha
  have h : a = 0 ∨ a = 5 ∨ a = 11 ∨ a = 17 ∨ a = 32 ∨ a = 38 ∨ a = 46 ∨ a = 55 ∨ a = 63 ∨ a = 68 ∨ a = 77 := by
    simp [isIni, beq_dec] at ha
    omega
  rcases h with rfl | rfl | rfl | rfl | rfl | rfl | rfl | rfl | rfl | rfl | rfl
  · exact ⟨ck_Acts_init, okA2 _ (by decide), rfl, rfl, Nat.le_of_ble_eq_true rfl⟩
  · exact ⟨ck_Eating_init, okA2 _ (by decide), rfl, rfl, Nat.le_of_ble_eq_true rfl⟩
  · exact ⟨ck_Evens_init, okA2 _ (by decide), rfl, rfl, Nat.le_of_ble_eq_true rfl⟩
  · exact ⟨ck_Giving_init, okA2 _ (by decide), rfl, rfl, Nat.le_of_ble_eq_true rfl⟩
  · exact ⟨ck_Hand_init, okA2 _ (by decide), rfl, rfl, Nat.le_of_ble_eq_true rfl⟩
  · exact ⟨ck_Parting_init, okA2 _ (by decide), rfl, rfl, Nat.le_of_ble_eq_true rfl⟩
  · exact ⟨ck_Rings_init, okA2 _ (by decide), rfl, rfl, Nat.le_of_ble_eq_true rfl⟩
  · exact ⟨ck_Shares_init, okA2 _ (by decide), rfl, rfl, Nat.le_of_ble_eq_true rfl⟩
  · exact ⟨ck_Shelf_init, okA2 _ (by decide), rfl, rfl, Nat.le_of_ble_eq_true rfl⟩
  · exact ⟨ck_Tape_init, okA2 _ (by decide), rfl, rfl, Nat.le_of_ble_eq_true rfl⟩
  · exact ⟨ck_Trade_init, okA2 _ (by decide), rfl, rfl, Nat.le_of_ble_eq_true rfl⟩
noncomputable def mdX : Option CS := run 600 2 i_X_init (mT i_X_init) 0 [] [(0, (2, 0))] (1, [], [])
noncomputable def mdA : Option CS := match mdX with | some C => run 600 0 i_M_init (mT i_M_init) 0 [] [(0, (2, (C.1 : Int)))] (C.1 + 1, C.2) | none => none
noncomputable def ckP (L : LG) : Bool := L.all (fun q => decide (q.2.2 = (ptrL q.1).getD q.2.1 (-1))) && (List.range NC).all fun k => (List.range (ptrL k).length).all fun j => decide ((ptrL k).getD j (-1) = -1) || L.any fun q => Nat.beq q.1 k && Nat.beq q.2.1 j
set_option maxRecDepth 100000 in
theorem t_X : (match mdX with | some C => Nat.beq C.1 356 | none => false) = true := by decide +kernel
