/-! ===== words at the start ===== -/
theorem nest_in : ∀ q ∈ nestM, Jvm.Cond.methodLinkNest q.1 q.2.1 q.2.2.1 q.2.2.2 ∈ tables_1 := by
  unfold nestM
  exact List.forall_mem_cons.mpr ⟨in_t1 28 rfl, List.forall_mem_cons.mpr ⟨in_t1 57 rfl, List.forall_mem_cons.mpr ⟨in_t1 175 rfl, List.forall_mem_cons.mpr ⟨in_t1 205 rfl, List.forall_mem_cons.mpr ⟨in_t1 227 rfl, List.forall_mem_cons.mpr ⟨in_t2 6 rfl, List.forall_mem_cons.mpr ⟨in_t2 26 rfl, List.forall_mem_cons.mpr ⟨in_t2 67 rfl, List.forall_mem_cons.mpr ⟨in_t2 98 rfl, List.forall_mem_cons.mpr ⟨in_t2 120 rfl, List.forall_mem_cons.mpr ⟨in_t3 13 rfl, List.forall_mem_cons.mpr ⟨in_t3 177 rfl, List.forall_mem_cons.mpr ⟨in_t3 186 rfl, List.forall_mem_cons.mpr ⟨in_t4 163 rfl, List.forall_mem_cons.mpr ⟨in_t4 204 rfl, fun _ h => absurd h List.not_mem_nil⟩⟩⟩⟩⟩⟩⟩⟩⟩⟩⟩⟩⟩⟩⟩
theorem fln_in : Jvm.Cond.fieldLinkNest "TakenInTurns$Acts" 32 "TakenInTurns" "ABOVE" "[I" "TakenInTurns" ∈ tables_1 := in_t5 13 rfl
theorem ao_g : Jvm.Cond.arrayOver (.object "TakenInTurns$Giving") ∈ tables_1 := in_t1 46 rfl
theorem ao_h : Jvm.Cond.arrayOver (.object "TakenInTurns$Shelf") ∈ tables_1 := in_t2 118 rfl
theorem ao_s : Jvm.Cond.arrayOver (.object "TakenInTurns$Shares") ∈ tables_1 := in_t1 55 rfl
theorem ao_a : Jvm.Cond.arrayOver (.array .int) ∈ tables_1 := in_t1 53 rfl
theorem ls_a : Jvm.Cond.laysStatic "TakenInTurns" "ABOVE" "[I" ∈ tables_1 := in_t5 14 rfl
theorem ls_b : Jvm.Cond.laysStatic "TakenInTurns$Acts" "BODIES" "[I" ∈ tables_1 := in_t5 12 rfl
theorem in_x : Jvm.Cond.initialized "TakenInTurns" ∈ tables_1 := in_t1 1 rfl
theorem in_a : Jvm.Cond.initialized "TakenInTurns$Acts" ∈ tables_1 := in_t1 11 rfl
