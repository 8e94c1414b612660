-- ===== MY PART: from the law's entry to its end
theorem cls_len : cls.length = 13 := rfl
theorem kn_ex {s : State} {args : Array Value} (hts : ∀ w ∈ W0, w.before args s = true) (c : Nat) : ∃ r : ClassId × (Nat → Nat), ∀ q, cls[c]? = some q → u_Kn s q.1 q.2.1 q.2.2 r.1 r.2 := by
  by_cases hc : c < 13
  · obtain ⟨cC, iS, h⟩ := u_known hts (cls_in c hc) (hts _ (inst_ok c hc).1)
    refine ⟨(cC, iS), fun q hq => ?_⟩
    have e : clsOf c = q := by
      unfold clsOf
      rw [List.getD_eq_getElem?_getD, hq]
      rfl
    rw [← e]
    exact h
  · refine ⟨(0, fun _ => 0), fun q hq => ?_⟩
    have h1 := (List.getElem?_eq_some_iff.mp hq).1
    rw [cls_len] at h1
    omega
theorem kn_all {s : State} {args : Array Value} (hts : ∀ w ∈ W0, w.before args s = true) : ∃ D : va_G, ∀ (c : Nat) (q : vw_C), cls[c]? = some q → u_Kn s q.1 q.2.1 q.2.2 (D.1 c) (D.2 c) :=
  ⟨(fun c => (Classical.choose (kn_ex hts c)).1, fun c => (Classical.choose (kn_ex hts c)).2), fun c q hq => Classical.choose_spec (kn_ex hts c) q hq⟩
theorem arr_pr {s : State} {args : Array Value} {ty : FieldType} (h : (Jvm.Cond.arrayClass ty).before args s = true) : ∃ cA : ClassId, ArrOfT s cA ty ∧ s.vm.findClass ("[" ++ ty.toString) = some cA := by
  obtain ⟨cA, kA, comp, h1, h2, h3⟩ := Cond.arrayClass_spec h
  exact ⟨cA, fun N z => ⟨(fun k h => by cases h), kA, h2, comp, h3⟩, h1⟩
theorem arr_ob {s : State} {C : String} (h : va_AO C s) : ∃ cA : ClassId, ArrOfT s cA (.object C) ∧ va_RA s cA (.object C) := by
  obtain ⟨comp, c, k, h1, h2, h3, h4, h5⟩ := Cond.arrayOver_spec h
  exact ⟨c, fun N z => ⟨(fun k h => by cases h), k, h3, comp, h4⟩, k, comp, h3, h4, h1, h5⟩
theorem arr_ar {s : State} (h : va_Nw (.arrayOver (.array .int)) s) : ∃ cA : ClassId, ArrOfT s cA (.array .int) ∧ va_RA s cA (.array .int) := by
  obtain ⟨comp, c, k, h1, h2, h3, h4, h5⟩ := arrayOverA_spec h
  exact ⟨c, fun N z => ⟨(fun k h => by cases h), k, h3, comp, h4⟩, h5⟩
theorem tys_K {g : Gx} {s : State} (h0 : ArrOfT s (gA g 0) .int ∧ va_RA s (gA g 0) .int) (h1 : ArrOfT s (gA g 1) .long ∧ va_RA s (gA g 1) .long) (h2 : ArrOfT s (gA g 2) .boolean ∧ va_RA s (gA g 2) .boolean) (h3 : ArrOfT s (gA g 3) (.object "TakenInTurns$Giving") ∧ va_RA s (gA g 3) (.object "TakenInTurns$Giving")) (h4 : ArrOfT s (gA g 4) (.object "TakenInTurns$Shelf") ∧ va_RA s (gA g 4) (.object "TakenInTurns$Shelf")) (h5 : ArrOfT s (gA g 5) (.object "TakenInTurns$Shares") ∧ va_RA s (gA g 5) (.object "TakenInTurns$Shares")) (h6 : ArrOfT s (gA g 6) (.array .int) ∧ va_RA s (gA g 6) (.array .int)) :
    ∀ (k : Nat) (q : ClassId × FieldType), (tysL g)[k]? = some q → ArrOfT s q.1 q.2 ∧ va_RA s q.1 q.2 := by
  intro k q hk
  match k, hk with
  | 0, hk => rw [← (Option.some.inj hk : _ = q)]; exact h0
  | 1, hk => rw [← (Option.some.inj hk : _ = q)]; exact h1
  | 2, hk => rw [← (Option.some.inj hk : _ = q)]; exact h2
  | 3, hk => rw [← (Option.some.inj hk : _ = q)]; exact h3
  | 4, hk => rw [← (Option.some.inj hk : _ = q)]; exact h4
  | 5, hk => rw [← (Option.some.inj hk : _ = q)]; exact h5
  | 6, hk => rw [← (Option.some.inj hk : _ = q)]; exact h6
  | n + 7, hk =>
    have h9 := (List.getElem?_eq_some_iff.mp hk).1
    have e9 : (tysL g).length = 7 := rfl
    omega
/-- the memory before all: the fixed rows and the script -/
def zz (L : Nat) (xs : Nat → Int32) : Mem := fun a j => match a, j with
  | .ofNat k, .ofNat i => if (shp k).1 < 100 ∧ fk (shp k).1 i = 3 then -1 else 0
  | .negSucc 1, .ofNat i => stv 1 i
  | .negSucc 2, .ofNat i => stv 2 i
  | .negSucc 3, .ofNat i => (xs i).toInt
  | .negSucc 3, .negSucc _ => L
  | _, _ => 0
theorem zz_0 (L : Nat) (xs : Nat → Int32) : hz0 (zz L xs) := fun _ _ => rfl
theorem zz_stat (L : Nat) (xs : Nat → Int32) : I_stat (zz L xs) := ⟨rfl, rfl, rfl, rfl, rfl, rfl, rfl⟩
theorem bod_st : ∀ k : Nat, k < 28 → stv 2 k = bod k := by decide +kernel
theorem zz_bod (L : Nat) (xs : Nat → Int32) : I_bod (zz L xs) := by
  intro i i0 i1
  obtain ⟨k, e⟩ : ∃ k : Nat, i = k := ⟨i.toNat, by omega⟩
  rw [e]
  exact bod_st k (by omega)
theorem zz_PW {g : Gx} {L : Nat} {xs : Nat → Int32} (h1 : gL g = L) (h2 : gX g = xs) (hL : L ≤ 3072) : PW g (zz L xs) := by
  refine ⟨fun k j hk => ?_, fun j _ => rfl, fun j _ => rfl, fun j _ => by rw [h2]; rfl, by rw [h1]; rfl, by rw [h1]; exact hL⟩
  have e : zz L xs k j = if (shp k).1 < 100 ∧ fk (shp k).1 j = 3 then -1 else 0 := rfl
  rw [e]
  split
  · rename_i c
    have e2 : kdAt k j = 3 := by unfold kdAt; rw [if_pos c.1]; exact c.2
    rw [e2]
    exact trivial
  · unfold rgk
    split
    · exact ⟨by decide, by decide⟩
    · split
      · exact ⟨by decide, by decide⟩
      · split
        · exact Or.inl rfl
        · trivial
theorem SS_room : SS NC ≤ 7302250 := by decide +kernel
theorem NC_room : NC ≤ 600000 := by decide +kernel
theorem room_less {s : State} {pl : Platform} (h : s.hasRoom pl room_1 = true) : s.hasRoom pl (rmd 25 NC (SS NC)) = true := by
  have f1 : (rmd 25 NC (SS NC)).frames ≤ room_1.frames := Nat.le_of_ble_eq_true rfl
  have f2 : (rmd 25 NC (SS NC)).cells ≤ room_1.cells := NC_room
  have f3 : (rmd 25 NC (SS NC)).slots ≤ room_1.slots := SS_room
  have f4 : (rmd 25 NC (SS NC)).locals ≤ room_1.locals := Nat.le_of_ble_eq_true rfl
  simp only [State.hasRoom, Bool.and_eq_true, decide_eq_true_eq] at h ⊢
  obtain ⟨⟨⟨⟨a0, a1, a2, a3, a4, a5⟩, a6⟩, a7⟩, a8⟩ := h
  exact ⟨⟨⟨⟨Nat.le_trans (Nat.add_le_add_right (Nat.add_le_add_left f4 _) _) a0, Nat.le_trans (Nat.add_le_add_left f1 _) a1, Nat.le_trans (Nat.add_le_add_left f1 _) a2, Nat.le_trans (Nat.add_le_add_left f4 _) a3, Nat.le_trans (Nat.add_le_add_left f4 _) a4, a5⟩, Nat.le_trans (Nat.add_le_add_left f2 _) a6⟩, Nat.le_trans (Nat.add_le_add_left f3 _) a7⟩, a8⟩
theorem flat_all {args : Array Value} {s : State} (h : (Jvm.Cond.and given_1 narrow_1).before args s = true) : ∀ w ∈ flatC (Jvm.Cond.and given_1 narrow_1), w.before args s = true := flat_of_before _ h
theorem el_a : ∀ j : Nat, j < 7 → Jvm.Cond.eq (.elem (.static "TakenInTurns" "ABOVE" "[I") (.int (Int32.ofNat j))) (.int (Int32.ofInt (stv 1 j))) ∈ flatC (Jvm.Cond.and given_1 narrow_1) := by decide +kernel
theorem el_b : ∀ j : Nat, j < 28 → Jvm.Cond.eq (.elem (.static "TakenInTurns$Acts" "BODIES" "[I") (.int (Int32.ofNat j))) (.int (Int32.ofInt (stv 2 j))) ∈ flatC (Jvm.Cond.and given_1 narrow_1) := by decide +kernel
theorem ar_a : Jvm.Cond.arrayOf (.static "TakenInTurns" "ABOVE" "[I") .int ∈ flatC (Jvm.Cond.and given_1 narrow_1) ∧ Jvm.Cond.eq (.length (.static "TakenInTurns" "ABOVE" "[I")) (.int 7) ∈ flatC (Jvm.Cond.and given_1 narrow_1) := by decide +kernel
theorem ar_b : Jvm.Cond.arrayOf (.static "TakenInTurns$Acts" "BODIES" "[I") .int ∈ flatC (Jvm.Cond.and given_1 narrow_1) ∧ Jvm.Cond.eq (.length (.static "TakenInTurns$Acts" "BODIES" "[I")) (.int 28) ∈ flatC (Jvm.Cond.and given_1 narrow_1) := by decide +kernel
theorem in_tbl {w : Jvm.Cond} (h : w ∈ tables_1) : w ∈ lw_tbl := List.mem_append_right _ h
theorem W0_tbl {w : Jvm.Cond} (h : w ∈ W0) : w ∈ lw_tbl := (List.mem_filter.mp h).1
theorem whole_start {p : Program} {e : Env} {s : State} {m : MethodId} {below : List Frame} {meth : Method} {c : Code} (l : Launch) (hflags : l.flags = flags0) {b L : Nat} {xs : Nat → Int32} (hL : L ≤ 3072) (C0 : lw_At p s m meth c b L xs) : W p l e room_1 s m #[Value.ref b] below meth c s.heap [] 0 0 (lw_Z below #[Value.ref b] s) (entryFrame m ([Value.ref b] : List Value).toArray 4) := by
  obtain ⟨hx, hb, hr, hml, hown, hts, hX, hbl, hlocks, hname, hgv⟩ := C0
  have hs := flat_all hgv
  have hW0 : ∀ w ∈ W0, w.before #[Value.ref b] s = true := fun w hw => hts w (W0_tbl hw)
  obtain ⟨D, hD⟩ := kn_all hW0
  obtain ⟨c0, k0, n0⟩ := arr_pr (hW0 _ arc_0)
  obtain ⟨c1, k1, n1⟩ := arr_pr (hW0 _ arc_1)
  obtain ⟨c2, k2, n2⟩ := arr_pr (hW0 _ arc_2)
  have o3 : va_AO "TakenInTurns$Giving" s := va_AO.of (hts _ (in_tbl ao_g))
  have o4 : va_AO "TakenInTurns$Shelf" s := va_AO.of (hts _ (in_tbl ao_h))
  have o5 : va_AO "TakenInTurns$Shares" s := va_AO.of (hts _ (in_tbl ao_s))
  have o6 : va_Nw (.arrayOver (.array .int)) s := hts _ (in_tbl ao_a)
  obtain ⟨c3, k3⟩ := arr_ob o3
  obtain ⟨c4, k4⟩ := arr_ob o4
  obtain ⟨c5, k5⟩ := arr_ob o5
  obtain ⟨c6, k6⟩ := arr_ar o6
  have hA : ∀ a : Nat, a < s.heap.size → ¬ (s.heap.size ≤ a) := fun a h1 h2 => by omega
  obtain ⟨t1, v1, T1⟩ := va_Tof (s := s) (args := #[Value.ref b]) (tm := .static "TakenInTurns" "ABOVE" "[I") (ty := .int) (N := 7) (f := fun j => .int (Int32.ofInt (stv 1 j))) (A := fun q => s.heap.size ≤ q) (by decide) (hs _ ar_a.1) (va_eqt (hs _ ar_a.2)) (fun j hj => va_eqt (hs _ (el_a j hj))) hA
  obtain ⟨t2, v2, T2⟩ := va_Tof (s := s) (args := #[Value.ref b]) (tm := .static "TakenInTurns$Acts" "BODIES" "[I") (ty := .int) (N := 28) (f := fun j => .int (Int32.ofInt (stv 2 j))) (A := fun q => s.heap.size ≤ q) (by decide) (hs _ ar_b.1) (va_eqt (hs _ ar_b.2)) (fun j hj => va_eqt (hs _ (el_b j hj))) hA
  have Z1 := va_Zref (A := fun q => s.heap.size ≤ q) (hts _ (in_tbl ls_a)) (hts _ (in_tbl in_x)) v1 hA
  have Z2 := va_Zref (A := fun q => s.heap.size ≤ q) (hts _ (in_tbl ls_b)) (hts _ (in_tbl in_a)) v2 hA
  obtain ⟨g, hg⟩ : ∃ g : Gx, g = (D.1, D.2, fun k => [c0, c1, c2, c3, c4, c5, c6].getD k 0, s.heap.size, fun k => [0, t1, t2, b].getD k 0, L, xs) := ⟨_, rfl⟩
  have eB : gB g = s.heap.size := by rw [hg]; rfl
  have e1 : gS g 1 = t1 := by rw [hg]; rfl
  have e2 : gS g 2 = t2 := by rw [hg]; rfl
  have e3 : gS g 3 = b := by rw [hg]; rfl
  have eL : gL g = L := by rw [hg]; rfl
  have eX : gX g = xs := by rw [hg]; rfl
  have eD : gD g = D := by rw [hg]; rfl
  have a0 : gA g 0 = c0 := by rw [hg]; rfl
  have a1 : gA g 1 = c1 := by rw [hg]; rfl
  have a2 : gA g 2 = c2 := by rw [hg]; rfl
  have a3 : gA g 3 = c3 := by rw [hg]; rfl
  have a4 : gA g 4 = c4 := by rw [hg]; rfl
  have a5 : gA g 5 = c5 := by rw [hg]; rfl
  have a6 : gA g 6 = c6 := by rw [hg]; rfl
  have eA : AA g = fun q => s.heap.size ≤ q := by funext q; show (gB g ≤ q) = _; rw [eB]
  clear hg
  have hKD : KD g s := by
    refine ⟨⟨fun k q hq => by rw [eD]; exact hD k q hq, tys_K (by rw [a0]; exact ⟨k0, n0⟩) (by rw [a1]; exact ⟨k1, n1⟩) (by rw [a2]; exact ⟨k2, n2⟩) (by rw [a3]; exact k3) (by rw [a4]; exact k4) (by rw [a5]; exact k5) (by rw [a6]; exact k6)⟩, fun q hq => va_Nw.of rfl (hts _ (in_tbl (nest_in q hq))), va_Nw.of rfl (hts _ (in_tbl fln_in)), ⟨o3, o4, o5⟩, o6⟩
  have hSP : SP g s s.heap := by
    unfold SP
    rw [e1, e2, e3, eL, eX, eA, eB]
    exact ⟨⟨Z1, T1⟩, ⟨Z2, T2⟩, hX, hbl⟩
  have hWD : WD g (XC (zz L xs) (0, [], [])) s.heap := ⟨⟨by show gB g + 0 ≤ _; rw [eB]; exact Nat.le_refl _, fun _ => by show _ = gB g + 0; rw [eB]; rfl⟩, fun k q hq => by (cases hq), zz_PW eL eX hL, Nat.zero_le _⟩
  have hFX : FX i_L_law p s m #[Value.ref b] meth c := ⟨hx, hb, hml, hown, hW0, hr, hlocks, hname⟩
  have eN : sI (zz L xs) (-4) (-1) = (L : Int) := lg_neg (Or.inl (by decide)) SL
  have main := la_init (zz_0 L xs) (K := fun v _ => v = 1) (la_all (L + 1) 0 (sI (zz L xs)) (first_inv (zz_0 L xs) (zz_stat L xs) (zz_bod L xs)) (Int.le_refl 0) (by decide) (by rw [eN]; omega) (by rw [eN]; omega) (by rw [eN]; omega))
  intro T hT X
  have hroom := X.room
  have X2' : Stand p l e (rmd 25 NC (SS NC)) s m #[Value.ref b] below meth c T [] 0 0 := { X with room := room_less hroom }
  have hl := lv_entry ([.ref b]) (n := 4) (Nat.le_of_ble_eq_true rfl)
  rw [lg_entry_eq]
  generalize (lg_sl ([.ref b]) ++ List.replicate (4 - (lg_sl ([.ref b])).length) Slot.unset).toArray = ls at hl ⊢
  have hl : lv_has ls (mL i_L_law) (embL g [(0, (2, -4))]) := by
    have e9 : embL g [(0, (2, -4))] = [(0, .ref b)] := by
      show [(0, va_rf (some (gS g 3)))] = _
      rw [e3]
      rfl
    rw [e9]
    exact hl
  have k := main g p l e s m #[Value.ref b] below meth c (lw_Z below #[Value.ref b] s) s.heap [] ls hFX hKD hSP (by rw [eB]; exact Nat.le_refl _) ?_ hWD va_S.rf hl (fun _ h => by cases h) (fun q hq => by cases List.mem_singleton.mp hq; exact trivial) (Nat.zero_le _) (Nat.zero_le _)
  · exact k T hT X2'
  · intro H locs ls pc X1 v hdec hD1 hS1 hrv hk T1 hT1 Y
    have Y2 : Stand p l e room_1 s m #[Value.ref b] below meth c T1 locs NC (SS NC) := { Y with room := hroom }
    have hk : v = 1 := hk
    subst hk
    have eO : (emR g i_L_law 1).toList = [Value.int 1] := by
      show [Value.int (Int32.ofInt 1)] = [Value.int 1]
      rfl
    rw [eO]
    have fin := va_forget (p := p) (l := l) (e := e) (R := room_1) (s := s) (m := m) (args := #[Value.ref b]) (below := below) (meth := meth) (c := c) (H := H) (locs := locs) (cells := NC) (slots := SS NC) (Q := lw_Z below #[Value.ref b] s) (g := F0 m pc ls [.int 1]) (fun q hq => by have := hS1.2.2 q hq; rw [eA] at this; exact this) (W.widen NC_room SS_room (lw_ret hx hb hr hlocks hdec))
    exact fin T1 hT1 Y2
