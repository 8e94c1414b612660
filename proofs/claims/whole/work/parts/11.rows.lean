variable {M : MI} {d mc ms pos pc a b c cells slots : Nat} {v : Int} {tl : List Nat} {stk : List AV} {loc : Lo} {X : HS} {K : Int → HS → Prop}
def alv (X : HS) (a : Nat) (r i : Int) : AV := if a = 101 then (1, X.2.2 r i) else if 103 ≤ a ∧ a < 900 then (2, X.1 r i) else (0, X.2.2 r i)
def aln (X : HS) (a : Nat) (r : Int) : Int := if a = 903 then X.2.2 (-4) (-1) else sN r
theorem ty_at (g : Gx) : (tysL g)[0]? = some (gA g 0, .int) ∧ (tysL g)[1]? = some (gA g 1, .long) ∧ (tysL g)[2]? = some (gA g 2, .boolean) ∧ (tysL g)[3]? = some (gA g 3, .object "TakenInTurns$Giving") ∧ (tysL g)[4]? = some (gA g 4, .object "TakenInTurns$Shelf") ∧ (tysL g)[5]? = some (gA g 5, .object "TakenInTurns$Shares") ∧ (tysL g)[6]? = some (gA g 6, .array .int) := ⟨rfl, rfl, rfl, rfl, rfl, rfl, rfl⟩
theorem cellE_i {g : Gx} {π : Int → Int → Int} {σ : Mem} {k : Nat} (h : (shp k).1 = 100) : cellE g π σ k = .inl (gA g 0, (shp k).2, .inl (fun j => Int32.ofInt (σ k j))) := by unfold cellE; rw [h]; rfl
theorem cellE_l {g : Gx} {π : Int → Int → Int} {σ : Mem} {k : Nat} (h : (shp k).1 = 101) : cellE g π σ k = .inl (gA g 1, (shp k).2, .inr (.inl (fun j => Int64.ofInt (σ k j)))) := by unfold cellE; rw [h]; rfl
theorem cellE_z {g : Gx} {π : Int → Int → Int} {σ : Mem} {k : Nat} (h : (shp k).1 = 102) : cellE g π σ k = .inl (gA g 2, (shp k).2, .inl (fun j => Int32.ofInt (σ k j))) := by unfold cellE; rw [h]; rfl
theorem cellE_q {g : Gx} {π : Int → Int → Int} {σ : Mem} {k a : Nat} (h : (shp k).1 = a) (ha : 103 ≤ a) : cellE g π σ k = .inl (gA g (a - 100), (shp k).2, .inr (.inr (.inr (.inr (fun j => refO g (π k j)))))) := by
  unfold cellE
  rw [h, if_neg (by omega), if_neg (by omega), if_neg (by omega)]
theorem shp_q : ∀ k, k < NC → 103 ≤ (shp k).1 → (shp k).1 < 107 := by
  have h : (List.range NC).all (fun k => decide (103 ≤ (shp k).1 → (shp k).1 < 107)) = true := by decide +kernel
  intro k hk
  exact of_decide_eq_true (List.all_eq_true.mp h k (List.mem_range.mpr hk))
section
variable {p : Program} {l : Launch} {e : Env} {R : Room} {s : State} {m : MethodId} {args : Array Value} {below : List Frame} {meth : Method} {c : Code} {H H0 : Heap} {locs : List Loc} {cells slots : Nat} {Q : State → Prop} {cc : ByteArray} {pc : Nat} {ls : Array Slot} {rest : List Value} {D : va_G} {cl : List vw_C} {A : Nat → Prop} {a : Nat} {tys : List (ClassId × FieldType)} {ws : va_W}
theorem my_aald (hexec : p.tables.exec = Jvm.exec) (hb : c.code = cc) (hK : va_K D cl tys s) (hP : va_P D cl ws H) (q0 t0 : Nat) {cA : ClassId} {ty : FieldType} {n : Nat} {f : Nat → Option Nat} (ha : ws[q0]? = some (a, .inl (cA, n, .inr (.inr (.inr (.inr f)))))) (ht : tys[t0]? = some (cA, ty)) (hty : (∃ C, ty = .object C) ∨ ∃ t, ty = .array t) {i : Int32} (hin : vp_in i n) (hdg : decode cc pc = .ok (.aaload, 1))
    (kk : W p l e R s m args below meth c H locs cells slots Q (F0 m (pc + 1) ls (va_rf (f i.toNatClampNeg) :: rest))) : W p l e R s m args below meth c H locs cells slots Q (F0 m pc ls (.int i :: .ref a :: rest)) := by
  have hlt : i.toNatClampNeg < n := Nat.not_le.mp fun q => hin (Or.inr q)
  refine W.aald (v := va_rf (f i.toNatClampNeg)) (ty := ty) hexec hb (hP q0 _ ha) ((hK.2 t0 _ ht).1 n (fun j => va_rf (f j))) ?_ (fun q => by cases q) (by show ¬ (i < 0 ∨ (arrV _ _ _).slots.size ≤ _); rw [arrV_size]; exact hin) (by show (arrV _ _ _).slots[_]? = _; rw [arrV_read _ _ hlt]) rfl rfl hdg kk
  rcases hty with ⟨C, rfl⟩ | ⟨t, rfl⟩ <;> rfl
end
theorem aw_ald {r i : Int} (hM : chkM M = true) (hi : (mT M)[pos]? = some (25, pc, a, b, c, v, tl)) (ha : 100 ≤ a) (hr : sK r = a) (hn : r < X.2.1) (h0 : 0 ≤ i) (h1 : i < aln X a r) (k : AW M d mc ms (pos + 1) (alv X a r i :: stk) loc X cells slots K) : AW M d mc ms pos ((0, i) :: (2, r) :: stk) loc X cells slots K := by
  intro g p l e s m args below meth c0 Fz H locs ls hF hK hS hB hR hD hs hl hst hlo hc1 hc2
  have hdec := chk_dec hM hi
  have hfal := chk_fall hM hi
  have hpo := chk_pool hM hi
  rw [pcOf_at hi]
  have hst1 := List.forall_mem_cons.mp hst
  have hst2 := List.forall_mem_cons.mp hst1.2
  have ri : r32 i := hst1.1
  have hfp := fall1 hfal (by simp)
  obtain ⟨j, rfl⟩ : ∃ j : Nat, i = (j : Int) := ⟨i.toNat, by omega⟩
  have hcl : (Int32.ofInt (j : Int)).toNatClampNeg = j := i32_clamp ri
  by_cases h9 : a < 900
  · obtain ⟨q, rfl, hq⟩ := ref_of hr h9
    have hqn : q < X.2.1 := by omega
    have hNC := shp_lt hq h9
    have hln : aln X a q = ((shp q).2 : Int) := by unfold aln; rw [if_neg (by omega)]; rfl
    have hin : vp_in (Int32.ofInt (j : Int)) (shp q).2 := i32_in ri h0 (by rw [← hln]; exact h1)
    have hws := wsL_get (g := g) hqn
    have hkd := hD.2.2.1.1 q j hNC
    unfold kdAt at hkd
    rw [hq, if_neg (by omega)] at hkd
    by_cases h100 : a = 100
    · subst h100
      rw [cellE_i hq] at hws
      have k := k g p l e s m args below meth c0 Fz H locs ls hF hK hS hB hR hD hs hl (List.forall_mem_cons.mpr ⟨(show r32 (X.2.2 q j) by simpa [rgk] using hkd), hst2.2⟩) hlo hc1 hc2
      rw [hfp] at k
      refine va_iald (D := gD g) (cl := cls) (tys := tysL g) (ws := wsL g X) hF.1 hF.2.1 hK.1 hD.2.1 q 0 hws (ty_at g).1 hin hdec ?_
      rw [hcl]
      exact k
    by_cases h101 : a = 101
    · subst h101
      rw [cellE_l hq] at hws
      have k := k g p l e s m args below meth c0 Fz H locs ls hF hK hS hB hR hD hs hl (List.forall_mem_cons.mpr ⟨(show r64 (X.2.2 q j) by simpa [rgk] using hkd), hst2.2⟩) hlo hc1 hc2
      rw [hfp] at k
      refine va_lald (D := gD g) (cl := cls) (tys := tysL g) (ws := wsL g X) hF.1 hF.2.1 hK.1 hD.2.1 q 1 hws (ty_at g).2.1 hin hdec ?_
      rw [hcl]
      exact k
    by_cases h102 : a = 102
    · subst h102
      rw [cellE_z hq] at hws
      have hr2 : r32 (X.2.2 q j) := by
        have z : X.2.2 q j = 0 ∨ X.2.2 q j = 1 := by simpa [rgk] using hkd
        unfold r32; omega
      have k := k g p l e s m args below meth c0 Fz H locs ls hF hK hS hB hR hD hs hl (List.forall_mem_cons.mpr ⟨hr2, hst2.2⟩) hlo hc1 hc2
      rw [hfp] at k
      refine va_zald (D := gD g) (cl := cls) (tys := tysL g) (ws := wsL g X) hF.1 hF.2.1 hK.1 hD.2.1 q 2 hws (ty_at g).2.2.1 hin hdec ?_
      rw [hcl]
      exact k
    · have h103 : 103 ≤ a := by omega
      have h107 := shp_q q hNC (by omega)
      rw [hq] at h107
      rw [cellE_q hq h103] at hws
      have ev : alv X a q j = (2, X.1 q j) := by unfold alv; rw [if_neg (by omega), if_pos ⟨h103, h9⟩]
      rw [ev] at k
      have k := k g p l e s m args below meth c0 Fz H locs ls hF hK hS hB hR hD hs hl (List.forall_mem_cons.mpr ⟨trivial, hst2.2⟩) hlo hc1 hc2
      rw [hfp] at k
      have hd2 : decode (mC M) pc = .ok (.aaload, 1) := by
        have := hdec
        simp only [insO] at this
        simp [h101, h102, show ¬ a < 103 by omega, show ¬ 900 ≤ a by omega] at this
        exact this
      obtain ⟨-, -, -, t3, t4, t5, t6⟩ := ty_at g
      rcases (by omega : a = 103 ∨ a = 104 ∨ a = 105 ∨ a = 106) with rfl | rfl | rfl | rfl
      · refine my_aald (D := gD g) (cl := cls) (tys := tysL g) (ws := wsL g X) hF.1 hF.2.1 hK.1 hD.2.1 q 3 hws t3 (Or.inl ⟨_, rfl⟩) hin hd2 ?_
        rw [hcl]; exact k
      · refine my_aald (D := gD g) (cl := cls) (tys := tysL g) (ws := wsL g X) hF.1 hF.2.1 hK.1 hD.2.1 q 4 hws t4 (Or.inl ⟨_, rfl⟩) hin hd2 ?_
        rw [hcl]; exact k
      · refine my_aald (D := gD g) (cl := cls) (tys := tysL g) (ws := wsL g X) hF.1 hF.2.1 hK.1 hD.2.1 q 5 hws t5 (Or.inl ⟨_, rfl⟩) hin hd2 ?_
        rw [hcl]; exact k
      · refine my_aald (D := gD g) (cl := cls) (tys := tysL g) (ws := wsL g X) hF.1 hF.2.1 hK.1 hD.2.1 q 6 hws t6 (Or.inr ⟨_, rfl⟩) hin hd2 ?_
        rw [hcl]; exact k
  · have ev : alv X a r j = (0, X.2.2 r j) := by unfold alv; rw [if_neg (by omega), if_neg (by omega)]
    rw [ev] at k
    have hd2 : decode (mC M) pc = .ok (.iaload, 1) := by
      have := hdec
      simp only [insO] at this
      simp [show ¬ a = 101 by omega, show ¬ a = 102 by omega, show ¬ a < 103 by omega, show 900 ≤ a by omega] at this
      exact this
    cases r with
    | ofNat q =>
      have hq : (shp q).1 = a := hr
      exfalso
      have hn2 : (q : Int) < (X.2.1 : Int) := hn
      have : X.2.1 ≤ NC := hD.2.2.2
      have e : (List.range NC).all (fun k => decide ((shp k).1 < 900)) = true := by decide +kernel
      have := of_decide_eq_true (List.all_eq_true.mp e q (List.mem_range.mpr (by omega)))
      omega
    | negSucc n =>
      have hn9 : 900 + n = a := hr
      by_cases n1 : n = 1
      · subst n1
        have hj : j < 7 := by
          unfold aln at h1
          rw [if_neg (by omega)] at h1
          exact Int.ofNat_lt.mp h1
        have ex : X.2.2 (Int.negSucc 1) j = stv 1 j := hD.2.2.1.2.1 j hj
        rw [ex] at k
        have rr : r32 (stv 1 j) := by
          have : ∀ j, j < 7 → (decide (-2147483648 ≤ stv 1 j ∧ stv 1 j ≤ 2147483647)) = true := by decide
          have z := of_decide_eq_true (this j hj); unfold r32; exact z
        have k := k g p l e s m args below meth c0 Fz H locs ls hF hK hS hB hR hD hs hl (List.forall_mem_cons.mpr ⟨rr, hst2.2⟩) hlo hc1 hc2
        rw [hfp] at k
        exact va_ti hF.1 hF.2.1 hS.1.2 hs (i32_in ri h0 (by omega)) (by rw [hcl]; rfl) hd2 k
      by_cases n2 : n = 2
      · subst n2
        have hj : j < 28 := by
          unfold aln at h1
          rw [if_neg (by omega)] at h1
          exact Int.ofNat_lt.mp h1
        have ex : X.2.2 (Int.negSucc 2) j = stv 2 j := hD.2.2.1.2.2.1 j hj
        rw [ex] at k
        have rr : r32 (stv 2 j) := by
          have : ∀ j, j < 28 → (decide (-2147483648 ≤ stv 2 j ∧ stv 2 j ≤ 2147483647)) = true := by decide
          have z := of_decide_eq_true (this j hj); unfold r32; exact z
        have k := k g p l e s m args below meth c0 Fz H locs ls hF hK hS hB hR hD hs hl (List.forall_mem_cons.mpr ⟨rr, hst2.2⟩) hlo hc1 hc2
        rw [hfp] at k
        exact va_ti hF.1 hF.2.1 hS.2.1.2 hs (i32_in ri h0 (by omega)) (by rw [hcl]; rfl) hd2 k
      by_cases n3 : n = 3
      · subst n3
        have hj : j < gL g := by
          unfold aln at h1
          rw [if_pos (by omega), hD.2.2.1.2.2.2.2.1] at h1
          omega
        have ex : X.2.2 (Int.negSucc 3) j = (gX g j).toInt := hD.2.2.1.2.2.2.1 j hj
        rw [ex] at k
        have k := k g p l e s m args below meth c0 Fz H locs ls hF hK hS hB hR hD hs hl (List.forall_mem_cons.mpr ⟨toInt_r _, hst2.2⟩) hlo hc1 hc2
        rw [hfp] at k
        refine va_sld hF.1 hF.2.1 hS.2.2.1 (by have := hS.2.2.2; omega) (by have := hS.2.2.2; show ¬ _ ≤ _; omega) hs (i32_in ri h0 (by omega)) hd2 ?_
        rw [hcl]
        simp only [List.map_cons, emb_0, emI] at k
        exact k
      · exfalso
        unfold aln at h1
        rw [if_neg (by omega)] at h1
        simp [sN, n1, n2] at h1
        omega
