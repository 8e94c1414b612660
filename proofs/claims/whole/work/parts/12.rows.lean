variable {M : MI} {d mc ms pos pc a b c cells slots : Nat} {v : Int} {tl : List Nat} {stk : List AV} {loc : Lo} {X : HS} {K : Int → HS → Prop}
theorem aw_alen {r : Int} (hM : chkM M = true) (hi : (mT M)[pos]? = some (27, pc, a, b, c, v, tl)) (hr : (100 ≤ sK r ∧ sK r < 900 ∧ r < X.2.1 ∧ ¬ a = 903) ∨ (r = -4 ∧ a = 903)) (k : AW M d mc ms (pos + 1) ((0, aln X a r) :: stk) loc X cells slots K) : AW M d mc ms pos ((2, r) :: stk) loc X cells slots K := by
  intro g p l e s m args below meth c0 Fz H locs ls hF hK hS hB hR hD hs hl hst hlo hc1 hc2
  have hdec := chk_dec hM hi
  have hfal := chk_fall hM hi
  have hpo := chk_pool hM hi
  rw [pcOf_at hi]
  have hst2 := List.forall_mem_cons.mp hst
  rcases hr with ⟨h100, h900, hn, ha⟩ | ⟨rfl, rfl⟩
  · obtain ⟨q, rfl, hq⟩ := ref_of (a := sK r) rfl h900
    have hqn : q < X.2.1 := by omega
    have hNC := shp_lt hq h900
    have hln : aln X a q = ((shp q).2 : Int) := by unfold aln; rw [if_neg ha]; rfl
    rw [hln] at k
    have hbig : (shp q).2 ≤ 1000 := by
      have h : (List.range NC).all (fun k => decide ((shp k).2 ≤ 1000)) = true := by decide +kernel
      exact of_decide_eq_true (List.all_eq_true.mp h q (List.mem_range.mpr hNC))
    have k := k g p l e s m args below meth c0 Fz H locs ls hF hK hS hB hR hD hs hl (List.forall_mem_cons.mpr ⟨(show r32 _ by unfold r32; omega), hst2.2⟩) hlo hc1 hc2
    rw [fall1 hfal (by simp)] at k
    have hws := wsL_get (g := g) hqn
    rw [← hq] at h100
    obtain ⟨t0, t1, t2, t3, t4, t5, t6⟩ := ty_at g
    have hv : Int32.ofNat (shp q).2 = Int32.ofInt ((shp q).2 : Int) := (Int32.ofInt_eq_ofNat).symm
    by_cases h0 : (shp q).1 = 100
    · rw [cellE_i h0] at hws
      exact va_alen (D := gD g) (cl := cls) (tys := tysL g) (ws := wsL g X) hF.1 hF.2.1 hK.1 hD.2.1 q 0 hws t0 hv hdec k
    by_cases h1 : (shp q).1 = 101
    · rw [cellE_l h1] at hws
      exact va_alen (D := gD g) (cl := cls) (tys := tysL g) (ws := wsL g X) hF.1 hF.2.1 hK.1 hD.2.1 q 1 hws t1 hv hdec k
    by_cases h2 : (shp q).1 = 102
    · rw [cellE_z h2] at hws
      exact va_alen (D := gD g) (cl := cls) (tys := tysL g) (ws := wsL g X) hF.1 hF.2.1 hK.1 hD.2.1 q 2 hws t2 hv hdec k
    · have h7 := shp_q q hNC (by omega)
      rcases (by omega : (shp q).1 = 103 ∨ (shp q).1 = 104 ∨ (shp q).1 = 105 ∨ (shp q).1 = 106) with z | z | z | z
      all_goals rw [cellE_q z (by omega)] at hws
      · exact va_alen (D := gD g) (cl := cls) (tys := tysL g) (ws := wsL g X) hF.1 hF.2.1 hK.1 hD.2.1 q 3 hws t3 hv hdec k
      · exact va_alen (D := gD g) (cl := cls) (tys := tysL g) (ws := wsL g X) hF.1 hF.2.1 hK.1 hD.2.1 q 4 hws t4 hv hdec k
      · exact va_alen (D := gD g) (cl := cls) (tys := tysL g) (ws := wsL g X) hF.1 hF.2.1 hK.1 hD.2.1 q 5 hws t5 hv hdec k
      · exact va_alen (D := gD g) (cl := cls) (tys := tysL g) (ws := wsL g X) hF.1 hF.2.1 hK.1 hD.2.1 q 6 hws t6 hv hdec k
  · have ea : aln X 903 (-4) = (gL g : Int) := hD.2.2.1.2.2.2.2.1
    have h9 : gS g 3 < gB g := hS.2.2.2
    have hle : gL g ≤ 3072 := hD.2.2.1.2.2.2.2.2
    rw [ea] at k
    have k := k g p l e s m args below meth c0 Fz H locs ls hF hK hS hB hR hD hs hl (List.forall_mem_cons.mpr ⟨(show r32 _ by unfold r32; omega), hst2.2⟩) hlo hc1 hc2
    rw [fall1 hfal (by simp)] at k
    refine va_slen hF.1 hF.2.1 hS.2.2.1 (show gS g 3 < _ by omega) (show ¬ gB g ≤ gS g 3 by omega) hs hdec ?_
    have hv : Int32.ofNat (gL g) = Int32.ofInt ((gL g) : Int) := (Int32.ofInt_eq_ofNat).symm
    simp only [List.map_cons, emb_0, ← hv] at k
    exact k
theorem aw_gets (hM : chkM M = true) (hi : (mT M)[pos]? = some (24, pc, a, b, c, v, tl)) (k : AW M d mc ms (pos + 1) ((2, -1 - (a : Int)) :: stk) loc X cells slots K) : AW M d mc ms pos stk loc X cells slots K := by
  intro g p l e s m args below meth c0 Fz H locs ls hF hK hS hB hR hD hs hl hst hlo hc1 hc2
  have hdec := chk_dec hM hi
  have hfal := chk_fall hM hi
  have hpo := chk_pool hM hi
  rw [pcOf_at hi]
  simp [poolO] at hpo
  have k := k g p l e s m args below meth c0 Fz H locs ls hF hK hS hB hR hD hs hl (List.forall_mem_cons.mpr ⟨trivial, hst⟩) hlo hc1 hc2
  rw [fall1 hfal (by simp)] at k
  by_cases hb : b = 0
  · simp [hb] at hpo
    have hlk := GS_ok _ (List.mem_of_getElem? hpo)
    have ha := GS_two _ (List.mem_of_getElem? hpo)
    dsimp only at ha
    rcases ha with rfl | rfl
    · exact va_gets hF.1 hF.2.1 hS.1.1 hs hF.2.2.2.1 (hF.2.2.2.2.1 _ hlk) (fun _ h => h) hdec k
    · exact va_gets hF.1 hF.2.1 hS.2.1.1 hs hF.2.2.2.1 (hF.2.2.2.2.1 _ hlk) (fun _ h => h) hdec k
  · simp [hb] at hpo
    obtain ⟨e1, rfl, rfl⟩ := hpo
    have hown := hF.2.2.2.1
    have e2 : mO M = "TakenInTurns$Acts" := by
      have : mO M = ownNm (mOi M) := rfl
      rw [this, e1]; rfl
    rw [e2] at hown
    exact va_getsN hF.1 hF.2.1 hS.1.1 hs hown (va_Nw.use rfl hK.2.2.1) (fun _ h => h) hdec k
/-- the memory after an element is written -/
theorem cellE_ist {g : Gx} {π : Int → Int → Int} {σ : Mem} {q j : Nat} {w : Int} (h : (shp q).1 = 100) : cellE g π (st σ q j w) q = .inl (gA g 0, (shp q).2, .inl (fun i => if i = j then Int32.ofInt w else Int32.ofInt (σ q i))) := by
  rw [cellE_i h]
  congr 3
  congr 1
  funext i
  rw [st_at]
  by_cases e : i = j
  · subst e; simp
  · rw [if_neg (by omega), if_neg e]
theorem cellE_lst {g : Gx} {π : Int → Int → Int} {σ : Mem} {q j : Nat} {w : Int} (h : (shp q).1 = 101) : cellE g π (st σ q j w) q = .inl (gA g 1, (shp q).2, .inr (.inl (vf_upd (fun i => Int64.ofInt (σ q i)) j (Int64.ofInt w)))) := by
  rw [cellE_l h]
  congr 5
  funext i
  unfold vf_upd
  rw [st_at]
  by_cases e : i = j
  · subst e; simp
  · rw [if_neg (by omega), if_neg e]
theorem aw_iast {r i w : Int} (hM : chkM M = true) (hi : (mT M)[pos]? = some (26, pc, 100, b, c, v, tl)) (hr : sK r = 100) (hn : r < X.2.1) (h0 : 0 ≤ i) (h1 : i < sN r) (k : AW M d mc ms (pos + 1) stk loc (X.1, X.2.1, st X.2.2 r i w) cells slots K) : AW M d mc ms pos ((0, w) :: (0, i) :: (2, r) :: stk) loc X cells slots K := by
  intro g p l e s m args below meth c0 Fz H locs ls hF hK hS hB hR hD hs hl hst hlo hc1 hc2
  have hdec := chk_dec hM hi
  have hfal := chk_fall hM hi
  have hpo := chk_pool hM hi
  rw [pcOf_at hi]
  have hst1 := List.forall_mem_cons.mp hst
  have hst2 := List.forall_mem_cons.mp hst1.2
  have hst3 := List.forall_mem_cons.mp hst2.2
  have ri : r32 i := hst2.1
  obtain ⟨j, rfl⟩ : ∃ j : Nat, i = (j : Int) := ⟨i.toNat, by omega⟩
  have hcl : (Int32.ofInt (j : Int)).toNatClampNeg = j := i32_clamp ri
  obtain ⟨q, rfl, hq⟩ := ref_of hr (by omega)
  have hqn : q < X.2.1 := by omega
  have hNC := shp_lt hq (by omega)
  have hin : vp_in (Int32.ofInt (j : Int)) (shp q).2 := i32_in ri h0 h1
  have hws := wsL_get (g := g) hqn
  rw [cellE_i hq] at hws
  refine my_iast (D := gD g) (cl := cls) (tys := tysL g) (ws := wsL g X) (A := AA g) hF.1 hF.2.1 hK.1 hD.2.1 (wsL_D g X) hs q 0 hws (ty_at g).1 hin hdec (fun H1 locs1 z hP1 hS1 => ?_)
  rw [hcl] at hP1
  have hPW : PW g (st X.2.2 q j w) := PW_st hD.2.2.1 (fun j2 _ => by
    have e : kdAt q j2 = 0 := by unfold kdAt; rw [hq]; rfl
    rw [e]; exact hst1.1)
  have k := k g p l e s m args below meth c0 Fz H1 locs1 ls hF hK hS hB hR ⟨⟨by rw [z]; exact hD.1.1, by rw [z]; exact hD.1.2⟩, va_Pset (X' := (X.1, X.2.1, st X.2.2 q j w)) hP1 rfl (cellE_ist hq) (fun j2 hj2 => cellE_st hj2), hPW, hD.2.2.2⟩ hS1 hl hst3.2 hlo hc1 hc2
  rw [fall1 hfal (by simp)] at k
  exact k
