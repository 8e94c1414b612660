variable {M : MI} {d mc ms pos pc a b c cells slots : Nat} {v : Int} {tl : List Nat} {stk : List AV} {loc : Lo} {X : HS} {K : Int → HS → Prop}
theorem map_app (g : Gx) (as rest : List AV) : (as.reverse ++ rest).map (emb g) = (as.map (emb g)).reverse ++ rest.map (emb g) := by rw [List.map_append, List.map_reverse]
theorem aw_callv {r : Int} {as : List AV} {mc' ms' : Nat} {K' : Int → HS → Prop} (hM : chkM M = true) (hi : (mT M)[pos]? = some (31, pc, a, b, c, v, tl)) (hok : okM (callee a)) (hb13 : b < 13) (hr : sK r = b) (hn : r < X.2.1) (hlen : as.length = v.toNat) (hsz : szS stk ≤ 8) (hc : cells + mc' ≤ mc) (hs' : slots + ms' ≤ ms)
    (hA : AM (callee a) d mc' ms' ((2, r) :: as) X K') (k : ∀ (w : Int) (X' : HS), rgR (callee a) w → K' w X' → AW M (d + 1) mc ms (pos + 1) (pushR (callee a) w stk) loc X' (cells + mc') (slots + ms') K) : AW M (d + 1) mc ms pos (as.reverse ++ (2, r) :: stk) loc X cells slots K := by
  intro g p l e s m args below meth c0 Fz H locs ls hF hK hS hB hR hD hs hl hst hlo hc1 hc2
  have hdec := chk_dec hM hi
  have hfal := chk_fall hM hi
  have hpo := chk_pool hM hi
  rw [pcOf_at hi]
  have hpo2 : ((LML[tl.getD 0 0]? = some (mOi M, c, a) ∧ LVM[tl.getD 1 0]? = some a) ∧ mOi (callee a) = b) ∧ mA (callee a) = v.toNat := by simpa [poolO] using hpo
  obtain ⟨⟨⟨l1, l2⟩, hcl⟩, hpar⟩ := hpo2
  have w1 := ML_ok _ (List.mem_of_getElem? l1)
  have w2 := VM_ok _ (List.mem_of_getElem? l2)
  have hcls : (mN (callee a)).cls = (clsOf b).1 := by
    rw [hok.2.2.2.2.2.2.2]
    show ownNm (mOi (callee a)) = _
    rw [hcl, own_cls b hb13]
  obtain ⟨q, rfl, hq⟩ := ref_of hr (by omega)
  have hqn : q < X.2.1 := by omega
  have hts := hF.2.2.2.2.1
  have hws := wsL_get (g := g) hqn
  rw [cellE_obj hq (by omega)] at hws
  have hst9 : (∀ w ∈ as, rgv w) ∧ ∀ w ∈ stk, rgv w := ⟨fun w hw => hst w (List.mem_append_left _ (List.mem_reverse.mpr hw)), fun w hw => hst w (List.mem_append_right _ (List.mem_cons_of_mem _ hw))⟩
  have hMet := hA l g (List.forall_mem_cons.mpr ⟨trivial, hst9.1⟩)
  have hcb := callB_ok (M := M) (d := d) (mc := mc) (ms := ms) (mc' := mc') (ms' := ms') hok hts (hts _ w1) hpar
  have hrec := va_recv (q0 := q) hK.1 hD.2.1 (cls_at b hb13) hws
  rw [map_app]
  refine call_go (M := callee a) (mc := mc') (ms := ms') (K := K') (rest := stk.map (emb g)) (va_runV (As := as.map (emb g)) (b := gB g + q) (C := (clsOf b).1) (Ts := W0) (n := v.toNat) ⟨hF.1, hF.2.1, hF.2.2.1, hF.2.2.2.1, hts⟩ hMet ⟨hcb, hts _ w2.1, by rw [← hcls]; exact hts _ w2.2⟩ ⟨PcA_blind g _ X, hrec, PcA_at (as := (2, (q : Int)) :: as) hK hS hB hD hs⟩ rfl (by simpa using hlen) hl.1 rfl (lv_room (by rw [szS_cat]; exact hsz)) hdec ⟨hc, hs'⟩) hs (fun w X1 H1 locs1 hw hk1 hD1 hS1 => ?_)
  have k := k w X1 hw hk1 g p l e s m args below meth c0 Fz H1 locs1 ls hF hK hS hB hR hD1 hS1 hl (push_rg hw hst9.2) hlo hc hs'
  rw [fall1 hfal (by simp), push_emb] at k
  exact k
theorem nest_at {g : Gx} {s : State} {M M' : MI} {c : Nat} (hK : KD g s) (h : ∃ host, (mO M, c, mN M', host) ∈ nestM) : ∃ host, va_Nw (.methodLinkNest (mO M) c (mN M') host) s := by
  obtain ⟨host, hq⟩ := h
  exact ⟨host, hK.2.1 _ hq⟩
theorem aw_calls {as : List AV} {mc' ms' : Nat} {K' : Int → HS → Prop} (hM : chkM M = true) (hi : (mT M)[pos]? = some (32, pc, a, b, c, v, tl)) (hok : okM (callee a)) (hlen : as.length = v.toNat) (hsz : szS stk ≤ 8) (hc : cells + mc' ≤ mc) (hs' : slots + ms' ≤ ms)
    (hA : AM (callee a) d mc' ms' as X K') (k : ∀ (w : Int) (X' : HS), rgR (callee a) w → K' w X' → AW M (d + 1) mc ms (pos + 1) (pushR (callee a) w stk) loc X' (cells + mc') (slots + ms') K) : AW M (d + 1) mc ms pos (as.reverse ++ stk) loc X cells slots K := by
  intro g p l e s m args below meth c0 Fz H locs ls hF hK hS hB hR hD hs hl hst hlo hc1 hc2
  have hdec := chk_dec hM hi
  have hfal := chk_fall hM hi
  have hpo := chk_pool hM hi
  rw [pcOf_at hi]
  have hpo2 : (LSM[tl.getD 1 0]? = some a ∧ (if b = 0 then decide (LML[tl.getD 0 0]? = some (mOi M, c, a)) else decide (LNM[tl.getD 0 0]? = some (mOi M, c, a))) = true) ∧ mA (callee a) = v.toNat := by simpa [poolO] using hpo
  obtain ⟨⟨l2, l1⟩, hpar⟩ := hpo2
  have hts := hF.2.2.2.2.1
  have hst9 : (∀ w ∈ as, rgv w) ∧ ∀ w ∈ stk, rgv w := ⟨fun w hw => hst w (List.mem_append_left _ (List.mem_reverse.mpr hw)), fun w hw => hst w (List.mem_append_right _ hw)⟩
  have hMet := hA l g hst9.1
  rw [map_app]
  by_cases hb : b = 0
  · rw [if_pos hb] at l1
    have l1 := ML_ok _ (List.mem_of_getElem? (of_decide_eq_true l1))
    have hcb := callB_ok (M := M) (d := d) (mc := mc) (ms := ms) (mc' := mc') (ms' := ms') hok hts (hts _ l1) hpar
    refine call_go (M := callee a) (mc := mc') (ms := ms') (K := K') (rest := stk.map (emb g)) (va_runS (As := as.map (emb g)) (Ts := W0) (n := v.toNat) ⟨hF.1, hF.2.1, hF.2.2.1, hF.2.2.2.1, hts⟩ hMet ⟨hcb, hts _ (SM_ok _ (List.mem_of_getElem? l2))⟩ ⟨PcA_blind g _ X, PcA_at hK hS hB hD hs⟩ rfl (by simpa using hlen) hl.1 rfl (lv_room (by rw [szS_cat]; exact hsz)) hdec ⟨hc, hs'⟩) hs (fun w X1 H1 locs1 hw hk1 hD1 hS1 => ?_)
    have k := k w X1 hw hk1 g p l e s m args below meth c0 Fz H1 locs1 ls hF hK hS hB hR hD1 hS1 hl (push_rg hw hst9.2) hlo hc hs'
    rw [fall1 hfal (by simp), push_emb] at k
    exact k
  · rw [if_neg hb] at l1
    obtain ⟨host, l1⟩ := nest_at hK (NM_ok _ (List.mem_of_getElem? (of_decide_eq_true l1)))
    have hcb := callN_ok (M := M) (d := d) (mc := mc) (ms := ms) (mc' := mc') (ms' := ms') hok hts l1 hpar
    refine call_go (M := callee a) (mc := mc') (ms := ms') (K := K') (rest := stk.map (emb g)) (va_runSN (As := as.map (emb g)) (Ts := W0) (n := v.toNat) ⟨hF.1, hF.2.1, hF.2.2.1, hF.2.2.2.1, hts⟩ hMet ⟨hcb, hts _ (SM_ok _ (List.mem_of_getElem? l2)), trivial⟩ ⟨PcA_blind g _ X, PcA_at hK hS hB hD hs⟩ rfl (by simpa using hlen) hl.1 rfl (lv_room (by rw [szS_cat]; exact hsz)) hdec ⟨hc, hs'⟩) hs (fun w X1 H1 locs1 hw hk1 hD1 hS1 => ?_)
    have k := k w X1 hw hk1 g p l e s m args below meth c0 Fz H1 locs1 ls hF hK hS hB hR hD1 hS1 hl (push_rg hw hst9.2) hlo hc hs'
    rw [fall1 hfal (by simp), push_emb] at k
    exact k
theorem aw_calli {r : Int} {as : List AV} {mc' ms' : Nat} {K' : Int → HS → Prop} (hM : chkM M = true) (hi : (mT M)[pos]? = some (33, pc, a, b, c, v, tl)) (hok : okM (callee a)) (hret : mR (callee a) = none) (hr : 0 ≤ r) (hlen : as.length = v.toNat) (hsz : szS stk ≤ 8) (hc : cells + mc' ≤ mc) (hs' : slots + ms' ≤ ms)
    (hA : AM (callee a) d mc' ms' ((2, r) :: as) X K') (k : ∀ (w : Int) (X' : HS), rgR (callee a) w → K' w X' → AW M (d + 1) mc ms (pos + 1) (pushR (callee a) w stk) loc X' (cells + mc') (slots + ms') K) : AW M (d + 1) mc ms pos (as.reverse ++ (2, r) :: stk) loc X cells slots K := by
  intro g p l e s m args below meth c0 Fz H locs ls hF hK hS hB hR hD hs hl hst hlo hc1 hc2
  have hdec := chk_dec hM hi
  have hfal := chk_fall hM hi
  have hpo := chk_pool hM hi
  rw [pcOf_at hi]
  have hpo2 : (LIM[tl.getD 1 0]? = some a ∧ (if b = 0 then decide (LML[tl.getD 0 0]? = some (mOi M, c, a)) else decide (LNM[tl.getD 0 0]? = some (mOi M, c, a))) = true) ∧ mA (callee a) = v.toNat := by simpa [poolO] using hpo
  obtain ⟨⟨l2, l1⟩, hpar⟩ := hpo2
  have hnm := (IM_ok _ (List.mem_of_getElem? l2)).2
  have hts := hF.2.2.2.2.1
  obtain ⟨q, rfl⟩ : ∃ q : Nat, r = (q : Int) := ⟨r.toNat, by omega⟩
  have hst9 : (∀ w ∈ as, rgv w) ∧ ∀ w ∈ stk, rgv w := ⟨fun w hw => hst w (List.mem_append_left _ (List.mem_reverse.mpr hw)), fun w hw => hst w (List.mem_append_right _ (List.mem_cons_of_mem _ hw))⟩
  have hMet := hA l g (List.forall_mem_cons.mpr ⟨trivial, hst9.1⟩)
  rw [map_app]
  by_cases hb : b = 0
  · rw [if_pos hb] at l1
    have l1 := ML_ok _ (List.mem_of_getElem? (of_decide_eq_true l1))
    have hcb := callB_ok (M := M) (d := d) (mc := mc) (ms := ms) (mc' := mc') (ms' := ms') hok hts (hts _ l1) hpar
    rw [hret] at hcb
    refine call_go (M := callee a) (mc := mc') (ms := ms') (K := K') (rest := stk.map (emb g)) (va_runI (As := as.map (emb g)) (b := gB g + q) (Ts := W0) (n := v.toNat) ⟨hF.1, hF.2.1, hF.2.2.1, hF.2.2.2.1, hts⟩ hMet ⟨hcb, hnm, hts _ (IM_ok _ (List.mem_of_getElem? l2)).1⟩ ⟨PcA_blind g _ X, PcA_at (as := (2, (q : Int)) :: as) hK hS hB hD hs⟩ rfl (by simpa using hlen) hl.1 rfl (lv_room (by rw [szS_cat]; exact hsz)) hdec ⟨hc, hs'⟩) hs (fun w X1 H1 locs1 hw hk1 hD1 hS1 => ?_)
    have k := k w X1 hw hk1 g p l e s m args below meth c0 Fz H1 locs1 ls hF hK hS hB hR hD1 hS1 hl (push_rg hw hst9.2) hlo hc hs'
    rw [fall1 hfal (by simp), push_emb] at k
    exact k
  · rw [if_neg hb] at l1
    obtain ⟨host, l1⟩ := nest_at hK (NM_ok _ (List.mem_of_getElem? (of_decide_eq_true l1)))
    have hcb := callN_ok (M := M) (d := d) (mc := mc) (ms := ms) (mc' := mc') (ms' := ms') hok hts l1 hpar
    rw [hret] at hcb
    refine call_go (M := callee a) (mc := mc') (ms := ms') (K := K') (rest := stk.map (emb g)) (va_runIN (As := as.map (emb g)) (b := gB g + q) (Ts := W0) (n := v.toNat) ⟨hF.1, hF.2.1, hF.2.2.1, hF.2.2.2.1, hts⟩ hMet ⟨hcb, hnm, hts _ (IM_ok _ (List.mem_of_getElem? l2)).1⟩ ⟨PcA_blind g _ X, PcA_at (as := (2, (q : Int)) :: as) hK hS hB hD hs⟩ rfl (by simpa using hlen) hl.1 rfl (lv_room (by rw [szS_cat]; exact hsz)) hdec ⟨hc, hs'⟩) hs (fun w X1 H1 locs1 hw hk1 hD1 hS1 => ?_)
    have k := k w X1 hw hk1 g p l e s m args below meth c0 Fz H1 locs1 ls hF hK hS hB hR hD1 hS1 hl (push_rg hw hst9.2) hlo hc hs'
    rw [fall1 hfal (by simp), push_emb] at k
    exact k
/-- what stands on the stack at a method's end -/
def topR (M : MI) (v : Int) : List AV := pushR M v []
theorem aw_ret {w : Int} (hM : chkM M = true) (hi : (mT M)[pos]? = some (34, pc, a, b, c, v, tl)) (hrg : rgR M w) (k : K w X) : AW M d mc ms pos (topR M w) loc X cells slots K := by
  intro g p l e s m args below meth c0 Fz H locs ls hF hK hS hB hR hD hs hl hst hlo hc1 hc2
  have hdec := chk_dec hM hi
  have hfal := chk_fall hM hi
  have hpo := chk_pool hM hi
  rw [pcOf_at hi]
  have e9 : (topR M w).map (emb g) = (emR g M w).toList := by
    unfold topR
    rw [push_emb]
    simp
  rw [e9]
  refine W.widen hc1 hc2 ?_
  exact hR H locs ls pc X w hdec hD hs hrg k
theorem topR_rg {w : Int} (h : mR M ≠ some .boolean) (hst : ∀ z ∈ topR M w, rgv z) : rgR M w := by
  unfold topR pushR at hst
  unfold rgR
  split
  · trivial
  · rename_i z; rw [z] at hst; exact hst _ List.mem_cons_self
  · rename_i z; exact absurd z h
  · rename_i z; rw [z] at hst; exact hst _ List.mem_cons_self
  · trivial
/-- a method's end, the answer's kind seen from the stack -/
theorem aw_retn {w : Int} (hM : chkM M = true) (hi : (mT M)[pos]? = some (34, pc, a, b, c, v, tl)) (hb : mR M ≠ some .boolean) (k : K w X) : AW M d mc ms pos (topR M w) loc X cells slots K := by
  intro g p l e s m args below meth c0 Fz H locs ls hF hK hS hB hR hD hs hl hst hlo hc1 hc2
  exact aw_ret hM hi (topR_rg hb hst) k g p l e s m args below meth c0 Fz H locs ls hF hK hS hB hR hD hs hl hst hlo hc1 hc2
def locA (i : Nat) (as : List AV) : Lo := match as with
  | [] => []
  | v :: r => (i, v) :: locA (i + (if v.1 = 1 then 2 else 1)) r
theorem locA_emb (g : Gx) (as : List AV) : ∀ i, lv_args i (as.map (emb g)) = embL g (locA i as) := by
  induction as with
  | nil => intro i; rfl
  | cons w r ih =>
    intro i
    have e : (emb g w).category = (if w.1 = 1 then 2 else 1) := by
      by_cases h : w.1 = 1
      · rw [if_pos h]
        have h1 := cat_emb g w
        rw [h] at h1
        simpa using h1
      · rw [if_neg h]; exact cat1 h
    show lv_args i (emb g w :: r.map (emb g)) = _
    simp only [lv_args, locA, embL, List.map_cons]
    rw [e, ih]
    by_cases h : w.1 = 1
    · simp only [if_pos h]; rfl
    · simp only [if_neg h]; rfl
theorem locA_rg {as : List AV} (h : ∀ w ∈ as, rgv w) : ∀ i, ∀ q ∈ locA i as, rgv q.2 := by
  induction as with
  | nil => intro i q hq; cases hq
  | cons w r ih =>
    intro i q hq
    rcases List.mem_cons.mp hq with rfl | hq
    · exact h _ List.mem_cons_self
    · exact ih (fun z hz => h z (List.mem_cons_of_mem _ hz)) _ q hq
theorem szA (g : Gx) (as : List AV) : (lg_sl (as.map (emb g))).length = szS as := by
  induction as with
  | nil => rfl
  | cons w r ih =>
    have e : (emb g w).category = (if w.1 = 1 then 2 else 1) := by
      by_cases h : w.1 = 1
      · rw [if_pos h]
        have h1 := cat_emb g w
        rw [h] at h1
        simpa using h1
      · rw [if_neg h]; exact cat1 h
    unfold lg_sl at ih ⊢
    rw [List.map_cons, List.flatMap_cons, List.length_append, ih, e]
    show _ = (if w.1 = 1 then 2 else 1) + szS r
    congr 1
    by_cases h : w.1 = 1
    · simp [h]
    · simp [h]
theorem ok_ret {M : MI} (h : okM M) : retOk (mR M) = true := h.2.2.2.2.2.1
/-- a method's contract, from its first row on -/
theorem am_aw {as : List AV} (hok : okM M) (hsz : szS as ≤ mL M) (h0 : pcOf M 0 = 0) (k : (∀ w ∈ as, rgv w) → AW M d mc ms 0 [] (locA 0 as) X 0 0 K) : AM M d mc ms as X K := by
  intro l g hrg
  have k := k hrg
  refine Met.ofW (cc := mC M) (maxL := mL M) (ret := mR M) (ok_facts hok).2.2.2.1 rfl ?_
  intro p e s m args below meth c0 s₁ B hml hv
  obtain ⟨rfl, hK, hS, hB, hD⟩ := hv
  have hts := atoms_spec (ws := wsM M) B.pre
  have hlocks := B.notSynchronized
  have hF : FX M p s m (as.map (emb g)).toArray meth c0 := ⟨B.exec, B.bytes, hml, by rw [← hok.2.2.2.2.2.2.2]; exact findClass_of_methodNamed B.named, fun w hw => hts w (List.mem_cons_of_mem _ hw), B.returns, hlocks, (name_of_methodNamed B.named B.method).1⟩
  have hl := lv_entry (as.map (emb g)) (n := mL M) (by rw [szA]; exact hsz)
  rw [lg_entry_eq]
  rw [locA_emb] at hl
  have k := k g p l e s m _ below meth c0 (MQ below (fun _ st oc t => (∃ (v : Int) (X' : HS), oc = .returned (emR g M v) ∧ rgR M v ∧ K v X' ∧ WD g X' t.heap) ∧ va_F (AA g) st t) (as.map (emb g)).toArray s mc ms (AA g)) s.heap [] _ hF hK hS hB ?_ hD va_S.rf hl (fun _ h => by cases h) (locA_rg hrg 0) (Nat.zero_le _) (Nat.zero_le _)
  · rw [h0] at k
    exact k
  · intro H locs ls pc X1 v hdec hD1 hS1 hrv hk
    have hq : ∀ t : State, t.heap = H → s.WarmedH t.vm → (∃ (v1 : Int) (X' : HS), Outcome.returned (emR g M v) = .returned (emR g M v1) ∧ rgR M v1 ∧ K v1 X' ∧ WD g X' t.heap) ∧ va_F (AA g) s t := fun t ht _ => ⟨⟨v, X1, rfl, hrv, hk, by rw [ht]; exact hD1⟩, hS1.F ht⟩
    have hret := hF.2.2.2.2.2.1
    unfold retI at hdec
    unfold emR at hq ⊢
    unfold rgR at hrv
    have hro := ok_ret hok
    revert hq hdec hrv hret hro
    cases hm : mR M with
    | none => intro hdec hrv hq hret _; exact W.vret hF.1 hF.2.1 hret hq hS1.2.2 hdec
    | some t =>
      cases t with
      | int => intro hdec hrv hq hret _; exact W.iret hF.1 hF.2.1 hret hq hS1.2.2 hdec
      | long => intro hdec hrv hq hret _; exact W.lret hF.1 hF.2.1 hret hq hS1.2.2 hdec
      | boolean =>
        intro hdec hrv hq hret _
        refine W.zret (v := Int32.ofInt v) hF.1 hF.2.1 hret ?_ hq hS1.2.2 hdec
        rcases hrv with rfl | rfl <;> rfl
      | object n =>
        intro hdec hrv hq hret _
        refine W.aret (v := va_rf (refO g v)) hF.1 hF.2.1 hret (Or.inl ⟨_, rfl⟩) ?_ hq hS1.2.2 hdec
        cases refO g v
        · exact Or.inl rfl
        · exact Or.inr ⟨_, rfl⟩
      | array n =>
        intro hdec hrv hq hret _
        refine W.aret (v := va_rf (refO g v)) hF.1 hF.2.1 hret (Or.inr ⟨_, rfl⟩) ?_ hq hS1.2.2 hdec
        cases refO g v
        · exact Or.inl rfl
        · exact Or.inr ⟨_, rfl⟩
      | _ => intro hdec hrv hq hret hro; cases hro
