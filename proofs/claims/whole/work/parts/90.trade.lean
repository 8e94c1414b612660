-- ===== trades: the model
theorem M_trades_ok {d : Nat} {K : Int → Mem → Prop} {s : Mem} {g n m : Int} {ls : Int → Int → Int} {sz h am : Int → Int} (g0 : 0 ≤ g) (g5 : g ≤ 5) (hL : LGo n m ls sz) (hLM : LM s g n m ls sz) (eN : s 357 g = n) (eM : s 358 g = m) (n7 : 0 ≤ n ∧ n ≤ 7) (m8 : 0 ≤ m ∧ m ≤ 8) (hg : ∀ o, 0 ≤ o → o < n → s 361 (7 * g + o) = h o) (hh : HT n m h) (ha : ∀ t, 0 ≤ t → t < m → s 360 (8 * g + t) = am t ∧ 1 ≤ am t ∧ am t ≤ 9) (hT : TP s 387 n m (fun _ => 0))
    (q : ∀ s2 : Mem, TP s2 387 n m (trN n am ls sz h) → (∀ b j, ¬ b = 381 → ¬ b = 387 → ¬ (394 ≤ b ∧ b ≤ 397) → s2 b j = s b j) → K 0 s2) : AM2 i_M_trades (d + 3) [(2, 356), (0, g)] s K := by
  have hcr : ∀ (E : Int → Int) (t : Int) (u : Nat), 0 ≤ sm (fun v => if E v = t then 1 else 0) u 0 0 ∧ sm (fun v => if E v = t then 1 else 0) u 0 0 ≤ u := fun E t u => by
    have := sm_le (f := fun v => if E v = t then 1 else 0) (lo := 0) (hi := 1) u 0 0 (fun j _ _ => by
      show 0 ≤ (if E j = t then (1 : Int) else 0) ∧ (if E j = t then (1 : Int) else 0) ≤ 1
      split <;> omega)
    omega
  have hE0 := fun o => ((stN_TSI (ls := ls) (sz := sz) n7.1 hh 7 _ (S0t_TSI hh)).1 o).2.2
  -- what is left is taken, and the tops
  have l92 : ∀ (u : Nat) (p : Int) (E : Int → Int) (s1 : Mem), 0 ≤ p → p + u = n → (∀ o, -1 ≤ E o ∧ E o < m) → (∀ o, p ≤ o → o < n → s1 395 o = E o) → (∀ t, 0 ≤ t → t < m → s1 381 t = am t - cntE n E t) → rsF n am ls sz u p E = trR n am ls sz h → (∀ o, 0 ≤ o → o < p → trR n am ls sz h o = E o) → (∀ o t, 0 ≤ o → o < n → 0 ≤ t → t < m → s1 387 (8 * o + t) = if o < p ∧ E o = t then 1 else 0) → (∀ b j, ¬ b = 381 → ¬ b = 387 → ¬ (394 ≤ b ∧ b ≤ 397) → s1 b j = s b j) → AW2 i_M_trades (d + 3) 92 [] [(0, (2, 356)), (1, (0, g)), (3, (0, p))] s1 K := by
    intro u
    induction u with
    | zero =>
      intro p E s1 p0 e hE hp hl er ho hP f
      have er : E = trR n am ls sz h := er
      refine s_M_trades_92 (inb_i g0 (by omega) ?_)
      rw [f 357 g (by omega) (by omega) (by omega), eN]
      refine brF_i (by omega) (q s1 (fun o t o0 o1 t0 t1 => ?_) f)
      rw [hP o t o0 o1 t0 t1]
      show _ = if trR n am ls sz h ((8 * o + t) / 8) = (8 * o + t) % 8 then 1 else 0
      rw [show (8 * o + t) / 8 = o by omega, show (8 * o + t) % 8 = t by omega, ← er]
      by_cases c : E o = t
      · rw [if_pos ⟨by omega, c⟩, if_pos c]
      · rw [if_neg (fun w => c w.2), if_neg c]
    | succ u ih =>
      intro p E s1 p0 e hE hp hl er ho hP f
      have hs := hL.1 p p0 (by omega)
      have e1 : rsF n am ls sz (u + 1) p E = rsF n am ls sz u (p + 1) (if E p < 0 then up E p (fsT (fun t => decide (cntE n E t < am t)) (ls p) (sz p).toNat 0) else E) := rfl
      rw [e1] at er
      have hnx : ∀ (E2 : Int → Int) (u : Nat) (p : Int), 0 ≤ p → p + u = n → ∀ o, o < p → rsF n am ls sz u p E2 o = E2 o := by
        intro E2 u
        induction u generalizing E2 with
        | zero => intro p _ _ o _; rfl
        | succ u ihu =>
          intro p p0 e o o1
          have e1 : rsF n am ls sz (u + 1) p E2 = rsF n am ls sz u (p + 1) (if E2 p < 0 then up E2 p (fsT (fun t => decide (cntE n E2 t < am t)) (ls p) (sz p).toNat 0) else E2) := rfl
          rw [e1, ihu _ (p + 1) (by omega) (by omega) o (by omega)]
          split
          · rw [up_n (by omega)]
          · rfl
      -- the top of p is put, and the next one's turn
      have fin : ∀ (E2 : Int → Int) (s2 : Mem), (∀ o, ¬ o = p → E2 o = E o) → (∀ o, -1 ≤ E2 o ∧ E2 o < m) → ((0 ≤ E2 p ∧ s2 395 p = E2 p) ∨ (E2 p < 0 ∧ s2 395 p < 0)) → (∀ o, p < o → o < n → s2 395 o = E o) → (∀ t, 0 ≤ t → t < m → s2 381 t = am t - cntE n E2 t) → rsF n am ls sz u (p + 1) E2 = trR n am ls sz h → (∀ b j, ¬ b = 381 → ¬ (394 ≤ b ∧ b ≤ 397) → s2 b j = s1 b j) → AW2 i_M_trades (d + 3) 127 [] [(0, (2, 356)), (1, (0, g)), (3, (0, p))] s2 K := fun E2 s2 h1 h2 h3 h4 h5 h6 f2 => by
        have ho2 : ∀ o, 0 ≤ o → o < p + 1 → trR n am ls sz h o = E2 o := fun o o0 o1 => by
          rw [← h6]
          exact hnx E2 u (p + 1) (by omega) (by omega) o (by omega)
        refine s_M_trades_127 (inb_i p0 (by omega) ⟨fun c => ?_, fun c => inb_i p0 (by omega) ?_⟩)
        · have hn : E2 p < 0 := by rcases h3 with w | w <;> omega
          refine s_M_trades_144 ?_
          rw [w32_id (x := p + 1) (by omega) (by omega)]
          refine ih (p + 1) E2 s2 (by omega) (by omega) h2 (fun o o0 o1 => by rw [h4 o (by omega) o1, h1 o (by omega)]) h5 h6 ho2 (fun o t o0 o1 t0 t1 => ?_) (fun b j z1 z2 z3 => by rw [f2 b j z1 z3]; exact f b j z1 z2 z3)
          rw [f2 _ _ (by omega) (by omega), hP o t o0 o1 t0 t1]
          by_cases y : o = p
          · rw [y, if_neg (by omega), if_neg (by omega)]
          · rw [h1 o y]
            by_cases z : o < p ∧ E o = t
            · rw [if_pos z, if_pos ⟨by omega, z.2⟩]
            · rw [if_neg z, if_neg (fun w => z ⟨by omega, w.2⟩)]
        · have hn : 0 ≤ E2 p ∧ s2 395 p = E2 p := by rcases h3 with w | w; exact w; omega
          have h2p := h2 p
          rw [hn.2, w32_id (x := 8 * p) (by omega) (by omega), w32_id (x := 8 * p + E2 p) (by omega) (by omega)]
          refine inb_i (by omega) (by omega) (s_M_trades_144 ?_)
          rw [w32_id (x := p + 1) (by omega) (by omega)]
          refine ih (p + 1) E2 _ (by omega) (by omega) h2 (fun o o0 o1 => by rw [st_ne (by omega), h4 o (by omega) o1, h1 o (by omega)]) (fun t t0 t1 => by rw [st_ne (by omega)]; exact h5 t t0 t1) h6 ho2 (fun o t o0 o1 t0 t1 => ?_) (fun b j z1 z2 z3 => by rw [st_ne (by omega), f2 b j z1 z3]; exact f b j z1 z2 z3)
          by_cases y : o = p ∧ E2 p = t
          · rw [y.1, ← y.2, st_self, if_pos ⟨by omega, rfl⟩]
          · rw [st_ne (by omega), f2 _ _ (by omega) (by omega), hP o t o0 o1 t0 t1]
            by_cases x : o = p
            · rw [x, if_neg (by omega), if_neg (fun w => by rw [x] at y; exact y ⟨rfl, w.2⟩)]
            · rw [h1 o x]
              by_cases z : o < p ∧ E o = t
              · rw [if_pos z, if_pos ⟨by omega, z.2⟩]
              · rw [if_neg z, if_neg (fun w => z ⟨by omega, w.2⟩)]
      refine s_M_trades_92 (inb_i g0 (by omega) ?_)
      rw [f 357 g (by omega) (by omega) (by omega), eN, hp p (Int.le_refl p) (by omega)]
      refine brT_i (by omega) (inb_i p0 (by omega) ⟨fun c => ?_, fun c => ?_⟩)
      · rw [if_pos c] at er
        have hfl := M_firstLeft_ok (d := d + 1) (n := n) (m := m) (ls := ls) (sz := sz) (S := ((fun t => am t - cntE n E t, fun _ => 0, fun _ _ => 0, fun _ _ => 0) : RS)) (s := s1) (K := fun w1 σ1 => inb p 7 (inb p 7 ((((st σ1 395 p w1) 395 p) < 0 → AW2 i_M_trades (d + 3) 127 [] [(0, (2, 356)), (1, (0, g)), (3, (0, p))] (st σ1 395 p w1) K) ∧ (¬ ((st σ1 395 p w1) 395 p) < 0 → inb p 7 (inb ((st σ1 395 p w1) 395 p) 8 (inb ((st σ1 395 p w1) 395 p) 8 (AW2 i_M_trades (d + 3) 127 [] [(0, (2, 356)), (1, (0, g)), (3, (0, p))] (st (st σ1 395 p w1) 381 ((st σ1 395 p w1) 395 p) (w32 (((st σ1 395 p w1) 381 ((st σ1 395 p w1) 395 p)) - 1))) K))))))) g0 g5 n7.2 m8.2 hL ⟨fun x x0 x1 => by rw [f _ _ (by omega) (by omega) (by omega)]; exact hLM.1 x x0 x1, fun x i x0 x1 i0 i1 => by rw [f _ _ (by omega) (by omega) (by omega)]; exact hLM.2 x i x0 x1 i0 i1⟩ hl p0 (by omega)
        refine hfl ?_
        have efr : frs ls sz ((fun t => am t - cntE n E t, fun _ => 0, fun _ _ => 0, fun _ _ => 0) : RS) p = fsT (fun t => decide (cntE n E t < am t)) (ls p) (sz p).toNat 0 := by
          unfold frs
          refine fsT_congr _ _ (fun j j0 j1 => ⟨rfl, ?_⟩)
          show decide (0 < am (ls p j) - cntE n E (ls p j)) = decide (cntE n E (ls p j) < am (ls p j))
          simp only [decide_eq_decide]
          omega
        rw [efr]
        have hT2 : fsT (fun t => decide (cntE n E t < am t)) (ls p) (sz p).toNat 0 = -1 ∨ (0 ≤ fsT (fun t => decide (cntE n E t < am t)) (ls p) (sz p).toNat 0 ∧ fsT (fun t => decide (cntE n E t < am t)) (ls p) (sz p).toNat 0 < m) := by
          rcases fsT_cases (c := fun t => decide (cntE n E t < am t)) (ls := ls p) (sz p).toNat 0 with ⟨z, -⟩ | ⟨j, j0, j1, z, -, -⟩
          · exact Or.inl z
          · rw [z]; exact Or.inr (hL.2 p j p0 (by omega) j0 (by omega))
        generalize fsT (fun t => decide (cntE n E t < am t)) (ls p) (sz p).toNat 0 = v at *
        rw [st_self]
        refine inb_i p0 (by omega) (inb_i p0 (by omega) ?_)
        rcases hT2 with z | z
        · rw [z]
          rw [z] at er
          refine brT_i (by decide) (fin (up E p (-1)) _ (fun o y => up_n y) (fun o => ?_) (Or.inr ⟨by rw [up_s]; decide, by rw [st_self]; decide⟩) (fun o o0 o1 => by rw [st_ne (by omega)]; exact hp o (by omega) o1) (fun t t0 t1 => ?_) er (fun b j z1 z2 => by rw [st_ne (by omega)]))
          · by_cases y : o = p
            · rw [y, up_s]; omega
            · rw [up_n y]; exact hE o
          · rw [st_ne (by omega), hl t t0 t1]
            congr 1
            unfold cntE
            refine sm_congr _ _ _ (fun j _ _ => ?_)
            by_cases y : j = p
            · rw [y, up_s, if_neg (by omega), if_neg (by omega)]
            · rw [up_n y]
        · have ev : nt v = v := by unfold nt; rw [if_neg (by omega)]
          rw [ev]
          have hcv := hcr E v n.toNat
          have hav := ha v z.1 z.2
          refine brF_i (by omega) (inb_i p0 (by omega) (inb_i z.1 (by omega) (inb_i z.1 (by omega) ?_)))
          rw [show st s1 395 p v 381 v = am v - cntE n E v by rw [st_ne (by omega)]; exact hl v z.1 z.2, w32_id (x := am v - cntE n E v - 1) (by unfold cntE; omega) (by unfold cntE; omega)]
          refine fin (up E p v) _ (fun o y => up_n y) (fun o => ?_) (Or.inl ⟨by rw [up_s]; exact z.1, by rw [up_s, st_ne (by omega), st_self]⟩) (fun o o0 o1 => by rw [st_ne (by omega), st_ne (by omega)]; exact hp o (by omega) o1) (fun t t0 t1 => ?_) er (fun b j z1 z2 => by rw [st_ne (by omega), st_ne (by omega)])
          · by_cases y : o = p
            · rw [y, up_s]; omega
            · rw [up_n y]; exact hE o
          · have hset := sm_set (f := fun x => if up E p v x = t then (1 : Int) else 0) (f' := fun x => if E x = t then (1 : Int) else 0) (d := p) n.toNat 0 0 p0 (by omega) (fun x _ _ y => by
              show (if up E p v x = t then (1 : Int) else 0) = if E x = t then 1 else 0
              rw [up_n y])
            have hset : cntE n (up E p v) t = cntE n E t + (if up E p v p = t then 1 else 0) - (if E p = t then 1 else 0) := hset
            rw [hset, up_s, if_neg (show ¬ E p = t by omega)]
            by_cases y : t = v
            · rw [y, st_self, if_pos rfl]; omega
            · rw [st_ne (by omega), st_ne (by omega), hl t t0 t1, if_neg (fun w => y w.symm)]; omega
      · rw [if_neg c] at er
        exact fin E s1 (fun _ _ => rfl) hE (Or.inl ⟨by omega, hp p (Int.le_refl p) (by omega)⟩) (fun o o0 o1 => hp o (by omega) o1) hl er (fun _ _ _ _ => rfl)
  -- rings, till all are done
  have big : ∀ (N : Nat) (M : DE) (s1 : Mem), cz n M.1 < N → (∀ x, M.1 x = 0 ∨ M.1 x = 1) → rch n ls sz h (cv h M) → (∀ o, 0 ≤ o → o < n → s1 394 o = h o ∧ s1 396 o = M.1 o ∧ s1 395 o = M.2 o) → (∀ b j, ¬ (394 ≤ b ∧ b ≤ 397) → ¬ b = 381 → s1 b j = s b j) → (∀ t, 0 ≤ t → t < m → s1 381 t = am t - cntE n h t) → AM2 i_M_endsSome (d + 2) [(2, 356), (0, g)] s1 (fun w1 σ1 => AW2 i_M_trades (d + 3) 78 [] [(0, (2, 356)), (1, (0, g)), (3, (0, w1))] σ1 K) := by
    intro N
    induction N with
    | zero => intro M s1 hN; have := cz_r (n := n) (dn := M.1) n7.1; omega
    | succ N ih =>
      intro M s1 hN hM hr hm f hl
      refine M_endsSome_ok (d := d) (n := n) (m := m) (ls := ls) (sz := sz) (h := h) (dn := M.1) (en := M.2) g0 g5 hL ⟨fun x x0 x1 => by rw [f _ _ (by omega) (by omega)]; exact hLM.1 x x0 x1, fun x i x0 x1 i0 i1 => by rw [f _ _ (by omega) (by omega)]; exact hLM.2 x i x0 x1 i0 i1⟩ m8.2 (by rw [f _ _ (by omega) (by omega)]; exact eN) n7 (fun o o0 o1 => (hm o o0 o1).1) (fun o o0 o1 => (hm o o0 o1).2.1) (fun o o0 o1 => (hm o o0 o1).2.2) (fun s2 hA hp f2 => ?_) (fun s2 hA hp f2 => ?_)
      · have h1 := cz_lt (n := n) (dnM_01 hM).2 (not_allM hA)
        refine s_M_trades_78 (br1 ?_)
        refine ih (dnM n ls sz h M.1, enM n ls sz h M.1 M.2) s2 (by show cz n (dnM n ls sz h M.1) < N; omega) (dnM_01 hM).1 ?_ (fun o o0 o1 => ⟨by rw [f2 _ _ (by omega)]; exact (hm o o0 o1).1, (hp o o0 o1).1, (hp o o0 o1).2⟩) (fun b j z1 z2 => by rw [f2 b j (by omega)]; exact f b j z1 z2) (fun t t0 t1 => by rw [f2 _ _ (by omega)]; exact hl t t0 t1)
        rcases cv_some n7.1 hL hh hM with e | e
        · rw [e]; exact hr
        · rw [e]; exact rch_s n7.1 hh hr
      · have hP := allM_P hL hA
        have hT2 := rch_TSI n7.1 hh hr
        have hq := ptF_Q (m := m) hh (fun x z => ((hT2.1 x).2.1 z).1) hP.2
        have hcv : ∀ x, (cv h M).1 x = 0 → M.1 x = 0 := fun x z => by
          rw [cv_hd x ((hT2.1 x).2.1 z).1]; exact z
        have hcr : ∀ x, 0 ≤ x → x < n → M.1 x = (cv h M).1 x := fun x x0 x1 => by
          by_cases c : M.1 x = 0
          · exact cv_hd x (hP.1 x x0 x1 c).1
          · show M.1 x = if h x < 0 then 1 else M.1 x
            split
            · rcases hM x with w | w
              · exact absurd w c
              · exact w
            · rfl
        have hfr : frR (ptF n ls sz h (cv h M).1) M.1 n.toNat n.toNat 0 = frR (ptF n ls sz h (cv h M).1) (cv h M).1 n.toNat n.toNat 0 := frR_congr _ _ (fun x a b => hcr x a (by omega))
        have est : stF n ls sz h (cv h M) = clR (ptF n ls sz h (cv h M).1) h n.toNat (cv h M) := by unfold stF; rw [if_pos ((alB_all n7.1).mpr hP.2)]
        have hpt : ∀ o, 0 ≤ o → o < n → M.1 o = 0 → s2 397 o = ptF n ls sz h (cv h M).1 o ∧ (0 ≤ ptF n ls sz h (cv h M).1 o ∧ ptF n ls sz h (cv h M).1 o < n) ∧ M.1 (ptF n ls sz h (cv h M).1 o) = 0 := fun o o0 o1 c => by
          have c2 : (cv h M).1 o = 0 := by rw [← hcr o o0 o1]; exact c
          exact ⟨by rw [(hp o o0 o1).2.2]; exact (hP.1 o o0 o1 c).2, ⟨hP.2 o o0 o1 c2, (ptF_r o0 o1).2⟩, hcv _ (hq o c2).2⟩
        refine s_M_trades_78 (br0 ?_)
        refine M_endsRing_ok (d := d + 1) (n := n) (f := ptF n ls sz h (cv h M).1) (h := h) (dn := M.1) (en := M.2) g0 g5 (by rw [f2 _ _ (by omega), f _ _ (by omega) (by omega)]; exact eN) n7 (fun o o0 o1 => by rw [f2 _ _ (by omega)]; exact (hm o o0 o1).1) (fun o o0 o1 => (hp o o0 o1).1) (fun o o0 o1 => (hp o o0 o1).2.1) hpt (fun s3 hne y f3 => ?_) (fun hno => ?_)
        · have hf := (frR_r (f := ptF n ls sz h (cv h M).1) (dn := M.1) (n := n.toNat) n.toNat 0).resolve_left hne
          have ecl : clR (ptF n ls sz h (cv h M).1) h n.toNat (M.1, M.2) = mdW (ptF n ls sz h (cv h M).1) h (frR (ptF n ls sz h (cv h M).1) M.1 n.toNat n.toNat 0) n.toNat (frR (ptF n ls sz h (cv h M).1) M.1 n.toNat n.toNat 0) M := by
            unfold clR
            rw [if_neg hne]
          rw [ecl] at y
          refine s_M_trades_72 (br1 ?_)
          refine ih _ s3 ?_ (fun x => (mdW_dn _ _ _ _ (hM x)).1) ?_ (fun o o0 o1 => ⟨by rw [f3 _ _ (by omega) (by omega), f2 _ _ (by omega)]; exact (hm o o0 o1).1, (y o o0 o1).1, (y o o0 o1).2⟩) (fun b j z1 z2 => by rw [f3 b j (by omega) (by omega), f2 b j (by omega)]; exact f b j z1 z2) (fun t t0 t1 => by rw [f3 _ _ (by omega) (by omega), f2 _ _ (by omega)]; exact hl t t0 t1)
          · have := cz_lt (n := n) (dn := M.1) (dn' := (mdW (ptF n ls sz h (cv h M).1) h (frR (ptF n ls sz h (cv h M).1) M.1 n.toNat n.toNat 0) n.toNat (frR (ptF n ls sz h (cv h M).1) M.1 n.toNat n.toNat 0) M).1) (fun x => (mdW_dn _ _ _ _ (hM x)).2) ⟨_, hf.1, by omega, hf.2.2.1, by rw [mdW_p _ _ _ (Or.inr rfl) (by omega)]; decide⟩
            omega
          · have e3 : cv h (mdW (ptF n ls sz h (cv h M).1) h (frR (ptF n ls sz h (cv h M).1) M.1 n.toNat n.toNat 0) n.toNat (frR (ptF n ls sz h (cv h M).1) M.1 n.toNat n.toNat 0) M) = stF n ls sz h (cv h M) := by
              rw [est]
              unfold clR
              rw [← hfr, if_neg hne]
              refine cv_md (Q := fun x => (cv h M).1 x = 0) (fun x z => ⟨((hT2.1 x).2.1 z).1, (hq x z).2⟩) _ _ _ ?_
              show (cv h M).1 _ = 0
              rw [← hcr _ hf.1 (by omega)]
              exact hf.2.2.1
            rw [e3]
            exact rch_s n7.1 hh hr
        · have hdone : ∀ o, 0 ≤ o → o < n → ¬ M.1 o = 0 := fun o o0 o1 c =>
            ring_ex (f := ptF n ls sz h (cv h M).1) (dn := M.1) (fun x z => ⟨(hpt x z.1 z.2.1 z.2.2).2.1.1, (hpt x z.1 z.2.1 z.2.2).2.1.2, (hpt x z.1 z.2.1 z.2.2).2.2⟩) ⟨o0, o1, c⟩ hno
          have efix : stF n ls sz h (cv h M) = cv h M := by
            rw [est]; unfold clR; rw [← hfr, if_pos hno]
          have eend := rch_end n7.1 hr efix
          have eE : trE n ls sz h = (cv h M).2 := by unfold trE; rw [← eend]
          refine s_M_trades_72 (br0 ?_)
          refine l92 n.toNat 0 (trE n ls sz h) s2 (Int.le_refl 0) (by omega) hE0 (fun o o0 o1 => ?_) (fun t t0 t1 => ?_) rfl (fun o o0 o1 => by omega) (fun o t o0 o1 t0 t1 => ?_) (fun b j z1 z2 z3 => by rw [f2 b j (by omega)]; exact f b j z3 z1)
          · rw [(hp o o0 o1).2.1, eE]
            show M.2 o = if M.1 o = 0 then h o else M.2 o
            rw [if_neg (hdone o o0 o1)]
          · rw [f2 _ _ (by omega), hl t t0 t1, eE, hT2.2 t]
          · rw [f2 _ _ (by omega), f _ _ (by omega) (by omega), hT o t o0 o1 t0 t1, if_neg (by omega)]
  have l24 : ∀ (u : Nat) (p : Int) (s1 : Mem), 0 ≤ p → p + u = n → (∀ o, 0 ≤ o → o < p → s1 394 o = h o ∧ s1 396 o = 0 ∧ s1 395 o = -1) → (∀ b j, ¬ (394 ≤ b ∧ b ≤ 397) → ¬ b = 381 → s1 b j = s b j) → (∀ t, 0 ≤ t → t < m → s1 381 t = am t - cntE p h t) → AW2 i_M_trades (d + 3) 24 [] [(0, (2, 356)), (1, (0, g)), (2, (0, p))] s1 K := by
    intro u
    induction u with
    | zero =>
      intro p s1 p0 e hm f hl
      have ep : p = n := by omega
      rw [ep] at hm hl ⊢
      refine s_M_trades_24 (inb_i g0 (by omega) ?_)
      rw [f 357 g (by omega) (by omega), eN]
      refine brF_i (by omega) (s_M_trades_72 (br1 ?_))
      refine big (n + 1).toNat (fun _ => 0, fun _ => -1) s1 ?_ (fun x => Or.inl rfl) ?_ (fun o o0 o1 => hm o o0 o1) f hl
      · have := cz_r (n := n) (dn := fun _ => 0) n7.1
        show cz n (fun _ => 0) < _
        omega
      · have e0 : cv h (fun _ => 0, fun _ => -1) = S0t h := rfl
        rw [e0]
        exact rch_0 n7.1 n7.2
    | succ u ih =>
      intro p s1 p0 e hm f hl
      have hx := hh p
      have ecn : ∀ t, cntE (p + 1) h t = cntE p h t + (if h p = t then 1 else 0) := fun t => by
        unfold cntE
        rw [show (p + 1).toNat = p.toNat + 1 by omega, sm_snoc, show (0 : Int) + (p.toNat : Int) = p by omega]
      have hm2 : ∀ o, 0 ≤ o → o < p + 1 → st (st (st s1 394 p (h p)) 395 p (-1)) 396 p 0 394 o = h o ∧ st (st (st s1 394 p (h p)) 395 p (-1)) 396 p 0 396 o = 0 ∧ st (st (st s1 394 p (h p)) 395 p (-1)) 396 p 0 395 o = -1 := fun o o0 o1 => by
        by_cases y : o = p
        · rw [y]
          exact ⟨by rw [st_ne (by omega), st_ne (by omega), st_self], st_self _ _ _ _, by rw [st_ne (by omega), st_self]⟩
        · rw [st_ne (by omega), st_ne (by omega), st_ne (by omega), st_ne (by omega), st_ne (by omega), st_ne (by omega), st_ne (by omega), st_ne (by omega), st_ne (by omega)]
          exact hm o o0 (by omega)
      have f2 : ∀ b j, ¬ (394 ≤ b ∧ b ≤ 397) → ¬ b = 381 → st (st (st s1 394 p (h p)) 395 p (-1)) 396 p 0 b j = s b j := fun b j z1 z2 => by
        rw [st_ne (by omega), st_ne (by omega), st_ne (by omega)]; exact f b j z1 z2
      have hl2 : ∀ t, 0 ≤ t → t < m → st (st (st s1 394 p (h p)) 395 p (-1)) 396 p 0 381 t = am t - cntE p h t := fun t t0 t1 => by
        rw [st_ne (by omega), st_ne (by omega), st_ne (by omega)]; exact hl t t0 t1
      refine s_M_trades_24 (inb_i g0 (by omega) ?_)
      rw [f 357 g (by omega) (by omega), eN, w32_id (x := 7 * g) (by omega) (by omega), w32_id (x := 7 * g + p) (by omega) (by omega), f 361 _ (by omega) (by omega), hg p p0 (by omega), (hm2 p p0 (by omega)).1]
      refine brT_i (by omega) (inb_i (by omega) (by omega) (inb_i p0 (by omega) (inb_i p0 (by omega) (inb_i p0 (by omega) (inb_i p0 (by omega) ⟨fun c => ?_, fun c => inb_i p0 (by omega) (inb_i (by omega) (by omega) (inb_i (by omega) (by omega) ?_))⟩)))))
      · refine s_M_trades_68 ?_
        rw [w32_id (x := p + 1) (by omega) (by omega)]
        refine ih (p + 1) _ (by omega) (by omega) hm2 f2 (fun t t0 t1 => ?_)
        rw [hl2 t t0 t1, ecn t, if_neg (by omega)]; omega
      · have hcc := hcr h (h p) p.toNat
        have haa := ha (h p) (by omega) hx.2.1
        rw [hl2 (h p) (by omega) hx.2.1, w32_id (x := am (h p) - cntE p h (h p) - 1) (by unfold cntE; omega) (by unfold cntE; omega)]
        refine s_M_trades_68 ?_
        rw [w32_id (x := p + 1) (by omega) (by omega)]
        refine ih (p + 1) _ (by omega) (by omega) (fun o o0 o1 => by rw [st_ne (by omega), st_ne (by omega), st_ne (by omega)]; exact hm2 o o0 o1) (fun b j z1 z2 => by rw [st_ne (by omega)]; exact f2 b j z1 z2) (fun t t0 t1 => ?_)
        rw [ecn t]
        by_cases y : t = h p
        · rw [y, st_self, if_pos rfl]; omega
        · rw [st_ne (by omega), hl2 t t0 t1, if_neg (fun w => y w.symm)]; omega
  have l2 : ∀ (u : Nat) (t : Int) (s1 : Mem), 0 ≤ t → t + u = m → (∀ v, 0 ≤ v → v < t → s1 381 v = am v) → (∀ b j, ¬ b = 381 → s1 b j = s b j) → AW2 i_M_trades (d + 3) 2 [] [(0, (2, 356)), (1, (0, g)), (2, (0, t))] s1 K := by
    intro u
    induction u with
    | zero =>
      intro t s1 t0 e hl f
      refine s_M_trades_2 (inb_i g0 (by omega) ?_)
      rw [f 358 g (by omega), eM]
      exact brF_i (by omega) (l24 n.toNat 0 s1 (Int.le_refl 0) (by omega) (fun o o0 o1 => by omega) (fun b j _ z2 => f b j z2) (fun v v0 v1 => by rw [hl v v0 (by omega)]; unfold cntE sm; show am v = am v - 0; omega))
    | succ u ih =>
      intro t s1 t0 e hl f
      refine s_M_trades_2 (inb_i g0 (by omega) ?_)
      rw [f 358 g (by omega), eM, w32_id (x := 8 * g) (by omega) (by omega), w32_id (x := 8 * g + t) (by omega) (by omega), w32_id (x := t + 1) (by omega) (by omega), f 360 _ (by omega), (ha t t0 (by omega)).1]
      refine brT_i (by omega) (inb_i (by omega) (by omega) (inb_i t0 (by omega) (ih (t + 1) _ (by omega) (by omega) (fun v v0 v1 => ?_) (fun b j z => by rw [st_ne (by omega)]; exact f b j z))))
      by_cases y : v = t
      · rw [y, st_self]
      · rw [st_ne (by omega)]; exact hl v v0 (by omega)
  exact e_M_trades fun _ => l2 m.toNat 0 s (Int.le_refl 0) (by omega) (fun v v0 v1 => by omega) (fun _ _ _ => rfl)
