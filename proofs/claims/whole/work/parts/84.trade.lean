-- ===== the model: some are done who point to nobody
def pmF (n : Int) (ls : Int → Int → Int) (sz h dn : Int → Int) (p : Int) : Int := if dn p = 0 then (if h p < 0 then -2 else nt (ptF n ls sz h dn p)) else -2
/-- nobody is left who points to nobody -/
def allM (n : Int) (ls : Int → Int → Int) (sz h dn : Int → Int) : Prop := ∀ p, 0 ≤ p → p < n → dn p = 0 → ¬ pmF n ls sz h dn p = -2
def dnM (n : Int) (ls : Int → Int → Int) (sz h dn : Int → Int) : Int → Int := fun p => if dn p = 0 ∧ pmF n ls sz h dn p = -2 then 1 else dn p
def enM (n : Int) (ls : Int → Int → Int) (sz h dn en : Int → Int) : Int → Int := fun p => if dn p = 0 ∧ pmF n ls sz h dn p = -2 then h p else en p
theorem M_endsSome_ok {d : Nat} {K : Int → Mem → Prop} {s : Mem} {g n m : Int} {ls : Int → Int → Int} {sz h dn en : Int → Int} (g0 : 0 ≤ g) (g5 : g ≤ 5) (hL : LGo n m ls sz) (hM : LM s g n m ls sz) (m8 : m ≤ 8) (eN : s 357 g = n) (n7 : 0 ≤ n ∧ n ≤ 7) (hh : ∀ o, 0 ≤ o → o < n → s 394 o = h o) (hd : ∀ o, 0 ≤ o → o < n → s 396 o = dn o) (he : ∀ o, 0 ≤ o → o < n → s 395 o = en o)
    (k1 : ∀ s2 : Mem, ¬ allM n ls sz h dn → (∀ o, 0 ≤ o → o < n → s2 396 o = dnM n ls sz h dn o ∧ s2 395 o = enM n ls sz h dn en o) → (∀ b j, ¬ (395 ≤ b ∧ b ≤ 397) → s2 b j = s b j) → K 1 s2) (k0 : ∀ s2 : Mem, allM n ls sz h dn → (∀ o, 0 ≤ o → o < n → s2 396 o = dn o ∧ s2 395 o = en o ∧ s2 397 o = pmF n ls sz h dn o) → (∀ b j, ¬ (395 ≤ b ∧ b ≤ 397) → s2 b j = s b j) → K 0 s2) : AM2 i_M_endsSome (d + 2) [(2, 356), (0, g)] s K := by
  have l29 : ∀ (q : Nat) (p a : Int) (s1 : Mem), 0 ≤ p → p + q = n → ((a = 1 ∧ ¬ allM n ls sz h dn) ∨ (a = 0 ∧ ∀ o, 0 ≤ o → o < p → dn o = 0 → ¬ pmF n ls sz h dn o = -2)) → (∀ o, 0 ≤ o → o < n → s1 396 o = (if o < p then dnM n ls sz h dn o else dn o) ∧ s1 395 o = (if o < p then enM n ls sz h dn en o else en o) ∧ s1 397 o = pmF n ls sz h dn o) → (∀ b j, ¬ (395 ≤ b ∧ b ≤ 397) → s1 b j = s b j) → AW2 i_M_endsSome (d + 2) 29 [] [(0, (2, 356)), (1, (0, g)), (2, (0, a)), (3, (0, p))] s1 K := by
    intro q
    induction q with
    | zero =>
      intro p a s1 p0 e ha hm f
      refine s_M_endsSome_29 (inb_i g0 (by omega) ?_)
      rw [f 357 g (by omega), eN]
      refine brF_i (by omega) ?_
      rcases ha with ⟨ha, hq⟩ | ⟨ha, hq⟩
      · rw [ha]
        exact boolP_i (Or.inr rfl) (k1 s1 hq (fun o o0 o1 => by
          have := hm o o0 o1
          rw [if_pos (by omega), if_pos (by omega)] at this
          exact ⟨this.1, this.2.1⟩) f)
      · rw [ha]
        refine boolP_i (Or.inl rfl) (k0 s1 (fun o o0 o1 => hq o o0 (by omega)) (fun o o0 o1 => ?_) f)
        have := hm o o0 o1
        rw [if_pos (by omega), if_pos (by omega)] at this
        refine ⟨?_, ?_, this.2.2⟩
        · rw [this.1]; unfold dnM
          rw [if_neg (fun w => hq o o0 (by omega) w.1 w.2)]
        · rw [this.2.1]; unfold enM
          rw [if_neg (fun w => hq o o0 (by omega) w.1 w.2)]
    | succ q ih =>
      intro p a s1 p0 e ha hm f
      have hv := hm p p0 (by omega)
      rw [if_neg (by omega), if_neg (by omega)] at hv
      have keep : ∀ a2 : Int, ¬ (dn p = 0 ∧ pmF n ls sz h dn p = -2) → a2 = a → AW2 i_M_endsSome (d + 2) 29 [] [(0, (2, 356)), (1, (0, g)), (2, (0, a2)), (3, (0, p + 1))] s1 K := fun a2 hn e2 => by
        rw [e2]
        refine ih (p + 1) a s1 (by omega) (by omega) ?_ (fun o o0 o1 => ?_) f
        · rcases ha with ha | ⟨ha, hq⟩
          · exact Or.inl ha
          · refine Or.inr ⟨ha, fun o o0 o1 c => ?_⟩
            by_cases z : o = p
            · rw [z] at c ⊢; exact fun w => hn ⟨c, w⟩
            · exact hq o o0 (by omega) c
        · have := hm o o0 o1
          by_cases z : o = p
          · rw [z, if_pos (by omega), if_pos (by omega)]
            refine ⟨?_, ?_, hv.2.2⟩
            · rw [hv.1]; unfold dnM; rw [if_neg hn]
            · rw [hv.2.1]; unfold enM; rw [if_neg hn]
          · by_cases y : o < p
            · rw [if_pos y, if_pos y] at this
              rw [if_pos (by omega), if_pos (by omega)]; exact this
            · rw [if_neg y, if_neg y] at this
              rw [if_neg (by omega), if_neg (by omega)]; exact this
      refine s_M_endsSome_29 (inb_i g0 (by omega) ?_)
      rw [f 357 g (by omega), eN, hv.1, hv.2.2, w32_id (x := p + 1) (by omega) (by omega)]
      refine brT_i (by omega) (inb_i p0 (by omega) ⟨fun c => inb_i p0 (by omega) ⟨fun c2 => inb_i p0 (by omega) (inb_i p0 (by omega) (inb_i p0 (by omega) ?_)), fun c2 => keep a (fun w => c2 w.2) rfl⟩, fun c => keep a (fun w => c w.1) rfl⟩)
      rw [show st s1 396 p 1 394 p = h p by rw [st_ne (by omega), f _ _ (by omega)]; exact hh p p0 (by omega)]
      refine ih (p + 1) 1 _ (by omega) (by omega) (Or.inl ⟨rfl, fun w => w p p0 (by omega) c c2⟩) (fun o o0 o1 => ?_) (fun b j z => by rw [st_ne (by omega), st_ne (by omega)]; exact f b j z)
      have := hm o o0 o1
      by_cases z : o = p
      · rw [z, if_pos (by omega), if_pos (by omega)]
        refine ⟨?_, ?_, ?_⟩
        · rw [st_ne (by omega), st_self]; unfold dnM; rw [if_pos ⟨c, c2⟩]
        · rw [st_self]; unfold enM; rw [if_pos ⟨c, c2⟩]
        · rw [st_ne (by omega), st_ne (by omega)]; exact hv.2.2
      · rw [st_ne (by omega), st_ne (by omega), st_ne (by omega), st_ne (by omega), st_ne (by omega), st_ne (by omega)]
        by_cases y : o < p
        · rw [if_pos y, if_pos y] at this
          rw [if_pos (by omega), if_pos (by omega)]; exact this
        · rw [if_neg y, if_neg y] at this
          rw [if_neg (by omega), if_neg (by omega)]; exact this
  have l4 : ∀ (q : Nat) (p : Int) (s1 : Mem), 0 ≤ p → p + q = n → (∀ o, 0 ≤ o → o < p → s1 397 o = pmF n ls sz h dn o) → (∀ b j, ¬ b = 397 → s1 b j = s b j) → AW2 i_M_endsSome (d + 2) 4 [] [(0, (2, 356)), (1, (0, g)), (2, (0, 0)), (3, (0, p))] s1 K := by
    intro q
    induction q with
    | zero =>
      intro p s1 p0 e hm f
      refine s_M_endsSome_4 (inb_i g0 (by omega) ?_)
      rw [f 357 g (by omega), eN]
      refine brF_i (by omega) (l29 n.toNat 0 0 s1 (Int.le_refl 0) (by omega) (Or.inr ⟨rfl, fun o o0 o1 => by omega⟩) (fun o o0 o1 => ?_) (fun b j z => f b j (by omega)))
      rw [if_neg (by omega), if_neg (by omega)]
      exact ⟨by rw [f _ _ (by omega)]; exact hd o o0 o1, by rw [f _ _ (by omega)]; exact he o o0 o1, hm o o0 (by omega)⟩
    | succ q ih =>
      intro p s1 p0 e hm f
      have step : ∀ v : Int, v = pmF n ls sz h dn p → AW2 i_M_endsSome (d + 2) 4 [] [(0, (2, 356)), (1, (0, g)), (2, (0, 0)), (3, (0, p + 1))] (st s1 397 p v) K := fun v ev => by
        refine ih (p + 1) _ (by omega) (by omega) (fun o o0 o1 => ?_) (fun b j z => by rw [st_ne (by omega)]; exact f b j z)
        by_cases z : o = p
        · rw [z, st_self]; exact ev
        · rw [st_ne (by omega)]; exact hm o o0 (by omega)
      refine s_M_endsSome_4 (inb_i g0 (by omega) ?_)
      rw [f 357 g (by omega), eN, f 396 p (by omega), hd p p0 (by omega), w32_id (x := p + 1) (by omega) (by omega)]
      refine brT_i (by omega) (inb_i p0 (by omega) ⟨fun c => ?_, fun c => inb_i p0 (by omega) (step _ (by unfold pmF; rw [if_neg c]))⟩)
      refine M_pointOf_ok (d := d) (n := n) (m := m) (ls := ls) (sz := sz) (h := h) (dn := dn) g0 g5 hL ⟨fun x x0 x1 => by rw [f _ _ (by omega)]; exact hM.1 x x0 x1, fun x i x0 x1 i0 i1 => by rw [f _ _ (by omega)]; exact hM.2 x i x0 x1 i0 i1⟩ m8 (by rw [f _ _ (by omega)]; exact eN) n7 p0 (by omega) (fun _ => c) (fun o o0 o1 => by rw [f _ _ (by omega)]; exact hh o o0 o1) (fun o o0 o1 => by rw [f _ _ (by omega)]; exact hd o o0 o1) (inb_i p0 (by omega) (step _ ?_))
      unfold pmF
      rw [if_pos c]
  exact e_M_endsSome fun _ => l4 n.toNat 0 s (Int.le_refl 0) (by omega) (fun o o0 o1 => by omega) (fun _ _ _ => rfl)
