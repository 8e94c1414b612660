/-! ===== each call keeps the invariant, both sides answer alike ===== -/
def CC (M1 M2 : MI) (as : List AV) (σ : Mem) : Prop := ∀ (C : Mem → Prop), (∀ σ2, Inv σ2 → C σ2) → AM2 M1 24 ((2, 0) :: as) σ (fun w1 σ1 => AM2 M2 24 ((2, 356) :: as) σ1 (fun w2 σ2 => w1 = w2 ∧ C σ2))
theorem way_shelf {σ s : Mem} (f : ∀ b j, ¬ (b = 262 ∧ σ 356 10 ≤ j) → ¬ (b = 366 ∧ σ 356 10 ≤ j) → ¬ (b = 0 ∧ j = 5) → ¬ (b = 356 ∧ j = 10) → s b j = σ b j) (hw : σ 356 10 ≤ s 356 10) (h : I_shelf σ ∧ I_byte σ) : I_shelf s ∧ I_byte s :=
  ⟨shelf_fr (fun b j z => f b j (by omega) (by omega) (by omega) (by omega)) hw (fun j z => f _ _ (by omega) (by omega) (by omega) (by omega)) h.1, byte_fr (fun b j z => f b j (by omega) (by omega) (by omega) (by omega)) h.2⟩
theorem c_feed {σ : Mem} (h : Inv σ) (x y : Int) : CC i_X_feed i_M_feed [(0, x), (0, y)] σ := by
  obtain ⟨hT, hW, hA, ⟨hS, hY⟩, ⟨hs, hb⟩, ⟨hI, hG⟩, hR, hE, hP, hF, hQ⟩ := id h
  exact fun C k => call_feed (d := 22) hT (fun r σ2 f n => ⟨rfl, k σ2 (inv_feed h f n)⟩)
theorem c_kindOf {σ : Mem} (h : Inv σ) (x : Int) : CC i_X_kindOf i_M_kindOf [(0, x)] σ := by
  obtain ⟨hT, hW, hA, ⟨hS, hY⟩, ⟨hs, hb⟩, ⟨hI, hG⟩, hR, hE, hP, hF, hQ⟩ := id h
  exact fun C k => call_kindOf (d := 21) hW (fun r => ⟨rfl, k σ h⟩)
theorem c_way {σ : Mem} (h : Inv σ) (x : Int) : CC i_X_way i_M_way [(0, x)] σ := by
  obtain ⟨hT, hW, hA, ⟨hS, hY⟩, ⟨hs, hb⟩, ⟨hI, hG⟩, hR, hE, hP, hF, hQ⟩ := id h
  exact fun C k => call_way (d := 22) hW (fun r σ2 f n l => ⟨rfl, k σ2 (inv_way h (fun b j z1 z2 z3 z4 => f b j (fun q => z1 q.1) (fun q => z2 q.1) z3 z4) n (way_shelf f l ⟨hS, hY⟩))⟩)
theorem c_trace {σ : Mem} (h : Inv σ) (x : Int) : CC i_X_trace i_M_trace [(0, x)] σ := by
  obtain ⟨hT, hW, hA, ⟨hS, hY⟩, ⟨hs, hb⟩, ⟨hI, hG⟩, hR, hE, hP, hF, hQ⟩ := id h
  exact fun C k => call_trace (d := 23) hA (fun r => ⟨rfl, k σ h⟩)
theorem c_element {σ : Mem} (h : Inv σ) (x y : Int) : CC i_X_element i_M_element [(0, x), (0, y)] σ := by
  obtain ⟨hT, hW, hA, ⟨hS, hY⟩, ⟨hs, hb⟩, ⟨hI, hG⟩, hR, hE, hP, hF, hQ⟩ := id h
  exact fun C k => call_element (d := 20) hS (fun r => ⟨rfl, k σ h⟩)
theorem c_put {σ : Mem} (h : Inv σ) (x y z : Int) : CC i_X_put i_M_put [(0, x), (0, y), (1, z)] σ := by
  obtain ⟨hT, hW, hA, ⟨hS, hY⟩, ⟨hs, hb⟩, ⟨hI, hG⟩, hR, hE, hP, hF, hQ⟩ := id h
  exact fun C k => call_put (d := 20) hS (fun r σ2 f n n2 => ⟨rfl, k σ2 (inv_put h f ⟨n, n2 hY⟩)⟩)
theorem c_keep {σ : Mem} (h : Inv σ) (x y : Int) : CC i_X_keep i_M_keep [(0, x), (0, y)] σ := by
  obtain ⟨hT, hW, hA, ⟨hS, hY⟩, ⟨hs, hb⟩, ⟨hI, hG⟩, hR, hE, hP, hF, hQ⟩ := id h
  exact fun C k => call_keep (d := 21) hW hS (fun r σ2 f n n2 => ⟨rfl, k σ2 (inv_keep h f ⟨n, n2 hY⟩)⟩)
theorem c_taken {σ : Mem} (h : Inv σ) (x y : Int) : CC i_X_taken i_M_taken [(0, x), (0, y)] σ := by
  obtain ⟨hT, hW, hA, ⟨hS, hY⟩, ⟨hs, hb⟩, ⟨hI, hG⟩, hR, hE, hP, hF, hQ⟩ := id h
  exact fun C k => call_taken (d := 21) hs hW hS (fun r => ⟨rfl, k σ h⟩)
theorem c_row {σ : Mem} (h : Inv σ) (x y z : Int) : CC i_X_row i_M_row [(0, x), (0, y), (0, z)] σ := by
  obtain ⟨hT, hW, hA, ⟨hS, hY⟩, ⟨hs, hb⟩, ⟨hI, hG⟩, hR, hE, hP, hF, hQ⟩ := id h
  exact fun C k => call_row (d := 21) hS (fun r σ2 f n n2 => ⟨rfl, k σ2 (inv_row h f ⟨n, n2 hY⟩)⟩)
theorem c_shift {σ : Mem} (h : Inv σ) (x y z u v : Int) : CC i_X_shift i_M_shift [(0, x), (0, y), (0, z), (0, u), (0, v)] σ := by
  obtain ⟨hT, hW, hA, ⟨hS, hY⟩, ⟨hs, hb⟩, ⟨hI, hG⟩, hR, hE, hP, hF, hQ⟩ := id h
  exact fun C k => call_shift (d := 21) hS (fun r σ2 f n n2 => ⟨rfl, k σ2 (inv_shift h f ⟨n, n2 hY⟩)⟩)
theorem c_count {σ : Mem} (h : Inv σ) (x : Int) : CC i_X_count i_M_count [(0, x)] σ := by
  obtain ⟨hT, hW, hA, ⟨hS, hY⟩, ⟨hs, hb⟩, ⟨hI, hG⟩, hR, hE, hP, hF, hQ⟩ := id h
  exact fun C k => call_count (d := 23) (Inv_count h) (fun r => ⟨rfl, k σ h⟩)
theorem c_of {σ : Mem} (h : Inv σ) (x y : Int) : CC i_X_of i_M_of [(0, x), (0, y)] σ := by
  obtain ⟨hT, hW, hA, ⟨hS, hY⟩, ⟨hs, hb⟩, ⟨hI, hG⟩, hR, hE, hP, hF, hQ⟩ := id h
  exact fun C k => call_of (d := 21) hI (fun r => ⟨rfl, k σ h⟩)
theorem c_level {σ : Mem} (h : Inv σ) (x y z : Int) : CC i_X_level i_M_level [(0, x), (0, y), (0, z)] σ := by
  obtain ⟨hT, hW, hA, ⟨hS, hY⟩, ⟨hs, hb⟩, ⟨hI, hG⟩, hR, hE, hP, hF, hQ⟩ := id h
  exact fun C k => call_level (d := 20) hI (fun r => ⟨rfl, k σ h⟩)
theorem c_listed {σ : Mem} (h : Inv σ) (x y z : Int) : CC i_X_listed i_M_listed [(0, x), (0, y), (0, z)] σ := by
  obtain ⟨hT, hW, hA, ⟨hS, hY⟩, ⟨hs, hb⟩, ⟨hI, hG⟩, hR, hE, hP, hF, hQ⟩ := id h
  exact fun C k => call_listed (d := 20) hI (fun r => ⟨rfl, k σ h⟩)
theorem c_bars {σ : Mem} (h : Inv σ) (x : Int) : CC i_X_bars i_M_bars [(0, x)] σ := by
  obtain ⟨hT, hW, hA, ⟨hS, hY⟩, ⟨hs, hb⟩, ⟨hI, hG⟩, hR, hE, hP, hF, hQ⟩ := id h
  exact fun C k => call_bars (d := 21) hI (fun r σ2 f => ⟨rfl, k σ2 (inv_bars h f)⟩)
theorem c_told {σ : Mem} (h : Inv σ) (x y z : Int) : CC i_X_told i_M_told [(0, x), (0, y), (0, z)] σ := by
  obtain ⟨hT, hW, hA, ⟨hS, hY⟩, ⟨hs, hb⟩, ⟨hI, hG⟩, hR, hE, hP, hF, hQ⟩ := id h
  exact fun C k => call_told (d := 20) hI (fun r σ2 f n => ⟨rfl, k σ2 (by rcases f with e | ⟨g0, g1, ht⟩; exact e ▸ h; exact inv_TE h g0 g1 ht n)⟩)
theorem c_rounds {σ : Mem} (h : Inv σ) (x y : Int) : CC i_X_rounds i_M_rounds [(0, x), (0, y)] σ := by
  obtain ⟨hT, hW, hA, ⟨hS, hY⟩, ⟨hs, hb⟩, ⟨hI, hG⟩, hR, hE, hP, hF, hQ⟩ := id h
  exact fun C k => call_rounds (d := 21) hI (fun r σ2 f n => ⟨rfl, k σ2 (by rcases f with e | ⟨g0, g1, ht⟩; exact e ▸ h; exact inv_RE h g0 g1 ht n)⟩)
theorem c_takes {σ : Mem} (h : Inv σ) (x y z : Int) : CC i_X_takes i_M_takes [(0, x), (0, y), (0, z)] σ := by
  obtain ⟨hT, hW, hA, ⟨hS, hY⟩, ⟨hs, hb⟩, ⟨hI, hG⟩, hR, hE, hP, hF, hQ⟩ := id h
  exact fun C k => call_takes (d := 20) hI (fun r => ⟨rfl, k σ h⟩)
theorem c_table {σ : Mem} (h : Inv σ) (x y z : Int) : CC i_X_table i_M_table [(0, x), (0, y), (0, z)] σ := by
  obtain ⟨hT, hW, hA, ⟨hS, hY⟩, ⟨hs, hb⟩, ⟨hI, hG⟩, hR, hE, hP, hF, hQ⟩ := id h
  exact fun C k => call_table (d := 21) hI hS hY (fun r σ2 f n => ⟨rfl, k σ2 (by rcases f with e | ⟨g0, g1, ht⟩; exact e ▸ h; exact inv_TE h g0 g1 ht n)⟩)
theorem c_run {σ : Mem} (h : Inv σ) (x y z : Int) : CC i_X_run i_M_run [(0, x), (0, y), (0, z)] σ := by
  obtain ⟨hT, hW, hA, ⟨hS, hY⟩, ⟨hs, hb⟩, ⟨hI, hG⟩, hR, hE, hP, hF, hQ⟩ := id h
  exact fun C k => call_run (d := 20) hI hW (I_rr_run hR) (fun r σ2 f n => ⟨rfl, k σ2 (by rcases f with f | ⟨e, f⟩; exact inv_run0 h f; exact inv_run h f (rr_run n e))⟩)
theorem c_has {σ : Mem} (h : Inv σ) (x y : Int) : CC i_X_has i_M_has [(0, x), (0, y)] σ := by
  obtain ⟨hT, hW, hA, ⟨hS, hY⟩, ⟨hs, hb⟩, ⟨hI, hG⟩, hR, hE, hP, hF, hQ⟩ := id h
  exact fun C k => call_has (d := 20) hI (I_rr_run hR) (fun r => ⟨rfl, k σ h⟩)
theorem c_left {σ : Mem} (h : Inv σ) (x : Int) : CC i_X_left i_M_left [(0, x)] σ := by
  obtain ⟨hT, hW, hA, ⟨hS, hY⟩, ⟨hs, hb⟩, ⟨hI, hG⟩, hR, hE, hP, hF, hQ⟩ := id h
  exact fun C k => call_left (d := 20) hI (I_rr_run hR) (fun r => ⟨rfl, k σ h⟩)
theorem c_led {σ : Mem} (h : Inv σ) (x y z : Int) : CC i_X_led i_M_led [(0, x), (0, y), (0, z)] σ := by
  obtain ⟨hT, hW, hA, ⟨hS, hY⟩, ⟨hs, hb⟩, ⟨hI, hG⟩, hR, hE, hP, hF, hQ⟩ := id h
  exact fun C k => call_led (d := 20) hI (I_rr_run hR) (fun r => ⟨rfl, k σ h⟩)
theorem c_order {σ : Mem} (h : Inv σ) (x y : Int) : CC i_X_order i_M_order [(0, x), (0, y)] σ := by
  obtain ⟨hT, hW, hA, ⟨hS, hY⟩, ⟨hs, hb⟩, ⟨hI, hG⟩, hR, hE, hP, hF, hQ⟩ := id h
  exact fun C k => call_order (d := 21) hI hE (fun r σ2 f n => ⟨rfl, k σ2 (inv_order h f n)⟩)
theorem c_even {σ : Mem} (h : Inv σ) : CC i_X_even i_M_even [] σ := by
  obtain ⟨hT, hW, hA, ⟨hS, hY⟩, ⟨hs, hb⟩, ⟨hI, hG⟩, hR, hE, hP, hF, hQ⟩ := id h
  exact fun C k => call_even (d := 19) hI hE (fun r σ2 f n => ⟨rfl, k σ2 (inv_even h f n)⟩)
theorem c_evenIs {σ : Mem} (h : Inv σ) (x : Int) : CC i_X_evenIs i_M_evenIs [(0, x)] σ := by
  obtain ⟨hT, hW, hA, ⟨hS, hY⟩, ⟨hs, hb⟩, ⟨hI, hG⟩, hR, hE, hP, hF, hQ⟩ := id h
  exact fun C k => call_evenIs (d := 22) hE (fun r => ⟨rfl, k σ h⟩)
theorem c_swap {σ : Mem} (h : Inv σ) (x y : Int) : CC i_X_swap i_M_swap [(0, x), (0, y)] σ := by
  obtain ⟨hT, hW, hA, ⟨hS, hY⟩, ⟨hs, hb⟩, ⟨hI, hG⟩, hR, hE, hP, hF, hQ⟩ := id h
  exact fun C k => call_swap (d := 19) hI hP (fun r σ2 f n => ⟨rfl, k σ2 (by rcases f with e | ⟨g0, g1, f⟩; exact e ▸ h; exact inv_swap g0 (by have := hI.2.2.1; omega) h f n)⟩)
theorem c_years {σ : Mem} (h : Inv σ) (x y z u : Int) : CC i_X_years i_M_years [(0, x), (0, y), (0, z), (0, u)] σ := by
  obtain ⟨hT, hW, hA, ⟨hS, hY⟩, ⟨hs, hb⟩, ⟨hI, hG⟩, hR, hE, hP, hF, hQ⟩ := id h
  exact fun C k => call_years (d := 20) hI (fun r σ2 f => ⟨rfl, k σ2 (inv_years h f)⟩)
theorem c_ring {σ : Mem} (h : Inv σ) (x : Int) : CC i_X_ring i_M_ring [(0, x)] σ := by
  obtain ⟨hT, hW, hA, ⟨hS, hY⟩, ⟨hs, hb⟩, ⟨hI, hG⟩, hR, hE, hP, hF, hQ⟩ := id h
  exact fun C k => call_ring (d := 4) hI hR (fun r σ2 f n => ⟨rfl, k σ2 (inv_ring h f n)⟩)
theorem c_giving {σ : Mem} (h : Inv σ) : CC i_X_giving i_M_giving [] σ := by
  obtain ⟨hT, hW, hA, ⟨hS, hY⟩, ⟨hs, hb⟩, ⟨hI, hG⟩, hR, hE, hP, hF, hQ⟩ := id h
  exact fun C k => call_giving (d := 18) hI hG hT (fun r σ2 f n n2 n3 => ⟨rfl, k σ2 (inv_NE h f n n2 n3)⟩)
theorem c_instead {σ : Mem} (h : Inv σ) (x y : Int) : CC i_X_instead i_M_instead [(0, x), (0, y)] σ := by
  obtain ⟨hT, hW, hA, ⟨hS, hY⟩, ⟨hs, hb⟩, ⟨hI, hG⟩, hR, hE, hP, hF, hQ⟩ := id h
  exact fun C k => call_instead (d := 19) hI hG hT (fun r σ2 f n n2 n3 => ⟨rfl, k σ2 (inv_NE h f n n2 n3)⟩)
theorem c_act {σ : Mem} (h : Inv σ) (x y z : Int) : CC i_X_act i_M_act [(0, x), (0, y), (0, z)] σ := by
  obtain ⟨hT, hW, hA, ⟨hS, hY⟩, ⟨hs, hb⟩, ⟨hI, hG⟩, hR, hE, hP, hF, hQ⟩ := id h
  exact fun C k => call_act (d := 13) hs hb hW (fun r σ2 f n => ⟨rfl, k σ2 (inv_act h f n)⟩)
theorem c_share {σ : Mem} (h : Inv σ) (x y z u : Int) : CC i_X_share i_M_share [(0, x), (0, y), (0, z), (0, u)] σ := by
  obtain ⟨hT, hW, hA, ⟨hS, hY⟩, ⟨hs, hb⟩, ⟨hI, hG⟩, hR, hE, hP, hF, hQ⟩ := id h
  exact fun C k => call_share (d := 18) hI hW hF (fun r σ2 f n => ⟨rfl, k σ2 (inv_SE h f (SE_giv f hI) n)⟩)
theorem c_stops {σ : Mem} (h : Inv σ) (x : Int) : CC i_X_stops i_M_stops [(0, x)] σ := by
  obtain ⟨hT, hW, hA, ⟨hS, hY⟩, ⟨hs, hb⟩, ⟨hI, hG⟩, hR, hE, hP, hF, hQ⟩ := id h
  exact fun C k => call_stops (d := 18) hI hF (fun r σ2 f n => ⟨rfl, k σ2 (inv_SE h f (SE_giv f hI) n)⟩)
theorem c_rather {σ : Mem} (h : Inv σ) (x y z u : Int) : CC i_X_rather i_M_rather [(0, x), (0, y), (0, z), (0, u)] σ := by
  obtain ⟨hT, hW, hA, ⟨hS, hY⟩, ⟨hs, hb⟩, ⟨hI, hG⟩, hR, hE, hP, hF, hQ⟩ := id h
  exact fun C k => call_rather (d := 18) hI hW hF hG (fun r σ2 f n => ⟨rfl, k σ2 (inv_SE h f (SE_giv f hI) n)⟩)
theorem c_envy {σ : Mem} (h : Inv σ) (x y : Int) : CC i_X_envy i_M_envy [(0, x), (0, y)] σ := by
  obtain ⟨hT, hW, hA, ⟨hS, hY⟩, ⟨hs, hb⟩, ⟨hI, hG⟩, hR, hE, hP, hF, hQ⟩ := id h
  exact fun C k => call_envy (d := 18) hI hW hF hG (fun r σ2 f n => ⟨rfl, k σ2 (inv_SE h f (SE_giv f hI) n)⟩)
theorem c_wrongly {σ : Mem} (h : Inv σ) (x y z u : Int) : CC i_X_wrongly i_M_wrongly [(0, x), (0, y), (0, z), (0, u)] σ := by
  obtain ⟨hT, hW, hA, ⟨hS, hY⟩, ⟨hs, hb⟩, ⟨hI, hG⟩, hR, hE, hP, hF, hQ⟩ := id h
  exact fun C k => call_wrongly (d := 17) hI hW hF hG (fun r σ2 f n => ⟨rfl, k σ2 (inv_SE h f (SE_giv f hI) n)⟩)
theorem c_gains {σ : Mem} (h : Inv σ) (x y z : Int) : CC i_X_gains i_M_gains [(0, x), (0, y), (0, z)] σ := by
  obtain ⟨hT, hW, hA, ⟨hS, hY⟩, ⟨hs, hb⟩, ⟨hI, hG⟩, hR, hE, hP, hF, hQ⟩ := id h
  exact fun C k => call_gains (d := 12) hI hW hF hG (fun r σ2 f n => ⟨rfl, k σ2 (inv_SE h f (SE_giv f hI) n)⟩)
theorem c_parted {σ : Mem} (h : Inv σ) (x y z : Int) : CC i_X_parted i_M_parted [(0, x), (0, y), (0, z)] σ := by
  obtain ⟨hT, hW, hA, ⟨hS, hY⟩, ⟨hs, hb⟩, ⟨hI, hG⟩, hR, hE, hP, hF, hQ⟩ := id h
  exact fun C k => call_parted (d := 15) hI hQ (fun r σ2 f n => ⟨rfl, k σ2 (inv_part h f n)⟩)
