/-! ===== the law: once around ===== -/
theorem la_cc {p n a b : Nat} {w : Bool} {i : Int} {σ : Mem} {K : Int → HS → Prop} (h : caseOk p n a b w = true ∧ kR (callee a) = cond w 1 0 ∧ kR (callee b) = cond w 1 0) (hn : n ≤ 5) (ha : a < 250) (hb : b < 250) (h0 : 0 ≤ i) (h1 : i + n < σ (-4) (-1)) (h2 : σ (-4) (-1) ≤ 3072) (hc : CC (callee a) (callee b) (argL σ i n) σ)
    (nx : ∀ σ2, Inv σ2 → σ2 (-4) (-1) = σ (-4) (-1) → (∀ j : Nat, (j : Int) < σ (-4) (-1) → σ2 (-4) j = σ (-4) j) → AWL 1201 [] (LL i) σ2 K) : AWL p [] (LL i) σ K :=
  la_case h.1 hn ha hb h.2.1 h.2.2 h0 h1 h2 (hc _ nx)
theorem go_feed {i : Int} {σ : Mem} {K : Int → HS → Prop} (h : Inv σ) (h0 : 0 ≤ i) (h1 : i + 6 ≤ σ (-4) (-1)) (h2 : σ (-4) (-1) ≤ 3072) (nx : ∀ σ2, Inv σ2 → σ2 (-4) (-1) = σ (-4) (-1) → (∀ j : Nat, (j : Int) < σ (-4) (-1) → σ2 (-4) j = σ (-4) j) → AWL 1201 [] (LL i) σ2 K) : AWL 22 [] (LL i) σ K :=
  la_cc cs_feed (by decide) (by decide) (by decide) h0 (by omega) h2 (by
    rw [show callee 86 = i_X_feed from rfl, show callee 152 = i_M_feed from rfl]
    exact c_feed h _ _) nx
theorem go_kindOf {i : Int} {σ : Mem} {K : Int → HS → Prop} (h : Inv σ) (h0 : 0 ≤ i) (h1 : i + 6 ≤ σ (-4) (-1)) (h2 : σ (-4) (-1) ≤ 3072) (nx : ∀ σ2, Inv σ2 → σ2 (-4) (-1) = σ (-4) (-1) → (∀ j : Nat, (j : Int) < σ (-4) (-1) → σ2 (-4) j = σ (-4) j) → AWL 1201 [] (LL i) σ2 K) : AWL 400 [] (LL i) σ K :=
  la_cc cs_kindOf (by decide) (by decide) (by decide) h0 (by omega) h2 (by
    rw [show callee 100 = i_X_kindOf from rfl, show callee 183 = i_M_kindOf from rfl]
    exact c_kindOf h _) nx
theorem go_way {i : Int} {σ : Mem} {K : Int → HS → Prop} (h : Inv σ) (h0 : 0 ≤ i) (h1 : i + 6 ≤ σ (-4) (-1)) (h2 : σ (-4) (-1) ≤ 3072) (nx : ∀ σ2, Inv σ2 → σ2 (-4) (-1) = σ (-4) (-1) → (∀ j : Nat, (j : Int) < σ (-4) (-1) → σ2 (-4) j = σ (-4) j) → AWL 1201 [] (LL i) σ2 K) : AWL 383 [] (LL i) σ K :=
  la_cc cs_way (by decide) (by decide) (by decide) h0 (by omega) h2 (by
    rw [show callee 99 = i_X_way from rfl, show callee 182 = i_M_way from rfl]
    exact c_way h _) nx
theorem go_trace {i : Int} {σ : Mem} {K : Int → HS → Prop} (h : Inv σ) (h0 : 0 ≤ i) (h1 : i + 6 ≤ σ (-4) (-1)) (h2 : σ (-4) (-1) ≤ 3072) (nx : ∀ σ2, Inv σ2 → σ2 (-4) (-1) = σ (-4) (-1) → (∀ j : Nat, (j : Int) < σ (-4) (-1) → σ2 (-4) j = σ (-4) j) → AWL 1201 [] (LL i) σ2 K) : AWL 930 [] (LL i) σ K :=
  la_cc cs_trace (by decide) (by decide) (by decide) h0 (by omega) h2 (by
    rw [show callee 117 = i_X_trace from rfl, show callee 237 = i_M_trace from rfl]
    exact c_trace h _) nx
theorem go_element {i : Int} {σ : Mem} {K : Int → HS → Prop} (h : Inv σ) (h0 : 0 ≤ i) (h1 : i + 6 ≤ σ (-4) (-1)) (h2 : σ (-4) (-1) ≤ 3072) (nx : ∀ σ2, Inv σ2 → σ2 (-4) (-1) = σ (-4) (-1) → (∀ j : Nat, (j : Int) < σ (-4) (-1) → σ2 (-4) j = σ (-4) j) → AWL 1201 [] (LL i) σ2 K) : AWL 1072 [] (LL i) σ K :=
  la_cc cs_element (by decide) (by decide) (by decide) h0 (by omega) h2 (by
    rw [show callee 121 = i_X_element from rfl, show callee 243 = i_M_element from rfl]
    exact c_element h _ _) nx
theorem go_put {i : Int} {σ : Mem} {K : Int → HS → Prop} (h : Inv σ) (h0 : 0 ≤ i) (h1 : i + 6 ≤ σ (-4) (-1)) (h2 : σ (-4) (-1) ≤ 3072) (nx : ∀ σ2, Inv σ2 → σ2 (-4) (-1) = σ (-4) (-1) → (∀ j : Nat, (j : Int) < σ (-4) (-1) → σ2 (-4) j = σ (-4) j) → AWL 1201 [] (LL i) σ2 K) : AWL 1011 [] (LL i) σ K :=
  la_put h0 (by omega) h2 (by
    rw [show callee 120 = i_X_put from rfl, show callee 242 = i_M_put from rfl]
    exact c_put h _ _ _ _ nx)
theorem go_keep {i : Int} {σ : Mem} {K : Int → HS → Prop} (h : Inv σ) (h0 : 0 ≤ i) (h1 : i + 6 ≤ σ (-4) (-1)) (h2 : σ (-4) (-1) ≤ 3072) (nx : ∀ σ2, Inv σ2 → σ2 (-4) (-1) = σ (-4) (-1) → (∀ j : Nat, (j : Int) < σ (-4) (-1) → σ2 (-4) j = σ (-4) j) → AWL 1201 [] (LL i) σ2 K) : AWL 947 [] (LL i) σ K :=
  la_cc cs_keep (by decide) (by decide) (by decide) h0 (by omega) h2 (by
    rw [show callee 118 = i_X_keep from rfl, show callee 239 = i_M_keep from rfl]
    exact c_keep h _ _) nx
theorem go_taken {i : Int} {σ : Mem} {K : Int → HS → Prop} (h : Inv σ) (h0 : 0 ≤ i) (h1 : i + 6 ≤ σ (-4) (-1)) (h2 : σ (-4) (-1) ≤ 3072) (nx : ∀ σ2, Inv σ2 → σ2 (-4) (-1) = σ (-4) (-1) → (∀ j : Nat, (j : Int) < σ (-4) (-1) → σ2 (-4) j = σ (-4) j) → AWL 1201 [] (LL i) σ2 K) : AWL 1157 [] (LL i) σ K :=
  la_cc cs_taken (by decide) (by decide) (by decide) h0 (by omega) h2 (by
    rw [show callee 123 = i_X_taken from rfl, show callee 245 = i_M_taken from rfl]
    exact c_taken h _ _) nx
theorem go_row {i : Int} {σ : Mem} {K : Int → HS → Prop} (h : Inv σ) (h0 : 0 ≤ i) (h1 : i + 6 ≤ σ (-4) (-1)) (h2 : σ (-4) (-1) ≤ 3072) (nx : ∀ σ2, Inv σ2 → σ2 (-4) (-1) = σ (-4) (-1) → (∀ j : Nat, (j : Int) < σ (-4) (-1) → σ2 (-4) j = σ (-4) j) → AWL 1201 [] (LL i) σ2 K) : AWL 974 [] (LL i) σ K :=
  la_cc cs_row (by decide) (by decide) (by decide) h0 (by omega) h2 (by
    rw [show callee 119 = i_X_row from rfl, show callee 240 = i_M_row from rfl]
    exact c_row h _ _ _) nx
theorem go_shift {i : Int} {σ : Mem} {K : Int → HS → Prop} (h : Inv σ) (h0 : 0 ≤ i) (h1 : i + 6 ≤ σ (-4) (-1)) (h2 : σ (-4) (-1) ≤ 3072) (nx : ∀ σ2, Inv σ2 → σ2 (-4) (-1) = σ (-4) (-1) → (∀ j : Nat, (j : Int) < σ (-4) (-1) → σ2 (-4) j = σ (-4) j) → AWL 1201 [] (LL i) σ2 K) : AWL 1100 [] (LL i) σ K :=
  la_cc cs_shift (by decide) (by decide) (by decide) h0 (by omega) h2 (by
    rw [show callee 122 = i_X_shift from rfl, show callee 244 = i_M_shift from rfl]
    exact c_shift h _ _ _ _ _) nx
theorem go_count {i : Int} {σ : Mem} {K : Int → HS → Prop} (h : Inv σ) (h0 : 0 ≤ i) (h1 : i + 6 ≤ σ (-4) (-1)) (h2 : σ (-4) (-1) ≤ 3072) (nx : ∀ σ2, Inv σ2 → σ2 (-4) (-1) = σ (-4) (-1) → (∀ j : Nat, (j : Int) < σ (-4) (-1) → σ2 (-4) j = σ (-4) j) → AWL 1201 [] (LL i) σ2 K) : AWL 1184 [] (LL i) σ K :=
  la_cc cs_count (by decide) (by decide) (by decide) h0 (by omega) h2 (by
    rw [show callee 124 = i_X_count from rfl, show callee 246 = i_M_count from rfl]
    exact c_count h _) nx
theorem go_of {i : Int} {σ : Mem} {K : Int → HS → Prop} (h : Inv σ) (h0 : 0 ≤ i) (h1 : i + 6 ≤ σ (-4) (-1)) (h2 : σ (-4) (-1) ≤ 3072) (nx : ∀ σ2, Inv σ2 → σ2 (-4) (-1) = σ (-4) (-1) → (∀ j : Nat, (j : Int) < σ (-4) (-1) → σ2 (-4) j = σ (-4) j) → AWL 1201 [] (LL i) σ2 K) : AWL 56 [] (LL i) σ K :=
  la_cc cs_of (by decide) (by decide) (by decide) h0 (by omega) h2 (by
    rw [show callee 88 = i_X_of from rfl, show callee 161 = i_M_of from rfl]
    exact c_of h _ _) nx
theorem go_level {i : Int} {σ : Mem} {K : Int → HS → Prop} (h : Inv σ) (h0 : 0 ≤ i) (h1 : i + 6 ≤ σ (-4) (-1)) (h2 : σ (-4) (-1) ≤ 3072) (nx : ∀ σ2, Inv σ2 → σ2 (-4) (-1) = σ (-4) (-1) → (∀ j : Nat, (j : Int) < σ (-4) (-1) → σ2 (-4) j = σ (-4) j) → AWL 1201 [] (LL i) σ2 K) : AWL 110 [] (LL i) σ K :=
  la_cc cs_level (by decide) (by decide) (by decide) h0 (by omega) h2 (by
    rw [show callee 90 = i_X_level from rfl, show callee 163 = i_M_level from rfl]
    exact c_level h _ _ _) nx
theorem go_listed {i : Int} {σ : Mem} {K : Int → HS → Prop} (h : Inv σ) (h0 : 0 ≤ i) (h1 : i + 6 ≤ σ (-4) (-1)) (h2 : σ (-4) (-1) ≤ 3072) (nx : ∀ σ2, Inv σ2 → σ2 (-4) (-1) = σ (-4) (-1) → (∀ j : Nat, (j : Int) < σ (-4) (-1) → σ2 (-4) j = σ (-4) j) → AWL 1201 [] (LL i) σ2 K) : AWL 147 [] (LL i) σ K :=
  la_cc cs_listed (by decide) (by decide) (by decide) h0 (by omega) h2 (by
    rw [show callee 91 = i_X_listed from rfl, show callee 164 = i_M_listed from rfl]
    exact c_listed h _ _ _) nx
theorem go_bars {i : Int} {σ : Mem} {K : Int → HS → Prop} (h : Inv σ) (h0 : 0 ≤ i) (h1 : i + 6 ≤ σ (-4) (-1)) (h2 : σ (-4) (-1) ≤ 3072) (nx : ∀ σ2, Inv σ2 → σ2 (-4) (-1) = σ (-4) (-1) → (∀ j : Nat, (j : Int) < σ (-4) (-1) → σ2 (-4) j = σ (-4) j) → AWL 1201 [] (LL i) σ2 K) : AWL 714 [] (LL i) σ K :=
  la_cc cs_bars (by decide) (by decide) (by decide) h0 (by omega) h2 (by
    rw [show callee 109 = i_X_bars from rfl, show callee 220 = i_M_bars from rfl]
    exact c_bars h _) nx
theorem go_told {i : Int} {σ : Mem} {K : Int → HS → Prop} (h : Inv σ) (h0 : 0 ≤ i) (h1 : i + 6 ≤ σ (-4) (-1)) (h2 : σ (-4) (-1) ≤ 3072) (nx : ∀ σ2, Inv σ2 → σ2 (-4) (-1) = σ (-4) (-1) → (∀ j : Nat, (j : Int) < σ (-4) (-1) → σ2 (-4) j = σ (-4) j) → AWL 1201 [] (LL i) σ2 K) : AWL 640 [] (LL i) σ K :=
  la_cc cs_told (by decide) (by decide) (by decide) h0 (by omega) h2 (by
    rw [show callee 107 = i_X_told from rfl, show callee 217 = i_M_told from rfl]
    exact c_told h _ _ _) nx
theorem go_rounds {i : Int} {σ : Mem} {K : Int → HS → Prop} (h : Inv σ) (h0 : 0 ≤ i) (h1 : i + 6 ≤ σ (-4) (-1)) (h2 : σ (-4) (-1) ≤ 3072) (nx : ∀ σ2, Inv σ2 → σ2 (-4) (-1) = σ (-4) (-1) → (∀ j : Nat, (j : Int) < σ (-4) (-1) → σ2 (-4) j = σ (-4) j) → AWL 1201 [] (LL i) σ2 K) : AWL 83 [] (LL i) σ K :=
  la_cc cs_rounds (by decide) (by decide) (by decide) h0 (by omega) h2 (by
    rw [show callee 89 = i_X_rounds from rfl, show callee 162 = i_M_rounds from rfl]
    exact c_rounds h _ _) nx
theorem go_takes {i : Int} {σ : Mem} {K : Int → HS → Prop} (h : Inv σ) (h0 : 0 ≤ i) (h1 : i + 6 ≤ σ (-4) (-1)) (h2 : σ (-4) (-1) ≤ 3072) (nx : ∀ σ2, Inv σ2 → σ2 (-4) (-1) = σ (-4) (-1) → (∀ j : Nat, (j : Int) < σ (-4) (-1) → σ2 (-4) j = σ (-4) j) → AWL 1201 [] (LL i) σ2 K) : AWL 184 [] (LL i) σ K :=
  la_cc cs_takes (by decide) (by decide) (by decide) h0 (by omega) h2 (by
    rw [show callee 92 = i_X_takes from rfl, show callee 165 = i_M_takes from rfl]
    exact c_takes h _ _ _) nx
theorem go_table {i : Int} {σ : Mem} {K : Int → HS → Prop} (h : Inv σ) (h0 : 0 ≤ i) (h1 : i + 6 ≤ σ (-4) (-1)) (h2 : σ (-4) (-1) ≤ 3072) (nx : ∀ σ2, Inv σ2 → σ2 (-4) (-1) = σ (-4) (-1) → (∀ j : Nat, (j : Int) < σ (-4) (-1) → σ2 (-4) j = σ (-4) j) → AWL 1201 [] (LL i) σ2 K) : AWL 677 [] (LL i) σ K :=
  la_cc cs_table (by decide) (by decide) (by decide) h0 (by omega) h2 (by
    rw [show callee 108 = i_X_table from rfl, show callee 218 = i_M_table from rfl]
    exact c_table h _ _ _) nx
theorem go_run {i : Int} {σ : Mem} {K : Int → HS → Prop} (h : Inv σ) (h0 : 0 ≤ i) (h1 : i + 6 ≤ σ (-4) (-1)) (h2 : σ (-4) (-1) ≤ 3072) (nx : ∀ σ2, Inv σ2 → σ2 (-4) (-1) = σ (-4) (-1) → (∀ j : Nat, (j : Int) < σ (-4) (-1) → σ2 (-4) j = σ (-4) j) → AWL 1201 [] (LL i) σ2 K) : AWL 248 [] (LL i) σ K :=
  la_cc cs_run (by decide) (by decide) (by decide) h0 (by omega) h2 (by
    rw [show callee 94 = i_X_run from rfl, show callee 171 = i_M_run from rfl]
    exact c_run h _ _ _) nx
theorem go_has {i : Int} {σ : Mem} {K : Int → HS → Prop} (h : Inv σ) (h0 : 0 ≤ i) (h1 : i + 6 ≤ σ (-4) (-1)) (h2 : σ (-4) (-1) ≤ 3072) (nx : ∀ σ2, Inv σ2 → σ2 (-4) (-1) = σ (-4) (-1) → (∀ j : Nat, (j : Int) < σ (-4) (-1) → σ2 (-4) j = σ (-4) j) → AWL 1201 [] (LL i) σ2 K) : AWL 285 [] (LL i) σ K :=
  la_cc cs_has (by decide) (by decide) (by decide) h0 (by omega) h2 (by
    rw [show callee 95 = i_X_has from rfl, show callee 172 = i_M_has from rfl]
    exact c_has h _ _) nx
theorem go_left {i : Int} {σ : Mem} {K : Int → HS → Prop} (h : Inv σ) (h0 : 0 ≤ i) (h1 : i + 6 ≤ σ (-4) (-1)) (h2 : σ (-4) (-1) ≤ 3072) (nx : ∀ σ2, Inv σ2 → σ2 (-4) (-1) = σ (-4) (-1) → (∀ j : Nat, (j : Int) < σ (-4) (-1) → σ2 (-4) j = σ (-4) j) → AWL 1201 [] (LL i) σ2 K) : AWL 312 [] (LL i) σ K :=
  la_cc cs_left (by decide) (by decide) (by decide) h0 (by omega) h2 (by
    rw [show callee 96 = i_X_left from rfl, show callee 173 = i_M_left from rfl]
    exact c_left h _) nx
theorem go_led {i : Int} {σ : Mem} {K : Int → HS → Prop} (h : Inv σ) (h0 : 0 ≤ i) (h1 : i + 6 ≤ σ (-4) (-1)) (h2 : σ (-4) (-1) ≤ 3072) (nx : ∀ σ2, Inv σ2 → σ2 (-4) (-1) = σ (-4) (-1) → (∀ j : Nat, (j : Int) < σ (-4) (-1) → σ2 (-4) j = σ (-4) j) → AWL 1201 [] (LL i) σ2 K) : AWL 329 [] (LL i) σ K :=
  la_cc cs_led (by decide) (by decide) (by decide) h0 (by omega) h2 (by
    rw [show callee 97 = i_X_led from rfl, show callee 174 = i_M_led from rfl]
    exact c_led h _ _ _) nx
theorem go_order {i : Int} {σ : Mem} {K : Int → HS → Prop} (h : Inv σ) (h0 : 0 ≤ i) (h1 : i + 6 ≤ σ (-4) (-1)) (h2 : σ (-4) (-1) ≤ 3072) (nx : ∀ σ2, Inv σ2 → σ2 (-4) (-1) = σ (-4) (-1) → (∀ j : Nat, (j : Int) < σ (-4) (-1) → σ2 (-4) j = σ (-4) j) → AWL 1201 [] (LL i) σ2 K) : AWL 768 [] (LL i) σ K :=
  la_cc cs_order (by decide) (by decide) (by decide) h0 (by omega) h2 (by
    rw [show callee 111 = i_X_order from rfl, show callee 225 = i_M_order from rfl]
    exact c_order h _ _) nx
theorem go_even {i : Int} {σ : Mem} {K : Int → HS → Prop} (h : Inv σ) (h0 : 0 ≤ i) (h1 : i + 6 ≤ σ (-4) (-1)) (h2 : σ (-4) (-1) ≤ 3072) (nx : ∀ σ2, Inv σ2 → σ2 (-4) (-1) = σ (-4) (-1) → (∀ j : Nat, (j : Int) < σ (-4) (-1) → σ2 (-4) j = σ (-4) j) → AWL 1201 [] (LL i) σ2 K) : AWL 795 [] (LL i) σ K :=
  la_cc cs_even (by decide) (by decide) (by decide) h0 (by omega) h2 (by
    rw [show callee 112 = i_X_even from rfl, show callee 226 = i_M_even from rfl]
    exact c_even h ) nx
theorem go_evenIs {i : Int} {σ : Mem} {K : Int → HS → Prop} (h : Inv σ) (h0 : 0 ≤ i) (h1 : i + 6 ≤ σ (-4) (-1)) (h2 : σ (-4) (-1) ≤ 3072) (nx : ∀ σ2, Inv σ2 → σ2 (-4) (-1) = σ (-4) (-1) → (∀ j : Nat, (j : Int) < σ (-4) (-1) → σ2 (-4) j = σ (-4) j) → AWL 1201 [] (LL i) σ2 K) : AWL 802 [] (LL i) σ K :=
  la_cc cs_evenIs (by decide) (by decide) (by decide) h0 (by omega) h2 (by
    rw [show callee 113 = i_X_evenIs from rfl, show callee 227 = i_M_evenIs from rfl]
    exact c_evenIs h _) nx
theorem go_swap {i : Int} {σ : Mem} {K : Int → HS → Prop} (h : Inv σ) (h0 : 0 ≤ i) (h1 : i + 6 ≤ σ (-4) (-1)) (h2 : σ (-4) (-1) ≤ 3072) (nx : ∀ σ2, Inv σ2 → σ2 (-4) (-1) = σ (-4) (-1) → (∀ j : Nat, (j : Int) < σ (-4) (-1) → σ2 (-4) j = σ (-4) j) → AWL 1201 [] (LL i) σ2 K) : AWL 819 [] (LL i) σ K :=
  la_cc cs_swap (by decide) (by decide) (by decide) h0 (by omega) h2 (by
    rw [show callee 114 = i_X_swap from rfl, show callee 228 = i_M_swap from rfl]
    exact c_swap h _ _) nx
theorem go_years {i : Int} {σ : Mem} {K : Int → HS → Prop} (h : Inv σ) (h0 : 0 ≤ i) (h1 : i + 6 ≤ σ (-4) (-1)) (h2 : σ (-4) (-1) ≤ 3072) (nx : ∀ σ2, Inv σ2 → σ2 (-4) (-1) = σ (-4) (-1) → (∀ j : Nat, (j : Int) < σ (-4) (-1) → σ2 (-4) j = σ (-4) j) → AWL 1201 [] (LL i) σ2 K) : AWL 846 [] (LL i) σ K :=
  la_cc cs_years (by decide) (by decide) (by decide) h0 (by omega) h2 (by
    rw [show callee 115 = i_X_years from rfl, show callee 229 = i_M_years from rfl]
    exact c_years h _ _ _ _) nx
theorem go_ring {i : Int} {σ : Mem} {K : Int → HS → Prop} (h : Inv σ) (h0 : 0 ≤ i) (h1 : i + 6 ≤ σ (-4) (-1)) (h2 : σ (-4) (-1) ≤ 3072) (nx : ∀ σ2, Inv σ2 → σ2 (-4) (-1) = σ (-4) (-1) → (∀ j : Nat, (j : Int) < σ (-4) (-1) → σ2 (-4) j = σ (-4) j) → AWL 1201 [] (LL i) σ2 K) : AWL 366 [] (LL i) σ K :=
  la_cc cs_ring (by decide) (by decide) (by decide) h0 (by omega) h2 (by
    rw [show callee 98 = i_X_ring from rfl, show callee 181 = i_M_ring from rfl]
    exact c_ring h _) nx
theorem go_giving {i : Int} {σ : Mem} {K : Int → HS → Prop} (h : Inv σ) (h0 : 0 ≤ i) (h1 : i + 6 ≤ σ (-4) (-1)) (h2 : σ (-4) (-1) ≤ 3072) (nx : ∀ σ2, Inv σ2 → σ2 (-4) (-1) = σ (-4) (-1) → (∀ j : Nat, (j : Int) < σ (-4) (-1) → σ2 (-4) j = σ (-4) j) → AWL 1201 [] (LL i) σ2 K) : AWL 49 [] (LL i) σ K :=
  la_cc cs_giving (by decide) (by decide) (by decide) h0 (by omega) h2 (by
    rw [show callee 87 = i_X_giving from rfl, show callee 158 = i_M_giving from rfl]
    exact c_giving h ) nx
theorem go_instead {i : Int} {σ : Mem} {K : Int → HS → Prop} (h : Inv σ) (h0 : 0 ≤ i) (h1 : i + 6 ≤ σ (-4) (-1)) (h2 : σ (-4) (-1) ≤ 3072) (nx : ∀ σ2, Inv σ2 → σ2 (-4) (-1) = σ (-4) (-1) → (∀ j : Nat, (j : Int) < σ (-4) (-1) → σ2 (-4) j = σ (-4) j) → AWL 1201 [] (LL i) σ2 K) : AWL 221 [] (LL i) σ K :=
  la_cc cs_instead (by decide) (by decide) (by decide) h0 (by omega) h2 (by
    rw [show callee 93 = i_X_instead from rfl, show callee 160 = i_M_instead from rfl]
    exact c_instead h _ _) nx
theorem go_act {i : Int} {σ : Mem} {K : Int → HS → Prop} (h : Inv σ) (h0 : 0 ≤ i) (h1 : i + 6 ≤ σ (-4) (-1)) (h2 : σ (-4) (-1) ≤ 3072) (nx : ∀ σ2, Inv σ2 → σ2 (-4) (-1) = σ (-4) (-1) → (∀ j : Nat, (j : Int) < σ (-4) (-1) → σ2 (-4) j = σ (-4) j) → AWL 1201 [] (LL i) σ2 K) : AWL 893 [] (LL i) σ K :=
  la_cc cs_act (by decide) (by decide) (by decide) h0 (by omega) h2 (by
    rw [show callee 116 = i_X_act from rfl, show callee 236 = i_M_act from rfl]
    exact c_act h _ _ _) nx
theorem go_share {i : Int} {σ : Mem} {K : Int → HS → Prop} (h : Inv σ) (h0 : 0 ≤ i) (h1 : i + 6 ≤ σ (-4) (-1)) (h2 : σ (-4) (-1) ≤ 3072) (nx : ∀ σ2, Inv σ2 → σ2 (-4) (-1) = σ (-4) (-1) → (∀ j : Nat, (j : Int) < σ (-4) (-1) → σ2 (-4) j = σ (-4) j) → AWL 1201 [] (LL i) σ2 K) : AWL 417 [] (LL i) σ K :=
  la_cc cs_share (by decide) (by decide) (by decide) h0 (by omega) h2 (by
    rw [show callee 101 = i_X_share from rfl, show callee 204 = i_M_share from rfl]
    exact c_share h _ _ _ _) nx
theorem go_stops {i : Int} {σ : Mem} {K : Int → HS → Prop} (h : Inv σ) (h0 : 0 ≤ i) (h1 : i + 6 ≤ σ (-4) (-1)) (h2 : σ (-4) (-1) ≤ 3072) (nx : ∀ σ2, Inv σ2 → σ2 (-4) (-1) = σ (-4) (-1) → (∀ j : Nat, (j : Int) < σ (-4) (-1) → σ2 (-4) j = σ (-4) j) → AWL 1201 [] (LL i) σ2 K) : AWL 465 [] (LL i) σ K :=
  la_cc cs_stops (by decide) (by decide) (by decide) h0 (by omega) h2 (by
    rw [show callee 102 = i_X_stops from rfl, show callee 205 = i_M_stops from rfl]
    exact c_stops h _) nx
theorem go_rather {i : Int} {σ : Mem} {K : Int → HS → Prop} (h : Inv σ) (h0 : 0 ≤ i) (h1 : i + 6 ≤ σ (-4) (-1)) (h2 : σ (-4) (-1) ≤ 3072) (nx : ∀ σ2, Inv σ2 → σ2 (-4) (-1) = σ (-4) (-1) → (∀ j : Nat, (j : Int) < σ (-4) (-1) → σ2 (-4) j = σ (-4) j) → AWL 1201 [] (LL i) σ2 K) : AWL 482 [] (LL i) σ K :=
  la_cc cs_rather (by decide) (by decide) (by decide) h0 (by omega) h2 (by
    rw [show callee 103 = i_X_rather from rfl, show callee 208 = i_M_rather from rfl]
    exact c_rather h _ _ _ _) nx
theorem go_envy {i : Int} {σ : Mem} {K : Int → HS → Prop} (h : Inv σ) (h0 : 0 ≤ i) (h1 : i + 6 ≤ σ (-4) (-1)) (h2 : σ (-4) (-1) ≤ 3072) (nx : ∀ σ2, Inv σ2 → σ2 (-4) (-1) = σ (-4) (-1) → (∀ j : Nat, (j : Int) < σ (-4) (-1) → σ2 (-4) j = σ (-4) j) → AWL 1201 [] (LL i) σ2 K) : AWL 529 [] (LL i) σ K :=
  la_cc cs_envy (by decide) (by decide) (by decide) h0 (by omega) h2 (by
    rw [show callee 104 = i_X_envy from rfl, show callee 209 = i_M_envy from rfl]
    exact c_envy h _ _) nx
theorem go_wrongly {i : Int} {σ : Mem} {K : Int → HS → Prop} (h : Inv σ) (h0 : 0 ≤ i) (h1 : i + 6 ≤ σ (-4) (-1)) (h2 : σ (-4) (-1) ≤ 3072) (nx : ∀ σ2, Inv σ2 → σ2 (-4) (-1) = σ (-4) (-1) → (∀ j : Nat, (j : Int) < σ (-4) (-1) → σ2 (-4) j = σ (-4) j) → AWL 1201 [] (LL i) σ2 K) : AWL 556 [] (LL i) σ K :=
  la_cc cs_wrongly (by decide) (by decide) (by decide) h0 (by omega) h2 (by
    rw [show callee 105 = i_X_wrongly from rfl, show callee 214 = i_M_wrongly from rfl]
    exact c_wrongly h _ _ _ _) nx
theorem go_gains {i : Int} {σ : Mem} {K : Int → HS → Prop} (h : Inv σ) (h0 : 0 ≤ i) (h1 : i + 6 ≤ σ (-4) (-1)) (h2 : σ (-4) (-1) ≤ 3072) (nx : ∀ σ2, Inv σ2 → σ2 (-4) (-1) = σ (-4) (-1) → (∀ j : Nat, (j : Int) < σ (-4) (-1) → σ2 (-4) j = σ (-4) j) → AWL 1201 [] (LL i) σ2 K) : AWL 603 [] (LL i) σ K :=
  la_cc cs_gains (by decide) (by decide) (by decide) h0 (by omega) h2 (by
    rw [show callee 106 = i_X_gains from rfl, show callee 216 = i_M_gains from rfl]
    exact c_gains h _ _ _) nx
theorem go_parted {i : Int} {σ : Mem} {K : Int → HS → Prop} (h : Inv σ) (h0 : 0 ≤ i) (h1 : i + 6 ≤ σ (-4) (-1)) (h2 : σ (-4) (-1) ≤ 3072) (nx : ∀ σ2, Inv σ2 → σ2 (-4) (-1) = σ (-4) (-1) → (∀ j : Nat, (j : Int) < σ (-4) (-1) → σ2 (-4) j = σ (-4) j) → AWL 1201 [] (LL i) σ2 K) : AWL 731 [] (LL i) σ K :=
  la_cc cs_parted (by decide) (by decide) (by decide) h0 (by omega) h2 (by
    rw [show callee 110 = i_X_parted from rfl, show callee 223 = i_M_parted from rfl]
    exact c_parted h _ _ _) nx
theorem go_all {i : Int} {σ : Mem} {K : Int → HS → Prop} (h : Inv σ) (h0 : 0 ≤ i) (h1 : i + 6 ≤ σ (-4) (-1)) (h2 : σ (-4) (-1) ≤ 3072) (nx : ∀ σ2, Inv σ2 → σ2 (-4) (-1) = σ (-4) (-1) → (∀ j : Nat, (j : Int) < σ (-4) (-1) → σ2 (-4) j = σ (-4) j) → AWL 1201 [] (LL i) σ2 K) : ∀ q : Nat, q < 39 → AWL (caseL.getD q 0) [] (LL i) σ K
  | 0, _ => go_feed h h0 h1 h2 nx
  | 1, _ => go_giving h h0 h1 h2 nx
  | 2, _ => go_of h h0 h1 h2 nx
  | 3, _ => go_rounds h h0 h1 h2 nx
  | 4, _ => go_level h h0 h1 h2 nx
  | 5, _ => go_listed h h0 h1 h2 nx
  | 6, _ => go_takes h h0 h1 h2 nx
  | 7, _ => go_instead h h0 h1 h2 nx
  | 8, _ => go_run h h0 h1 h2 nx
  | 9, _ => go_has h h0 h1 h2 nx
  | 10, _ => go_left h h0 h1 h2 nx
  | 11, _ => go_led h h0 h1 h2 nx
  | 12, _ => go_ring h h0 h1 h2 nx
  | 13, _ => go_way h h0 h1 h2 nx
  | 14, _ => go_kindOf h h0 h1 h2 nx
  | 15, _ => go_share h h0 h1 h2 nx
  | 16, _ => go_stops h h0 h1 h2 nx
  | 17, _ => go_rather h h0 h1 h2 nx
  | 18, _ => go_envy h h0 h1 h2 nx
  | 19, _ => go_wrongly h h0 h1 h2 nx
  | 20, _ => go_gains h h0 h1 h2 nx
  | 21, _ => go_told h h0 h1 h2 nx
  | 22, _ => go_table h h0 h1 h2 nx
  | 23, _ => go_bars h h0 h1 h2 nx
  | 24, _ => go_parted h h0 h1 h2 nx
  | 25, _ => go_order h h0 h1 h2 nx
  | 26, _ => go_even h h0 h1 h2 nx
  | 27, _ => go_evenIs h h0 h1 h2 nx
  | 28, _ => go_swap h h0 h1 h2 nx
  | 29, _ => go_years h h0 h1 h2 nx
  | 30, _ => go_act h h0 h1 h2 nx
  | 31, _ => go_trace h h0 h1 h2 nx
  | 32, _ => go_keep h h0 h1 h2 nx
  | 33, _ => go_row h h0 h1 h2 nx
  | 34, _ => go_put h h0 h1 h2 nx
  | 35, _ => go_element h h0 h1 h2 nx
  | 36, _ => go_shift h h0 h1 h2 nx
  | 37, _ => go_taken h h0 h1 h2 nx
  | 38, _ => go_count h h0 h1 h2 nx
  | q + 39, hq => absurd hq (by omega)
/-- from the head on: all is well -/
theorem la_all : ∀ (m : Nat) (i : Int) (σ : Mem), Inv σ → 0 ≤ i → i ≤ 5000 → σ (-4) (-1) ≤ 3072 → 0 ≤ σ (-4) (-1) → σ (-4) (-1) < i + m → AWL 10 [] (LL i) σ (fun v _ => v = 1)
  | 0, i, σ, h, h0, h3, h2, h4, e => la_head h0 h3 h2 h4 rfl fun hl => absurd hl (by omega)
  | m + 1, i, σ, h, h0, h3, h2, h4, e => by
    refine la_head h0 h3 h2 h4 rfl fun hl t ht => ?_
    have nx : ∀ σ2, Inv σ2 → σ2 (-4) (-1) = σ (-4) (-1) → (∀ j : Nat, (j : Int) < σ (-4) (-1) → σ2 (-4) j = σ (-4) j) → AWL 1201 [] (LL i) σ2 (fun v _ => v = 1) := fun σ2 h' q1 _ => la_next h0 h3 (la_all m (i + 6) σ2 h' (by omega) (by omega) (by omega) (by omega) (by omega))
    by_cases c : 0 ≤ andI (σ (-4) i) 63 ∧ andI (σ (-4) i) 63 < 39
    · rw [if_pos c] at ht
      rw [← ht]
      exact go_all h h0 hl h2 nx _ (by omega)
    · rw [if_neg c] at ht
      rw [← ht]
      exact nx σ h rfl (fun _ _ => rfl)
