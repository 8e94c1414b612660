-- ===== years
/-- one of a line is put where it belongs: those ahead with more go one back -/
def insO2 (tot : Int → Int) (p : Int) : Nat → (Int → Int) → (Int → Int)
  | 0, o => up o 0 p
  | k + 1, o => if tot p < tot (o k) then insO2 tot p k (up o (k + 1) (o k)) else up o (k + 1) p
/-- sorted by totals -/
def srtO (tot : Int → Int) : Nat → Nat → (Int → Int) → (Int → Int)
  | 0, _, o => o
  | m + 1, k, o => srtO tot m (k + 1) (insO2 tot (o k) k o)
theorem insO2_PM {n : Int} {tot : Int → Int} {p : Int} : ∀ (k : Nat) (o : Int → Int), (k : Int) < n → PM n (up o k p) → PM n (insO2 tot p k o)
  | 0, o, _, h => h
  | k + 1, o, hk, h => by
    unfold insO2
    by_cases c : tot p < tot (o k)
    · rw [if_pos c]
      refine insO2_PM k _ (by omega) ?_
      -- the hole goes from k + 1 to k
      have sw : ∀ i : Int, up (up o (k + 1) (o k)) k p i = up o ((k : Int) + 1) p (if i = k then (k : Int) + 1 else if i = (k : Int) + 1 then (k : Int) else i) := by
        intro i
        by_cases c1 : i = k
        · rw [if_pos c1, c1, up_s, up_s]
        · rw [if_neg c1, up_n c1]
          by_cases c2 : i = (k : Int) + 1
          · rw [if_pos c2, c2, up_s, up_n (by omega)]
          · rw [if_neg c2, up_n c2, up_n c2]
      intro i i0 i1
      rw [sw]
      have r : ∀ x : Int, 0 ≤ x → x < n → 0 ≤ (if x = k then (k : Int) + 1 else if x = (k : Int) + 1 then (k : Int) else x) ∧ (if x = k then (k : Int) + 1 else if x = (k : Int) + 1 then (k : Int) else x) < n := fun x x0 x1 => by
        split
        · omega
        · split <;> omega
      have hi := h _ (r i i0 i1).1 (r i i0 i1).2
      rw [show (((k + 1 : Nat) : Int)) = (k : Int) + 1 by omega] at hi
      refine ⟨hi.1, fun j j0 j1 e => ?_⟩
      rw [sw] at e
      have := hi.2 _ (r j j0 j1).1 (r j j0 j1).2 e
      split at this <;> split at this <;> (try split at this) <;> (try split at this) <;> omega
    · rw [if_neg c]; exact h
theorem up_id {o : Int → Int} {k : Int} : up o k (o k) = o := by
  funext j
  by_cases c : j = k
  · rw [c, up_s]
  · rw [up_n c]
theorem srtO_PM {n : Int} {tot : Int → Int} : ∀ (m k : Nat) (o : Int → Int), (k : Int) + m ≤ n → PM n o → PM n (srtO tot m k o)
  | 0, _, _, _, h => h
  | m + 1, k, o, e, h => by
    unfold srtO
    exact srtO_PM m (k + 1) _ (by omega) (insO2_PM k o (by omega) (by rw [up_id]; exact h))
/-- years: the totals and the order after them -/
def yrs (n : Int) (pt : (Int → Int) → Int → Int) : Nat → (Int → Int) × (Int → Int) → (Int → Int) × (Int → Int)
  | 0, r => r
  | y + 1, r => yrs n pt y (fun p => r.1 p + pt r.2 p, srtO (fun p => r.1 p + pt r.2 p) (n.toNat - 1) 1 r.2)
def PtG (σ : Mem) (g : Int) (o : Int → Int) (p : Int) : Int := pts (dlG σ g o false) (glv σ g p) p
