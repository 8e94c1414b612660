-- ===== lines in their order: the next one
def fIL (L : List Nat) : Nat → Option Nat
  | 0 => none
  | m + 1 => if L.getD (m + 1) 0 < L.getD m 0 then fIL L m else some m
def fJL (L : List Nat) (i : Nat) : Nat → Nat
  | 0 => i
  | k + 1 => if L.getD (i + k + 1) 0 < L.getD i 0 then fJL L i k else i + k + 1
def swL (L : List Nat) (i j : Nat) : List Nat := (L.set i (L.getD j 0)).set j (L.getD i 0)
def rvL : Nat → List Nat → Nat → Nat → List Nat
  | 0, L, _, _ => L
  | f + 1, L, a, b => if a < b then rvL f (swL L a b) (a + 1) (b - 1) else L
def nxL (L : List Nat) : Option (List Nat) := match fIL L (L.length - 1) with
  | none => none
  | some i => some (rvL L.length (swL L i (fJL L i (L.length - 1 - i))) (i + 1) (L.length - 1))
/-- all lines of what is left, in their order -/
def pmL : Nat → List Nat → List (List Nat)
  | 0, _ => [[]]
  | f + 1, rem => rem.flatMap fun d => (pmL f (rem.erase d)).map fun r => d :: r
def chL : List (List Nat) → Bool
  | [] => false
  | [a] => (nxL a).isNone
  | a :: b :: r => (match nxL a with
    | none => false
    | some c => c == b) && chL (b :: r)
def pmN (n : Nat) : List (List Nat) := pmL n (List.range n)
theorem chL_ok : ∀ n : Fin 7, chL (pmN n.val) = true ∧ (pmN n.val).head? = some (List.range n.val) ∧ (pmN n.val).length ≤ 720 := by decide +kernel
theorem chL_7 : chL (pmN 7) = true := by decide +kernel
theorem chL_7b : (pmN 7).head? = some (List.range 7) ∧ (pmN 7).length ≤ 5040 := by decide +kernel
