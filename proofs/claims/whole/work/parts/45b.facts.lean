/-! ===== facts of the list of all assignments, decided by the kernel ===== -/
def inc : List Nat → Bool
  | [] => true
  | [_] => true
  | a :: b :: r => decide (a < b) && inc (b :: r)
def cdN (l : List Nat) : Nat → Nat
  | 0 => 0
  | i + 1 => 8 * cdN l i + l.getD i 0
theorem inc_all : ∀ n, n < 8 → 1 ≤ n → inc ((PL n).map (fun l => cdN l n)) = true := by decide +kernel
theorem ent_all : ∀ n, n < 8 → (PL n).all (fun l => (List.range n).all (fun i => decide (l.getD i 0 < n))) = true := by decide +kernel
theorem last_ok : ∀ n, n < 8 → 1 ≤ n → ((PL n).getLast?.bind (nx n)).isSome = true := by decide +kernel
/-- which cells the assignments use, as bits -/
def useBits (n : Nat) : Nat := (PL n).foldl (fun m l => (List.range n).foldl (fun m i => m ||| 2 ^ (7 * i + l.getD i 0)) m) 0
theorem use_all : ∀ n, n < 8 → ∀ i, i < n → ∀ j, j < n → (useBits n).testBit (7 * i + j) = true := by decide +kernel
