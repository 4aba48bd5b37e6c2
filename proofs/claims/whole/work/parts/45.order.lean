/-! ===== the reference's way through the assignments ===== -/
def xch (l : List Nat) (a b : Nat) : List Nat := (l.set a (l.getD b 0)).set b (l.getD a 0)
def g77 : Nat → List Nat → Nat → Nat → List Nat
  | 0, l, _, _ => l
  | f + 1, l, lo, hi => if hi ≤ lo then l else g77 f (xch l lo hi) (lo + 1) (hi - 1)
def g40 (l : List Nat) (q : Nat) : Nat → Option Nat
  | 0 => none
  | w + 1 => if l.getD q 0 ≤ l.getD (w + 1) 0 then some (w + 1) else g40 l q w
def g4 (l : List Nat) : Nat → Option Nat
  | 0 => none
  | a + 1 => if l.getD a 0 ≤ l.getD (a + 1) 0 then some a else g4 l a
def nx (n : Nat) (l : List Nat) : Option (List Nat) := match g4 l (n - 1) with
  | none => some l
  | some q => match g40 l q (n - 1) with
    | none => none
    | some w => some (g77 7 (xch l q w) (q + 1) (n - 1))
def pad (n : Nat) (p : List Nat) : List Nat := p ++ (List.range 7).drop n
def PL (n : Nat) : List (List Nat) := (cps n n 0).map (pad n)
def chk (n : Nat) : List (List Nat) → Bool
  | [] => true
  | [_] => true
  | a :: b :: r => decide (nx n a = some b) && chk n (b :: r)
def okp (l : List Nat) : Bool := l.length == 7 && l.all (fun x => decide (x < 7))
theorem chk_1 : chk 1 (PL 1) = true := by decide +kernel
theorem chk_2 : chk 2 (PL 2) = true := by decide +kernel
theorem chk_3 : chk 3 (PL 3) = true := by decide +kernel
theorem chk_4 : chk 4 (PL 4) = true := by decide +kernel
theorem chk_5 : chk 5 (PL 5) = true := by decide +kernel
theorem chk_6 : chk 6 (PL 6) = true := by decide +kernel
theorem chk_7 : chk 7 (PL 7) = true := by decide +kernel
theorem okp_all : ∀ n, n < 8 → (PL n).all okp = true := by decide +kernel
