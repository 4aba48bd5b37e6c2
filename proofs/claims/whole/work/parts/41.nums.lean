/-! ===== numbers ===== -/
theorem zz_rng (x : Int32) : -2147483648 ≤ x.toInt ∧ x.toInt < 2147483648 := by
  have h1 := Int32.le_toInt x
  have h2 := Int32.toInt_lt x
  omega
theorem zz_bmod {z : Int} (h1 : -2147483648 ≤ z) (h2 : z < 2147483648) : z.bmod (2 ^ 32) = z := by
  rw [Int.bmod_eq_of_le (by omega) (by omega)]
theorem zz_add {x y : Int32} (h1 : -2147483648 ≤ x.toInt + y.toInt) (h2 : x.toInt + y.toInt < 2147483648) : (x + y).toInt = x.toInt + y.toInt := by
  rw [Int32.toInt_add, zz_bmod h1 h2]
theorem zz_sub {x y : Int32} (h1 : -2147483648 ≤ x.toInt - y.toInt) (h2 : x.toInt - y.toInt < 2147483648) : (x - y).toInt = x.toInt - y.toInt := by
  rw [Int32.toInt_sub, zz_bmod h1 h2]
theorem zz_ofI {z : Int} (h1 : -2147483648 ≤ z) (h2 : z < 2147483648) : (Int32.ofInt z).toInt = z := by
  rw [Int32.toInt_ofInt, zz_bmod h1 h2]
theorem zz_inj {x y : Int32} : x = y ↔ x.toInt = y.toInt := Int32.toInt_inj.symm
theorem zz_lt {x y : Int32} : x < y ↔ x.toInt < y.toInt := Int32.lt_iff_toInt_lt
theorem zz_le {x y : Int32} : x ≤ y ↔ x.toInt ≤ y.toInt := Int32.le_iff_toInt_le
theorem nT {a : Nat} (h : a < 1000000) : (nI a).toInt = (a : Int) := nI_toInt (by omega)
theorem nlt {a b : Nat} (ha : a < 1000000) (hb : b < 1000000) : (nI a < nI b) ↔ a < b := nI_ltI (by omega) (by omega)
theorem nle {a b : Nat} (ha : a < 1000000) (hb : b < 1000000) : (nI a ≤ nI b) ↔ a ≤ b := nI_leI (by omega) (by omega)
theorem neq {a b : Nat} (ha : a < 1000000) (hb : b < 1000000) : (nI a = nI b) ↔ a = b := nI_eq (by omega) (by omega)
theorem nlit (n : Nat) : (OfNat.ofNat n : Int32) = nI n := rfl
theorem ncl {a : Nat} (h : a < 1000000) : (nI a).toNatClampNeg = a := nI_clamp (by omega)
theorem ib_nI {a N : Nat} (h : a < 1000000) : ib (nI a) N = decide (a < N) := by
  unfold ib
  rw [nT h]
  simp
theorem ib_ok {a N : Nat} (h : a < N) (hN : N < 1000000) : ib (nI a) N = true := by
  rw [ib_nI (by omega)]
  exact decide_eq_true h
theorem n0 : (0 : Int32) = nI 0 := rfl
theorem n1 : (1 : Int32) = nI 1 := rfl
theorem nsucc (a : Nat) : nI a + 1 = nI (a + 1) := nI_1 a
theorem npred {a : Nat} (h : 0 < a) : nI a + (-1) = nI (a - 1) := sb_m1 h
theorem n_not_neg {a : Nat} (h : a < 1000000) : ¬ nI a < 0 := by
  rw [n0, nlt h (by omega)]
  omega
theorem n_neg0 : nI 0 + (-1) < 0 := by decide
theorem cell_eq (i j : Nat) : nI i * 7 + nI j = nI (7 * i + j) := by
  rw [nlit 7, pk_mul, nI_add]
  congr 1
  omega
theorem cell_eq2 (i j : Nat) : 7 * nI i + nI j = nI (7 * i + j) := by
  rw [nlit 7, pk_mul, nI_add]
theorem e_cellIndex (i j : Nat) : s_X3_cellIndex (nI i) (nI j) = some (nI (7 * i + j)) := by
  unfold s_X3_cellIndex
  rw [cell_eq]
theorem or_eq : ∀ U, U < 128 → ∀ c, c < 7 → nI U ||| (1 <<< (nI c &&& 31)) = nI (U ||| 2 ^ c) := by decide +kernel
theorem free_eq : ∀ U, U < 128 → ∀ c, c < 7 → ((nI U >>> (nI c &&& 31)) &&& 1 = 0 ↔ U.testBit c = false) := by decide +kernel
theorem all_eq : ∀ n, n < 8 → (1 : Int32) <<< (nI n &&& 31) - 1 = nI (2 ^ n - 1) := by decide +kernel
theorem e_isFree {U c : Nat} (hU : U < 128) (hc : c < 7) : s_X0_isFree (nI U) (nI c) = some (if U.testBit c then 0 else 1) := by
  unfold s_X0_isFree
  cases h : U.testBit c with
  | false => rw [if_pos ((free_eq U hU c hc).mpr h)]; rfl
  | true =>
    rw [if_neg (fun h2 => by rw [(free_eq U hU c hc).mp h2] at h; cases h)]
    rfl
theorem e_bitCount : ∀ U, U < 128 → s_J6_bitCount_0f7a4 (nI U) = some (nI (pop U)) := by decide +kernel
theorem two_pow_le {n : Nat} (hn : n < 8) : 2 ^ n ≤ 128 := by
  have : 2 ^ n ≤ 2 ^ 7 := Nat.pow_le_pow_right (by omega) (by omega)
  simpa using this
