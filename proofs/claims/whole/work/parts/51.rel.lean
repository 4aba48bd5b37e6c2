/-! ===== tests of arguments on both sides ===== -/
theorem l_cmp0 (a b : Int64) : (lg_cmp a b < 0) ↔ a.toInt < b.toInt := by
  rw [lg_cmp_lt, Int64.lt_iff_toInt_lt]
theorem l_cmp1 (a b : Int64) : (0 < lg_cmp a b) ↔ b.toInt < a.toInt := by
  rw [lg_cmp_gt, Int64.lt_iff_toInt_lt]
theorem e_isIn (a b c : Int64) : s_X4_isIn a b c = some (if b.toInt ≤ a.toInt ∧ a.toInt ≤ c.toInt then 1 else 0) := by
  unfold s_X4_isIn
  by_cases h1 : lg_cmp a b < 0
  · rw [if_pos h1, if_neg (by rw [l_cmp0] at h1; omega)]
  · rw [if_neg h1]
    by_cases h2 : 0 < lg_cmp a c
    · rw [if_pos h2, if_neg (by rw [l_cmp1] at h2; omega)]
    · rw [if_neg h2, if_pos (by rw [l_cmp0] at h1; rw [l_cmp1] at h2; omega)]
theorem w_toInt (x : Int32) : x.toInt64.toInt = x.toInt := Int32.toInt_toInt64 x
/-- 0 ≤ p < n -/
abbrev inN (p : Int32) (n : Nat) : Prop := 0 ≤ p.toInt ∧ p.toInt < n
theorem inN_n {p : Int32} {n : Nat} (h : inN p n) : ∃ i, i < n ∧ p = nI i ∧ i = p.toInt.toNat := by
  obtain ⟨h1, h2⟩ := h
  have h3 := zz_rng p
  refine ⟨p.toInt.toNat, by omega, ?_, rfl⟩
  rw [zz_inj, nI_toInt (by omega)]
  omega
abbrev inI (p : Int32) (a b : Int) : Prop := a ≤ p.toInt ∧ p.toInt ≤ b
theorem inI_n {p : Int32} {b : Nat} (h : inI p 0 b) : ∃ i, i ≤ b ∧ p = nI i := by
  obtain ⟨h1, h2⟩ := h
  have h3 := zz_rng p
  refine ⟨p.toInt.toNat, by omega, ?_⟩
  rw [zz_inj, nI_toInt (by omega)]
  omega
theorem n_sub1 {n : Nat} (h1 : 1 ≤ n) (h : n < 1000000) : (nI n - 1).toInt = (n : Int) - 1 := by
  have h1' : (1 : Int32).toInt = 1 := rfl
  rw [zz_sub (by rw [nT h, h1']; omega) (by rw [nT h, h1']; omega), nT h, h1']
theorem e_isIn0 (p q : Int32) (b : Int) (h : q.toInt = b) : s_X4_isIn p.toInt64 0 q.toInt64 = some (if inI p 0 b then 1 else 0) := by
  rw [e_isIn, w_toInt, w_toInt, h]
  rfl
theorem e_isIn1 (p : Int32) (a b : Int64) (x y : Int) (h1 : a.toInt = x) (h2 : b.toInt = y) : s_X4_isIn p.toInt64 a b = some (if inI p x y then 1 else 0) := by
  rw [e_isIn, w_toInt, h1, h2]
theorem e_isRow {μ : zM} {n : Nat} (h : μ.1.1 = nI n) (h1 : 1 ≤ n) (h2 : n < 8) (p : Int32) : s_X4_isRow μ p = some (if inN p n then 1 else 0) := by
  unfold s_X4_isRow
  rw [h, e_isIn0 p _ _ (n_sub1 h1 (by omega)), Option.bind_some]
  by_cases hp : inN p n
  · rw [if_pos (show inI p 0 _ by unfold inN at hp; unfold inI; omega), if_pos hp]; rfl
  · rw [if_neg (show ¬ inI p 0 _ by unfold inN at hp; unfold inI; omega), if_neg hp]; rfl
theorem e_isReal {μ : zM} {m : Nat} (h : μ.1.2.1 = nI m) (h1 : 1 ≤ m) (h2 : m < 8) (p : Int32) : s_X4_isReal μ p = some (if inN p m then 1 else 0) := by
  unfold s_X4_isReal
  rw [h, e_isIn0 p _ _ (n_sub1 h1 (by omega)), Option.bind_some]
  by_cases hp : inN p m
  · rw [if_pos (show inI p 0 _ by unfold inN at hp; unfold inI; omega), if_pos hp]; rfl
  · rw [if_neg (show ¬ inI p 0 _ by unfold inN at hp; unfold inI; omega), if_neg hp]; rfl
theorem p_neg (p : Int32) : p < 0 ↔ p.toInt < 0 := by rw [zz_lt]; rfl
theorem p_ltn {p : Int32} {n : Nat} (h : n < 1000000) : p < nI n ↔ p.toInt < n := by rw [zz_lt, nT h]
theorem p_len {p : Int32} {n : Nat} (h : n < 1000000) : p ≤ nI n ↔ p.toInt ≤ n := by rw [zz_le, nT h]
theorem e_requireRow {σ : zC} {n : Nat} (h : σ.1.1 = nI n) (h2 : n < 8) (p : Int32) : s_X3_requireRow σ p = some (if inN p n then .inr () else .inl "java/lang/IndexOutOfBoundsException") := by
  unfold s_X3_requireRow
  by_cases h1 : p < 0
  · rw [if_pos h1, if_neg (by rw [p_neg] at h1; unfold inN; omega)]
  · rw [if_neg h1, h]
    by_cases h3 : p < nI n
    · rw [if_pos h3, if_pos (by rw [p_neg] at h1; rw [p_ltn (by omega)] at h3; unfold inN; omega)]
    · rw [if_neg h3, if_neg (by rw [p_ltn (by omega)] at h3; unfold inN; omega)]
theorem e_requireRealColumn {σ : zC} {n : Nat} (h : σ.1.2.1 = nI n) (h2 : n < 8) (p : Int32) : s_X3_requireRealColumn σ p = some (if inN p n then .inr () else .inl "java/lang/IndexOutOfBoundsException") := by
  unfold s_X3_requireRealColumn
  by_cases h1 : p < 0
  · rw [if_pos h1, if_neg (by rw [p_neg] at h1; unfold inN; omega)]
  · rw [if_neg h1, h]
    by_cases h3 : p < nI n
    · rw [if_pos h3, if_pos (by rw [p_neg] at h1; rw [p_ltn (by omega)] at h3; unfold inN; omega)]
    · rw [if_neg h3, if_neg (by rw [p_ltn (by omega)] at h3; unfold inN; omega)]
theorem e_isColumn {σ : zC} {n : Nat} (h : σ.1.1 = nI n) (h2 : n < 8) (p : Int32) : s_X3_isColumn σ p = some (if inN p n then 1 else 0) := by
  unfold s_X3_isColumn
  by_cases h1 : p < 0
  · rw [if_pos h1, if_neg (by rw [p_neg] at h1; unfold inN; omega)]
  · rw [if_neg h1, h]
    by_cases h3 : nI n ≤ p
    · rw [if_pos h3, if_neg (by rw [zz_le, nT (by omega)] at h3; unfold inN; omega)]
    · rw [if_neg h3, if_pos (by rw [p_neg] at h1; rw [zz_le, nT (by omega)] at h3; unfold inN; omega)]
theorem e_requireColumn {σ : zC} {n : Nat} (h : σ.1.1 = nI n) (h2 : n < 8) (p : Int32) : s_X3_requireColumn σ p = some (if inN p n then .inr () else .inl "java/lang/IndexOutOfBoundsException") := by
  unfold s_X3_requireColumn
  rw [e_isColumn h h2, Option.bind_some]
  by_cases h1 : inN p n
  · rw [if_pos h1, if_pos h1]; rfl
  · rw [if_neg h1, if_neg h1]; rfl
theorem e_requireCell {σ : zC} {n : Nat} (h : σ.1.1 = nI n) (h2 : n < 8) (p q : Int32) : s_X3_requireCell σ p q = some (if inN p n ∧ inN q n then .inr () else .inl "java/lang/IndexOutOfBoundsException") := by
  unfold s_X3_requireCell
  rw [e_requireRow h h2, Option.bind_some]
  by_cases h1 : inN p n
  · rw [if_pos h1]
    show (s_X3_requireColumn σ q).bind _ = _
    rw [e_requireColumn h h2, Option.bind_some]
    by_cases h3 : inN q n
    · rw [if_pos h3, if_pos ⟨h1, h3⟩]; rfl
    · rw [if_neg h3, if_neg (fun h => h3 h.2)]; rfl
  · rw [if_neg h1, if_neg (fun h => h1 h.1)]; rfl
theorem e_requireRealCell {σ : zC} {n m : Nat} (h : σ.1.1 = nI n) (hm : σ.1.2.1 = nI m) (h2 : n < 8) (h3 : m < 8) (p q : Int32) : s_X3_requireRealCell σ p q = some (if inN p n ∧ inN q m then .inr () else .inl "java/lang/IndexOutOfBoundsException") := by
  unfold s_X3_requireRealCell
  rw [e_requireRow h h2, Option.bind_some]
  by_cases h1 : inN p n
  · rw [if_pos h1]
    show (s_X3_requireRealColumn σ q).bind _ = _
    rw [e_requireRealColumn hm h3, Option.bind_some]
    by_cases h3 : inN q m
    · rw [if_pos h3, if_pos ⟨h1, h3⟩]; rfl
    · rw [if_neg h3, if_neg (fun h => h3 h.2)]; rfl
  · rw [if_neg h1, if_neg (fun h => h1 h.1)]; rfl
theorem e_isWrong0 (μ : zM) : s_X4_isWrong μ 0 = some (0, (μ.1, μ.2.1, μ.2.2.1, μ.2.2.2.1, (0 : Int32))) := by
  unfold s_X4_isWrong; rw [if_pos rfl]
theorem e_isWrong1 (μ : zM) {k : Int32} (h : k ≠ 0) : s_X4_isWrong μ k = some (1, (μ.1, μ.2.1, μ.2.2.1, μ.2.2.2.1, k)) := by
  unfold s_X4_isWrong; rw [if_neg h]
/-! ===== how the class's object and the reference's stand to each other ===== -/
def key (t : zT) (n : Nat) (l : List Nat) : Int := fs (Cz t) l n * 262144 + cdN l n * 8 ^ (6 - n)
def EK (t : zT) (n : Nat) (K : zK) (E : zE) : Prop :=
  (K.1 = 0 ∧ E.1 = -1) ∨
  (K.1 = 1 ∧ n ≤ 6 ∧ K.2.2.2.1 = nI (fact n) ∧ (∀ (k : Nat) (l : List Nat), (PL n)[k]? = some l → (K.2.2.2.2 k).toInt = key t n l) ∧
    ∃ st : Nat, K.2.1 = nI st ∧ E.1 = nI st ∧ st = (PL n).countP (fun l => decide (key t n l ≤ K.2.2.1.toInt)) ∧
      ((st = 0 ∧ K.2.2.1 = -1 ∧ E.2.1 = -1 ∧ E.2.2.1 = 0) ∨
       (0 < st ∧ ∃ p l, (PL n)[p]? = some l ∧ K.2.2.1.toInt = key t n l ∧ E.2.1.toInt = fs (Cz t) l n ∧ E.2.2.1 = nI p ∧ ∀ i, i < n → E.2.2.2 i = nI (l.getD i 0))))
def Rel (σ : zC) (μ : zM) : Prop := μ.1 = σ.1 ∧ μ.2.1 = σ.2.1 ∧ (∃ n m, Vt σ.1 n m ∧ EK σ.1 n σ.2.2.2.2.2.2 μ.2.2.2.1) ∧ ∃ n m, Vt σ.2.1 n m
/-- an outcome of the class beside the reference's -/
def TH (names : List String) (z : Sum String Int32) (b th : Int32) : Prop := (z = .inr b ∧ th = 0) ∨ ∃ k nm, names[k]? = some nm ∧ z = .inl nm ∧ th = nI (k + 1)
def keepC (σ σ2 : zC) : Prop := σ2.1 = σ.1 ∧ σ2.2.1 = σ.2.1 ∧ σ2.2.2.2.2.2.2 = σ.2.2.2.2.2.2
def keepM (μ μ2 : zM) : Prop := μ2.1 = μ.1 ∧ μ2.2.1 = μ.2.1 ∧ μ2.2.2.2.1 = μ.2.2.2.1
theorem Rel.keep {σ σ2 : zC} {μ μ2 : zM} (h : Rel σ μ) (h1 : keepC σ σ2) (h2 : keepM μ μ2) : Rel σ2 μ2 := by
  obtain ⟨a1, a2, a3, a4⟩ := h
  obtain ⟨b1, b2, b3⟩ := h1
  obtain ⟨c1, c2, c3⟩ := h2
  unfold Rel
  rw [b1, b2, b3, c1, c2, c3]
  exact ⟨a1, a2, a3, a4⟩
theorem EK_off {t : zT} {n : Nat} {K : zK} {E : zE} (h1 : K.1 = 0) (h2 : E.1 = -1) : EK t n K E := Or.inl ⟨h1, h2⟩
