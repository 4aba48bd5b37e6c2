/-! ===== sumOf ===== -/
theorem bit1_eq : ∀ U, U < 128 → ∀ c, c < 7 → ((nI U >>> (nI c &&& 31)) &&& 1 = 1 ↔ U.testBit c = true) := by decide +kernel
theorem d10 (x : Int32) : (x / 10).toInt = x.toInt.tdiv 10 := by
  have h1 := zz_rng x
  have e10 : (10 : Int32).toInt = 10 := rfl
  have h2 := Int.mul_tdiv_add_tmod x.toInt 10
  have h3 : x.toInt.tmod 10 < 10 := Int.tmod_lt_of_pos _ (by omega)
  have h4 : -10 < x.toInt.tmod 10 := Int.lt_tmod_of_pos _ (by omega)
  rw [Int32.toInt_div, e10, zz_bmod (by omega) (by omega)]
theorem m10_eq (x : Int32) : (x - x / 10 * 10 - 1).toInt = x.toInt.tmod 10 - 1 := by
  have h1 := zz_rng x
  have e10 : (10 : Int32).toInt = 10 := rfl
  have e1 : (1 : Int32).toInt = 1 := rfl
  have h2 := Int.mul_tdiv_add_tmod x.toInt 10
  have h3 : x.toInt.tmod 10 < 10 := Int.tmod_lt_of_pos _ (by omega)
  have h4 : -10 < x.toInt.tmod 10 := Int.lt_tmod_of_pos _ (by omega)
  have h5 := d10 x
  have h6 : (x / 10 * 10).toInt = x.toInt.tdiv 10 * 10 := by
    have hs1 : 0 ≤ x.toInt → 0 ≤ x.toInt.tmod 10 := fun hx => Int.tmod_nonneg 10 hx
    have hs2 : x.toInt < 0 → x.toInt.tmod 10 ≤ 0 := fun hx => by
      have h7 : 0 ≤ (-x.toInt).tmod 10 := Int.tmod_nonneg 10 (by omega)
      rw [Int.neg_tmod] at h7
      omega
    rw [Int32.toInt_mul, h5, e10, zz_bmod (by omega) (by omega)]
  have h8 : (x - x / 10 * 10).toInt = x.toInt.tmod 10 := by
    rw [zz_sub (by omega) (by omega), h6]; omega
  rw [zz_sub (by omega) (by omega), h8, e1]
theorem q10_nn {x : Int32} {n : Nat} (h : inN (x - x / 10 * 10 - 1) n) : 0 ≤ x / 10 := by
  have h1 := h.1
  rw [m10_eq] at h1
  have h3 : 0 ≤ x.toInt := by
    refine Classical.byContradiction (fun hx => ?_)
    have h7 : 0 ≤ (-x.toInt).tmod 10 := Int.tmod_nonneg 10 (by omega)
    rw [Int.neg_tmod] at h7
    omega
  rw [zz_le, d10]
  exact Int.tdiv_nonneg h3 (by omega)
theorem sumOf_loop {σ : zC} {μ : zM} {n m : Nat} (hV : Vt σ.1 n m) (a1 : μ.1 = σ.1) : ∀ (k nf U : Nat) (x2 x4 : Int32), k < nf → k ≤ n → U < 2 ^ n → ∃ z b th, s_X3_sumOf_18 nf σ x2 (nI U) x4 (nI k + (-1)) = some z ∧ s_X4_sumOf_15 nf μ x2 (nI U) x4 (nI k + (-1)) = some (b, wt μ th) ∧ TH [xA] z b th := by
  have hn := hV.2.2.2.2.1
  have hM : Vt μ.1 n m := by rw [a1]; exact hV
  have bad : ∀ x4 : Int32, s_X4_sumOf_87 μ (-1) x4 = some (0, wt μ 1) := by
    intro x4
    unfold s_X4_sumOf_87
    rw [if_neg (by decide), e_isWrong1 μ (by decide), Option.bind_some, if_neg one_ne]
  intro k
  induction k with
  | zero =>
    intro nf U x2 x4 hd hk hU
    obtain ⟨nf, rfl⟩ : ∃ q, nf = q + 1 := ⟨nf - 1, by omega⟩
    rw [s_X3_sumOf_18, s_X4_sumOf_15, if_pos n_neg0, if_pos n_neg0]
    unfold s_X4_sumOf_87
    by_cases h2 : x2 = 0
    · rw [if_pos h2, if_pos h2, e_isWrong0, Option.bind_some, if_pos rfl]
      exact ⟨_, _, _, rfl, rfl, TH_0⟩
    · rw [if_neg h2, if_neg h2, e_isWrong1 μ (by decide), Option.bind_some, if_neg one_ne]
      exact ⟨_, _, _, rfl, rfl, TH_1⟩
  | succ k ih =>
    intro nf U x2 x4 hd hk hU
    obtain ⟨nf, rfl⟩ : ∃ q, nf = q + 1 := ⟨nf - 1, by omega⟩
    have hU2 : U < 128 := Nat.lt_of_lt_of_le hU (two_pow_le hn)
    have ek : nI (k + 1) + (-1) = nI k := by rw [npred (by omega)]; rfl
    rw [s_X3_sumOf_18, s_X4_sumOf_15, ek, if_neg (n_not_neg (by omega)), if_neg (n_not_neg (by omega)), e_isColumn hV.1 hn, Option.bind_some, m_row hM]
    by_cases hc : inN (x2 - x2 / 10 * 10 - 1) n
    · rw [if_pos hc, if_neg one_ne, if_pos hc]
      have hq := q10_nn hc
      obtain ⟨c, hcn, ec, -⟩ := inN_n hc
      rw [ec]
      by_cases hb : U.testBit c = true
      · rw [if_neg (fun h => by rw [(free_eq U hU2 c (by omega)).mp h] at hb; cases hb), if_pos ((bit1_eq U hU2 c (by omega)).mpr hb)]
        unfold s_X4_sumOf_52 s_X4_sumOf_54
        rw [if_neg (by decide), bad]
        exact ⟨_, _, _, rfl, rfl, TH_1⟩
      · have hb' : U.testBit c = false := by simpa using hb
        rw [if_pos ((free_eq U hU2 c (by omega)).mpr hb'), if_neg (fun h => hb ((bit1_eq U hU2 c (by omega)).mp h)), e_costOf hV (by omega) (by omega), Option.bind_some, or_eq U hU2 c (by omega)]
        unfold s_X4_sumOf_54
        rw [if_pos hq, e_cost4 (by omega) (by omega), Option.bind_some, or_eq U hU2 c (by omega), a1]
        exact ih nf (U ||| 2 ^ c) (x2 / 10) (x4 + cst σ.1 k c) (by omega) (by omega) (or_lt n hn U hU c hcn)
    · rw [if_neg hc, if_pos rfl, if_neg hc]
      unfold s_X4_sumOf_52 s_X4_sumOf_54
      rw [if_neg (by decide), bad]
      exact ⟨_, _, _, rfl, rfl, TH_1⟩
theorem o_sumOf {σ : zC} {μ : zM} (h : Rel σ μ) (p : Int32) : ∃ z b μ2, s_X3_sumOf σ p = some z ∧ s_X4_sumOf μ p = some (b, μ2) ∧ Rel σ μ2 ∧ TH [xA] z b μ2.2.2.2.2 := by
  have h0 := h
  obtain ⟨a1, a2, ⟨n, m, hV, hE⟩, -⟩ := h
  have hn := hV.2.2.2.2.1
  obtain ⟨z, b, th, q1, q2, q3⟩ := sumOf_loop hV a1 n FU 0 p 0 (by unfold FU; omega) (Nat.le_refl _) (two_pos n)
  unfold s_X3_sumOf s_X4_sumOf
  rw [a1, hV.1, sub_one]
  exact ⟨z, b, wt μ th, q1, q2, h0.bad, q3⟩
/-! ===== steps, checksum ===== -/
theorem EK.steps {t : zT} {n : Nat} {K : zK} {E : zE} (h : EK t n K E) : (K.1 = 0 ∧ E.1 = -1) ∨ (K.1 ≠ 0 ∧ K.2.1 = E.1) := by
  rcases h with h | ⟨h1, -, -, -, st, h2, h3, -⟩
  · exact Or.inl h
  · exact Or.inr ⟨by rw [h1]; exact one_ne, by rw [h2, h3]⟩
theorem o_stepsMade {σ : zC} {μ : zM} (h : Rel σ μ) : ∃ v, s_X3_stepsMade σ = some v ∧ s_X4_stepsMade μ = some v := by
  obtain ⟨a1, a2, ⟨n, m, hV, hE⟩, -⟩ := h
  unfold s_X3_stepsMade s_X4_stepsMade
  rcases hE.steps with ⟨h1, h2⟩ | ⟨h1, h2⟩
  · rw [if_pos h1, h2]; exact ⟨_, rfl, rfl⟩
  · rw [if_neg h1, h2]; exact ⟨_, rfl, rfl⟩
def mr (t : zT) (i : Nat) (x : Int64) : Nat → Int64
  | 0 => x
  | j + 1 => 31 * mr t i x j + (cst t i j).toInt64
def mcc (t : zT) (n : Nat) (x : Int64) : Nat → Int64
  | 0 => x
  | i + 1 => mr t i (mcc t n x i) n
def mf (f : List Nat) (x : Int64) : Nat → Int64
  | 0 => x
  | i + 1 => 31 * mf f x i + (nI (f.getD i 0)).toInt64
theorem mix_in {t : zT} {n m i : Nat} {x : Int64} (h : Vt t n m) (hi : i < 7) (k5 : zT → Int64 → Int32 → Option Int64) : ∀ (d nf j : Nat), d < nf → j + d = n → s_X3_mixedCosts_17 k5 nf t (mr t i x j) (nI i) (nI j) = k5 t (mr t i x n) (nI (i + 1)) := by
  have hn := h.2.2.2.2.1
  intro d
  induction d with
  | zero =>
    intro nf j hd hj
    obtain ⟨nf, rfl⟩ : ∃ q, nf = q + 1 := ⟨nf - 1, by omega⟩
    have : j = n := by omega
    subst this
    rw [s_X3_mixedCosts_17, if_pos (by rw [h.1]; exact Int32.le_refl _), nsucc]
  | succ d ih =>
    intro nf j hd hj
    obtain ⟨nf, rfl⟩ : ∃ q, nf = q + 1 := ⟨nf - 1, by omega⟩
    rw [s_X3_mixedCosts_17, if_neg (by rw [h.1, nle (by omega) (by omega)]; omega), e_costOf h hi (by omega), Option.bind_some]
    unfold s_X3_mixed
    rw [Option.bind_some, nsucc]
    exact ih nf (j + 1) (by omega) (by omega)
theorem mix_out {t : zT} {n m : Nat} {x : Int64} (h : Vt t n m) : ∀ (d nf i : Nat), d < nf → i + d = n → s_X3_mixedCosts_5 nf t (mcc t n x i) (nI i) = some (mcc t n x n) := by
  have hn := h.2.2.2.2.1
  intro d
  induction d with
  | zero =>
    intro nf i hd hj
    obtain ⟨nf, rfl⟩ : ∃ q, nf = q + 1 := ⟨nf - 1, by omega⟩
    have : i = n := by omega
    subst this
    rw [s_X3_mixedCosts_5, if_pos (by rw [h.1]; exact Int32.le_refl _)]
  | succ d ih =>
    intro nf i hd hj
    obtain ⟨nf, rfl⟩ : ∃ q, nf = q + 1 := ⟨nf - 1, by omega⟩
    rw [s_X3_mixedCosts_5, if_neg (by rw [h.1, nle (by omega) (by omega)]; omega), n0]
    exact (mix_in (x := mcc t n x i) h (i := i) (by omega) (fun v0 v1 v2 => s_X3_mixedCosts_5 nf v0 v1 v2) n FU 0 (by unfold FU; omega) (by omega)).trans (ih nf (i + 1) (by omega) (by omega))
theorem c_mix {t : zT} {n m : Nat} (x : Int64) (h : Vt t n m) : s_X3_mixedCosts t x = some (mcc t n x n) := by
  have hn := h.2.2.2.2.1
  exact mix_out h n FU 0 (by unfold FU; omega) (by omega)
theorem cks_loop {σ : zC} {n n' m' : Nat} {f : List Nat} {x : Int64} (hs : σ.1.1 = nI n) (hn : n < 8) (hS : Vt σ.2.1 n' m') (hfo : ∀ i, i < n → σ.2.2.2.2.2.1 i = nI (f.getD i 0)) : ∀ (d nf i : Nat), d < nf → i + d = n → s_X3_checksum_73 nf σ (mf f x i) (nI i) = some (mcc σ.2.1 n' (31 * (31 * mf f x n + (nI n').toInt64) + (nI m').toInt64) n', σ) := by
  intro d
  induction d with
  | zero =>
    intro nf i hd hj
    obtain ⟨nf, rfl⟩ : ∃ q, nf = q + 1 := ⟨nf - 1, by omega⟩
    have : i = n := by omega
    subst this
    rw [s_X3_checksum_73, if_pos (by rw [hs]; exact Int32.le_refl _)]
    unfold s_X3_mixed
    rw [Option.bind_some, Option.bind_some, c_mix _ hS, Option.bind_some, hS.1, hS.2.1]
  | succ d ih =>
    intro nf i hd hj
    obtain ⟨nf, rfl⟩ : ∃ q, nf = q + 1 := ⟨nf - 1, by omega⟩
    rw [s_X3_checksum_73, if_neg (by rw [hs, nle (by omega) (by omega)]; omega), if_pos (ib_ok (by omega) (by omega)), ncl (by omega), hfo i (by omega)]
    unfold s_X3_mixed
    rw [Option.bind_some, nsucc]
    exact ih nf (i + 1) (by omega) (by omega)
/-! the reference's -/
theorem k184_in {μ : zM} {n m i : Nat} {x : Int64} (h : Vt μ.2.1 n m) (hi : i < 7) (k5 : zM → Int64 → Int32 → Option (Int64 × zM)) : ∀ (d nf j : Nat), d < nf → j + d = n → s_X4_checksum_184 k5 nf μ (mr μ.2.1 i x j) (nI i) (nI j) = k5 μ (mr μ.2.1 i x n) (nI (i + 1)) := by
  have hn := h.2.2.2.2.1
  intro d
  induction d with
  | zero =>
    intro nf j hd hj
    obtain ⟨nf, rfl⟩ : ∃ q, nf = q + 1 := ⟨nf - 1, by omega⟩
    have : j = n := by omega
    subst this
    rw [s_X4_checksum_184, if_pos (by rw [h.1]; exact Int32.le_refl _), nsucc]
  | succ d ih =>
    intro nf j hd hj
    obtain ⟨nf, rfl⟩ : ∃ q, nf = q + 1 := ⟨nf - 1, by omega⟩
    rw [s_X4_checksum_184, if_neg (by rw [h.1, nle (by omega) (by omega)]; omega), e_savedCost hi (by omega), Option.bind_some, nsucc]
    exact ih nf (j + 1) (by omega) (by omega)
theorem k173_out {μ : zM} {n m : Nat} {x : Int64} (h : Vt μ.2.1 n m) : ∀ (d nf i : Nat), d < nf → i + d = n → s_X4_checksum_173 nf μ (mcc μ.2.1 n x i) (nI i) = some (mcc μ.2.1 n x n, μ) := by
  have hn := h.2.2.2.2.1
  intro d
  induction d with
  | zero =>
    intro nf i hd hj
    obtain ⟨nf, rfl⟩ : ∃ q, nf = q + 1 := ⟨nf - 1, by omega⟩
    have : i = n := by omega
    subst this
    rw [s_X4_checksum_173, if_pos (by rw [h.1]; exact Int32.le_refl _)]
  | succ d ih =>
    intro nf i hd hj
    obtain ⟨nf, rfl⟩ : ∃ q, nf = q + 1 := ⟨nf - 1, by omega⟩
    rw [s_X4_checksum_173, if_neg (by rw [h.1, nle (by omega) (by omega)]; omega), n0]
    exact (k184_in (x := mcc μ.2.1 n x i) h (i := i) (by omega) (fun v0 v1 v2 => s_X4_checksum_173 nf v0 v1 v2) n FU 0 (by unfold FU; omega) (by omega)).trans (ih nf (i + 1) (by omega) (by omega))
theorem k121_loop {μ : zM} {n n' m' : Nat} {f : List Nat} {x : Int64} (hs : μ.1.1 = nI n) (hn : n < 8) (hS : Vt μ.2.1 n' m') (hfo : ∀ i, i < n → μ.2.2.1.2.2.2.1 i = nI (f.getD i 0)) : ∀ (d nf i : Nat), d < nf → i + d = n → s_X4_checksum_121 nf μ (mf f x i) (nI i) = some (mcc μ.2.1 n' (31 * (31 * mf f x n + (nI n').toInt64) + (nI m').toInt64) n', μ) := by
  have hn' := hS.2.2.2.2.1
  intro d
  induction d with
  | zero =>
    intro nf i hd hj
    obtain ⟨nf, rfl⟩ : ∃ q, nf = q + 1 := ⟨nf - 1, by omega⟩
    have : i = n := by omega
    subst this
    rw [s_X4_checksum_121, if_pos (by rw [hs]; exact Int32.le_refl _), hS.1, hS.2.1, n0]
    exact k173_out (x := 31 * (31 * mf f x i + (nI n').toInt64) + (nI m').toInt64) hS n' FU 0 (by unfold FU; omega) (by omega)
  | succ d ih =>
    intro nf i hd hj
    obtain ⟨nf, rfl⟩ : ∃ q, nf = q + 1 := ⟨nf - 1, by omega⟩
    rw [s_X4_checksum_121, if_neg (by rw [hs, nle (by omega) (by omega)]; omega), if_pos (ib_ok (by omega) (by omega)), ncl (by omega), hfo i (by omega), nsucc]
    exact ih nf (i + 1) (by omega) (by omega)
theorem k71_in {μ : zM} {n m i : Nat} {x : Int64} (h : Vt μ.1 n m) (hi : i < 7) (k5 : zM → Int64 → Int32 → Option (Int64 × zM)) : ∀ (d nf j : Nat), d < nf → j + d = n → s_X4_checksum_71 k5 nf μ (mr μ.1 i x j) (nI i) (nI j) = k5 μ (mr μ.1 i x n) (nI (i + 1)) := by
  have hn := h.2.2.2.2.1
  intro d
  induction d with
  | zero =>
    intro nf j hd hj
    obtain ⟨nf, rfl⟩ : ∃ q, nf = q + 1 := ⟨nf - 1, by omega⟩
    have : j = n := by omega
    subst this
    rw [s_X4_checksum_71, if_pos (by rw [h.1]; exact Int32.le_refl _), nsucc]
  | succ d ih =>
    intro nf j hd hj
    obtain ⟨nf, rfl⟩ : ∃ q, nf = q + 1 := ⟨nf - 1, by omega⟩
    rw [s_X4_checksum_71, if_neg (by rw [h.1, nle (by omega) (by omega)]; omega), e_cost4 hi (by omega), Option.bind_some, nsucc]
    exact ih nf (j + 1) (by omega) (by omega)
theorem k60_out {μ : zM} {n m : Nat} {x : Int64} (h : Vt μ.1 n m) : ∀ (d nf i : Nat), d < nf → i + d = n → s_X4_checksum_60 nf μ (mcc μ.1 n x i) (nI i) = s_X4_checksum_121 FU μ (31 * mcc μ.1 n x n + μ.2.2.1.2.2.2.2.1.toInt64) (nI 0) := by
  have hn := h.2.2.2.2.1
  intro d
  induction d with
  | zero =>
    intro nf i hd hj
    obtain ⟨nf, rfl⟩ : ∃ q, nf = q + 1 := ⟨nf - 1, by omega⟩
    have : i = n := by omega
    subst this
    rw [s_X4_checksum_60, if_pos (by rw [h.1]; exact Int32.le_refl _), n0]
  | succ d ih =>
    intro nf i hd hj
    obtain ⟨nf, rfl⟩ : ∃ q, nf = q + 1 := ⟨nf - 1, by omega⟩
    rw [s_X4_checksum_60, if_neg (by rw [h.1, nle (by omega) (by omega)]; omega), show s_X4_checksum_71 (fun v0 v1 v2 => s_X4_checksum_60 nf v0 v1 v2) FU μ (mcc μ.1 n x i) (nI i) (0 : Int32) = s_X4_checksum_71 (fun v0 v1 v2 => s_X4_checksum_60 nf v0 v1 v2) FU μ (mcc μ.1 n x i) (nI i) (nI 0) from by rw [n0]]
    exact (k71_in (x := mcc μ.1 n x i) h (i := i) (by omega) (fun v0 v1 v2 => s_X4_checksum_60 nf v0 v1 v2) n FU 0 (by unfold FU; omega) (by omega)).trans (ih nf (i + 1) (by omega) (by omega))
theorem o_checksum {σ : zC} {μ : zM} (h : Rel σ μ) : ∃ v σ2 μ2, s_X3_checksum σ = some (v, σ2) ∧ s_X4_checksum μ = some (v, μ2) ∧ Rel σ2 μ2 := by
  have h0 := h
  obtain ⟨st, u1, u2⟩ := o_stepsMade h
  obtain ⟨a1, a2, ⟨n, m, hV, hE⟩, ⟨n', m', hS⟩⟩ := h
  have hn := hV.2.2.2.2.1
  have hM : Vt μ.1 n m := by rw [a1]; exact hV
  obtain ⟨v, σ2, p1, p2, p3⟩ := c_minimum hV
  have hV2 : Vt σ2.1 n m := by rw [p3.1.1]; exact hV
  obtain ⟨σ3, f, q1, q2, q3, q4, -⟩ := c_findFirst hV2
  rw [p3.1.1] at q2
  have hk : keepC σ σ3 := p3.1.trans q4
  obtain ⟨L, g1, g2⟩ := e_look_ hM
  obtain ⟨l1, -, g, l2, l3, -⟩ := g2.least hn
  rw [a1] at l1 l2
  have ev : v = L.2.2.2.2.1 := zz_inj.mpr (p2.uniq l1)
  have eg : f = g := q2.uniq l2
  subst eg
  have cks := cks_loop (σ := σ3) (x := 31 * mcc σ.1 n (31 * (31 * (31 * (31 * (31 * 17 + (nI n).toInt64) + (nI m).toInt64) + (fcc σ.1 m n).toInt64) + (tt σ.1 n n).toInt64) + st.toInt64) n + v.toInt64) (n := n) (n' := n') (m' := m') (f := f) (by rw [hk.1]; exact hV.1) hn (by rw [hk.2.1]; exact hS) q3 n FU 0 (by unfold FU; omega) (by omega)
  have mks := k121_loop (μ := wl μ L) (x := 31 * mcc σ.1 n (31 * (31 * (31 * (31 * (31 * 17 + (nI n).toInt64) + (nI m).toInt64) + (fcc σ.1 m n).toInt64) + (tt σ.1 n n).toInt64) + st.toInt64) n + v.toInt64) (n := n) (n' := n') (m' := m') (f := f) hM.1 hn (by show Vt μ.2.1 n' m'; rw [a2]; exact hS) l3 n FU 0 (by unfold FU; omega) (by omega)
  rw [hk.2.1] at cks
  have mks2 : s_X4_checksum_121 FU (wl μ L) (31 * mcc σ.1 n (31 * (31 * (31 * (31 * (31 * 17 + (nI n).toInt64) + (nI m).toInt64) + (fcc σ.1 m n).toInt64) + (tt σ.1 n n).toInt64) + st.toInt64) n + v.toInt64) (nI 0) = some (mcc σ.2.1 n' (31 * (31 * mf f (31 * mcc σ.1 n (31 * (31 * (31 * (31 * (31 * 17 + (nI n).toInt64) + (nI m).toInt64) + (fcc σ.1 m n).toInt64) + (tt σ.1 n n).toInt64) + st.toInt64) n + v.toInt64) n + (nI n').toInt64) + (nI m').toInt64) n', wl μ L) := by
    rw [← a2]; exact mks
  refine ⟨_, σ3, wl μ L, ?_, Eq.trans ?_ mks2, h0.keep hk ⟨rfl, rfl, rfl⟩⟩
  · unfold s_X3_checksum s_X3_rows s_X3_columns
    rw [Option.bind_some, c_forbidden hV, c_total hV, u1, hV.1, hV.2.1]
    unfold s_X3_mixed
    rw [Option.bind_some, Option.bind_some, Option.bind_some, Option.bind_some, Option.bind_some, Option.bind_some, Option.bind_some, Option.bind_some, Option.bind_some, c_mix _ hV, Option.bind_some, p1, Option.bind_some, Option.bind_some, q1, Option.bind_some, n0]
    exact cks
  · unfold s_X4_checksum
    have est : μ.2.2.2.1.1 = st := by unfold s_X4_stepsMade at u2; exact Option.some.inj u2
    have k60 := k60_out (μ := wl μ L) (n := n) (m := m) (x := 31 * (31 * (31 * (31 * (31 * 17 + (nI n).toInt64) + (nI m).toInt64) + (fcc σ.1 m n).toInt64) + (tt σ.1 n n).toInt64) + st.toInt64) hM n FU 0 (by unfold FU; omega) (by omega)
    rw [g1, Option.bind_some, m_forbidden (μ := wl μ L) hM, Option.bind_some, m_total (μ := wl μ L) hM, Option.bind_some]
    show s_X4_checksum_60 FU (wl μ L) (31 * (31 * (31 * (31 * ((527 : Int64) + μ.1.1.toInt64) + μ.1.2.1.toInt64) + (fcc μ.1 m n).toInt64) + (tt μ.1 n n).toInt64) + μ.2.2.2.1.1.toInt64) (nI 0) = _
    rw [est, a1, hV.1, hV.2.1]
    have k60' : s_X4_checksum_60 FU (wl μ L) (31 * (31 * (31 * (31 * ((527 : Int64) + (nI n).toInt64) + (nI m).toInt64) + (fcc σ.1 m n).toInt64) + (tt σ.1 n n).toInt64) + st.toInt64) (nI 0) = _ := k60
    rw [k60', ev]
    show s_X4_checksum_121 FU (wl μ L) (31 * mcc μ.1 n _ n + L.2.2.2.2.1.toInt64) (nI 0) = _
    rw [a1]
