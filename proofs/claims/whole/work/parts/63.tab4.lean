/-! ===== adding to a row, a column ===== -/
abbrev AD (t : zT) (v : Int32) (k : Nat) : Prop := t.2.2.2 k = 0 ∧ inI (t.2.2.1 k + v) 0 99
theorem e_requireAddable {σ : zC} {n m i j : Nat} (h : Vt σ.1 n m) (hi : i < 7) (hj : j < 7) (v : Int32) : s_X3_requireAddable σ (nI i) (nI j) v = some (if AD σ.1 v (7 * i + j) then .inr () else .inl xS) := by
  have e99 : (99 : Int32).toInt = 99 := rfl
  unfold s_X3_requireAddable
  rw [e_numberAt _ hi hj, Option.bind_some, e_isForbidden h hi hj, Option.bind_some]
  by_cases h1 : σ.1.2.2.2 (7 * i + j) = 0
  · rw [if_pos h1]
    by_cases h2 : σ.1.2.2.1 (7 * i + j) + v < 0
    · rw [if_pos h2, if_neg (by rw [p_neg] at h2; intro h3; have := h3.2.1; omega)]
    · rw [if_neg h2]
      by_cases h3 : σ.1.2.2.1 (7 * i + j) + v ≤ 99
      · rw [if_pos h3, if_pos (by rw [p_neg] at h2; rw [zz_le, e99] at h3; exact ⟨h1, by omega, h3⟩)]
      · rw [if_neg h3, if_neg (by rw [zz_le, e99] at h3; intro h4; have := h4.2.2; omega)]
  · rw [if_neg h1, if_neg (fun h => h1 h.1)]
theorem e_takes {μ : zM} {i j : Nat} (hi : i < 7) (hj : j < 7) (v : Int32) : s_X4_takes μ (nI i) (nI j) v = some (if AD μ.1 v (7 * i + j) then 1 else 0) := by
  unfold s_X4_takes
  rw [cell_eq2, if_pos (ib_ok (by omega) (by omega)), if_pos (ib_ok (by omega) (by omega)), ncl (by omega)]
  by_cases h1 : μ.1.2.2.2 (7 * i + j) = 0
  · rw [if_pos h1, e_isIn1 _ 0 99 0 99 rfl rfl, Option.bind_some]
    by_cases h2 : inI (μ.1.2.2.1 (7 * i + j) + v) 0 99
    · rw [if_pos h2, if_neg one_ne, if_pos ⟨h1, h2⟩]
    · rw [if_neg h2, if_pos rfl, if_neg (fun h => h2 h.2)]
  · rw [if_neg h1, if_neg (fun h => h1 h.1)]
theorem e_requireAddend (σ : zC) (v : Int32) : s_X3_requireAddend σ v = some (if inI v (-99) 99 then .inr () else .inl xA) := by
  have e99 : (99 : Int32).toInt = 99 := rfl
  have e99' : (-99 : Int32).toInt = -99 := rfl
  unfold s_X3_requireAddend
  by_cases h1 : v < -99
  · rw [if_pos h1, if_neg (by rw [zz_lt, e99'] at h1; intro h; have := h.1; omega)]
  · rw [if_neg h1]
    by_cases h2 : v ≤ 99
    · rw [if_pos h2, if_pos (by rw [zz_lt, e99'] at h1; rw [zz_le, e99] at h2; exact ⟨by omega, h2⟩)]
    · rw [if_neg h2, if_neg (by rw [zz_le, e99] at h2; intro h; have := h.2; omega)]
theorem Vt.add {t : zT} {n m k : Nat} {v : Int32} (h : Vt t n m) (ha : AD t v k) : Vt (t.1, t.2.1, upd t.2.2.1 k (t.2.2.1 k + v), t.2.2.2) n m := by
  obtain ⟨w, hw, e⟩ := inI_n (b := 99) ha.2
  rw [e]
  exact h.num (by omega)
theorem addR_loop {n m i : Nat} {v : Int32} (hi : i < 7) : ∀ (d nf k : Nat) (t : zT), Vt t n m → (∀ j, k ≤ j → j < m → AD t v (7 * i + j)) → d < nf → k + d = m → ∃ t2, Vt t2 n m ∧
    (∀ σ : zC, σ.1 = t → s_X3_addToRow_42 nf σ (nI i) v (nI k) = some (.inr (rs t2 i n), off σ t2)) ∧
    (∀ μ : zM, μ.1 = t → s_X4_addToRow_119 nf μ (nI i) v (nI k) = some (rs t2 i n, offM μ t2 μ.2.2.2.2)) := by
  intro d
  induction d with
  | zero =>
    intro nf k t h hA hd hk
    obtain ⟨nf, rfl⟩ : ∃ q, nf = q + 1 := ⟨nf - 1, by omega⟩
    have : k = m := by omega
    subst this
    refine ⟨t, h, ?_, ?_⟩
    · rintro σ rfl
      rw [s_X3_addToRow_42, if_pos (by rw [h.2.1]; exact Int32.le_refl _)]
      unfold s_X2_cancel
      rw [Option.bind_some, e_sumOfRow h hi, Option.bind_some]
    · rintro μ rfl
      rw [s_X4_addToRow_119, if_pos (by rw [h.2.1]; exact Int32.le_refl _), e_rowSum (μ := (μ.1, μ.2.1, μ.2.2.1, ((-1 : Int32), μ.2.2.2.1.2.1, μ.2.2.2.1.2.2.1, μ.2.2.2.1.2.2.2), μ.2.2.2.2)) h hi, Option.bind_some]
  | succ d ih =>
    intro nf k t h hA hd hk
    have hn := h.2.2.2.2.1
    have hmn := h.2.2.2.1
    obtain ⟨nf, rfl⟩ : ∃ q, nf = q + 1 := ⟨nf - 1, by omega⟩
    have i1 : ib (nI (7 * i + k)) 49 = true := ib_ok (by omega) (by omega)
    obtain ⟨t2, q1, q2, q3⟩ := ih nf (k + 1) (t.1, t.2.1, upd t.2.2.1 (7 * i + k) (t.2.2.1 (7 * i + k) + v), t.2.2.2) (h.add (hA k (Nat.le_refl _) (by omega))) (fun j h1 h2 => by
      have := hA j (by omega) h2
      refine ⟨this.1, ?_⟩
      show inI (upd _ _ _ (7 * i + j) + v) 0 99
      rw [upd_ne (by omega)]
      exact this.2) (by omega) (by omega)
    refine ⟨t2, q1, ?_, ?_⟩
    · rintro σ rfl
      rw [s_X3_addToRow_42, if_neg (by rw [h.2.1, nle (by omega) (by omega)]; omega), e_numberAt _ hi (by omega), Option.bind_some, e_putNumber _ hi (by omega), Option.bind_some, nsucc]
      exact q2 ((σ.1.1, σ.1.2.1, upd σ.1.2.2.1 (7 * i + k) (σ.1.2.2.1 (7 * i + k) + v), σ.1.2.2.2), σ.2) rfl
    · rintro μ rfl
      rw [s_X4_addToRow_119, if_neg (by rw [h.2.1, nle (by omega) (by omega)]; omega), cell_eq2, if_pos i1, if_pos i1, ncl (by omega), nsucc]
      exact q3 ((μ.1.1, μ.1.2.1, upd μ.1.2.2.1 (7 * i + k) (μ.1.2.2.1 (7 * i + k) + v), μ.1.2.2.2), μ.2) rfl
theorem cR16 {σ : zC} {n m i : Nat} {v : Int32} (h : Vt σ.1 n m) (hi : i < 7) : ∀ (d nf k : Nat), d < nf → k + d = m →
    ((∀ j, k ≤ j → j < m → AD σ.1 v (7 * i + j)) → s_X3_addToRow_16 nf σ (nI i) v (nI k) = s_X3_addToRow_42 FU σ (nI i) v (nI 0)) ∧
    ((∃ j, k ≤ j ∧ j < m ∧ ¬ AD σ.1 v (7 * i + j)) → s_X3_addToRow_16 nf σ (nI i) v (nI k) = some (.inl xS, σ)) := by
  have hn := h.2.2.2.2.1
  have hmn := h.2.2.2.1
  intro d
  induction d with
  | zero =>
    intro nf k hd hk
    obtain ⟨nf, rfl⟩ : ∃ q, nf = q + 1 := ⟨nf - 1, by omega⟩
    refine ⟨fun _ => ?_, fun ⟨j, h1, h2, _⟩ => by omega⟩
    rw [s_X3_addToRow_16, if_pos (by rw [h.2.1, nle (by omega) (by omega)]; omega), ← n0]
  | succ d ih =>
    intro nf k hd hk
    obtain ⟨nf, rfl⟩ : ∃ q, nf = q + 1 := ⟨nf - 1, by omega⟩
    have ih2 := ih nf (k + 1) (by omega) (by omega)
    rw [s_X3_addToRow_16, if_neg (by rw [h.2.1, nle (by omega) (by omega)]; omega), e_requireAddable h hi (by omega), Option.bind_some, nsucc]
    by_cases hA : AD σ.1 v (7 * i + k)
    · rw [if_pos hA, zsel_r]
      refine ⟨fun hh => ih2.1 (fun j h1 h2 => hh j (by omega) h2), fun ⟨j, h1, h2, h3⟩ => ih2.2 ⟨j, ?_, h2, h3⟩⟩
      by_cases hjk : j = k
      · subst hjk; exact absurd hA h3
      · omega
    · rw [if_neg hA, zsel_l]
      exact ⟨fun hh => absurd (hh k (by omega) (by omega)) hA, fun _ => rfl⟩
theorem mR20 {μ : zM} {n m i : Nat} {v : Int32} {P : Prop} (h : Vt μ.1 n m) (hi : i < n) (hv : inI v (-99) 99) : ∀ (d nf k : Nat) (x3 : Int32), d < nf → k + d = m → B01 (P ∧ ∀ j, j < k → AD μ.1 v (7 * i + j)) x3 →
    ∃ y, s_X4_addToRow_20 nf μ (nI i) v x3 (nI k) = s_X4_addToRow_68 μ (nI i) v y ∧ B01 (P ∧ ∀ j, j < m → AD μ.1 v (7 * i + j)) y := by
  have hn := h.2.2.2.2.1
  have hmn := h.2.2.2.1
  have hiN : inN (nI i) n := inN_mk hi hn
  have e9 : s_X4_isIn v.toInt64 (-99 : Int64) (99 : Int64) = some (if inI v (-99) 99 then 1 else 0) := e_isIn1 v (-99) 99 (-99) 99 rfl rfl
  intro d
  induction d with
  | zero =>
    intro nf k x3 hd hk hb
    obtain ⟨nf, rfl⟩ : ∃ q, nf = q + 1 := ⟨nf - 1, by omega⟩
    have : k = m := by omega
    subst this
    rw [s_X4_addToRow_20, m_row h, if_pos hiN, e9, Option.bind_some, if_pos hv, if_neg one_ne, if_pos (by rw [h.2.1]; exact Int32.le_refl _)]
    exact ⟨x3, rfl, hb⟩
  | succ d ih =>
    intro nf k x3 hd hk hb
    obtain ⟨nf, rfl⟩ : ∃ q, nf = q + 1 := ⟨nf - 1, by omega⟩
    rw [s_X4_addToRow_20, m_row h, if_pos hiN, e9, Option.bind_some, if_pos hv, if_neg one_ne, if_neg (by rw [h.2.1, nle (by omega) (by omega)]; omega), e_takes (by omega) (by omega), Option.bind_some, nsucc]
    by_cases hA : AD μ.1 v (7 * i + k)
    · rw [if_pos hA]
      refine ih nf (k + 1) _ (by omega) (by omega) ((B01_and1 hb).congr ⟨fun hh => ⟨hh.1, fun j hj => ?_⟩, fun hh => ⟨hh.1, fun j hj => hh.2 j (by omega)⟩⟩)
      by_cases hjk : j = k
      · subst hjk; exact hA
      · exact hh.2 j (by omega)
    · rw [if_neg hA]
      exact ih nf (k + 1) _ (by omega) (by omega) (B01_and0 hb _ (fun hh => hA (hh.2 k (by omega))))
theorem o_addToRow {σ : zC} {μ : zM} (h : Rel σ μ) (p v : Int32) : ∃ z σ2 b μ2, s_X3_addToRow σ p v = some (z, σ2) ∧ s_X4_addToRow μ p v = some (b, μ2) ∧ Rel σ2 μ2 ∧ TH [xO, xA, xS] z b μ2.2.2.2.2 := by
  have h0 := h
  obtain ⟨a1, a2, ⟨n, m, hV, hE⟩, -⟩ := h
  have hn := hV.2.2.2.2.1
  have hmn := hV.2.2.2.1
  have hM : Vt μ.1 n m := by rw [a1]; exact hV
  have e9 : s_X4_isIn v.toInt64 (-99 : Int64) (99 : Int64) = some (if inI v (-99) 99 then 1 else 0) := e_isIn1 v (-99) 99 (-99) 99 rfl rfl
  have entry : ∀ (A : Option (Int32 × zM)), (∀ x3 : Int32, B01 (m = n ∧ ∀ j, j < 0 → AD μ.1 v (7 * 0 + j)) x3 → s_X4_addToRow_20 FU μ p v x3 (nI 0) = A) → s_X4_addToRow μ p v = A := by
    intro A hA
    unfold s_X4_addToRow
    rw [hM.1, hM.2.1]
    by_cases hmn2 : nI m = nI n
    · rw [if_pos hmn2]
      exact hA 1 (Or.inl ⟨rfl, (neq (by omega) (by omega)).mp hmn2, fun j hj => by omega⟩)
    · rw [if_neg hmn2]
      exact hA 0 (Or.inr ⟨rfl, fun hh => hmn2 (by rw [hh.1])⟩)
  have r68 : ∀ y : Int32, ¬ inN p n → s_X4_addToRow_68 μ p v y = some (0, wt μ 1) := by
    intro y hp
    unfold s_X4_addToRow_68
    rw [m_row hM, if_neg hp, e_isWrong1 μ (by decide), Option.bind_some, if_neg one_ne]
  have r68b : ∀ y : Int32, inN p n → ¬ inI v (-99) 99 → s_X4_addToRow_68 μ p v y = some (0, wt μ 2) := by
    intro y hp hv
    unfold s_X4_addToRow_68
    rw [m_row hM, if_pos hp, e9, Option.bind_some, if_neg hv, if_pos rfl, e_isWrong1 μ (by decide), Option.bind_some, if_neg one_ne]
  obtain ⟨N, hN⟩ : ∃ q, FU = q + 1 := ⟨99999, rfl⟩
  unfold s_X3_addToRow
  rw [e_requireRow hV.1 hn, Option.bind_some]
  by_cases hp : inN p n
  · rw [if_pos hp, zsel_r, e_requireAddend, Option.bind_some]
    by_cases hv : inI v (-99) 99
    · rw [if_pos hv, zsel_r]
      obtain ⟨i, hi, rfl, -⟩ := inN_n hp
      unfold s_X3_requireNoDummyColumn
      rw [hV.1, hV.2.1]
      have hM2 : ∃ y, s_X4_addToRow μ (nI i) v = s_X4_addToRow_68 μ (nI i) v y ∧ B01 (m = n ∧ ∀ j, j < m → AD μ.1 v (7 * i + j)) y := by
        unfold s_X4_addToRow
        rw [hM.1, hM.2.1, show (0 : Int32) = nI 0 from rfl]
        by_cases hmn2 : nI m = nI n
        · rw [if_pos hmn2]
          exact mR20 hM hi hv m FU 0 1 (by unfold FU; omega) (by omega) (Or.inl ⟨rfl, (neq (by omega) (by omega)).mp hmn2, fun j hj => by omega⟩)
        · rw [if_neg hmn2]
          exact mR20 hM hi hv m FU 0 0 (by unfold FU; omega) (by omega) (Or.inr ⟨rfl, fun hh => hmn2 (by rw [hh.1])⟩)
      obtain ⟨y, y1, y2⟩ := hM2
      have x68 : ∀ y : Int32, s_X4_addToRow_68 μ (nI i) v y = if y = 0 then some (0, wt μ 3) else s_X4_addToRow_119 FU (wt μ 0) (nI i) v (nI 0) := by
        intro y
        unfold s_X4_addToRow_68
        rw [m_row hM, if_pos hp, e9, Option.bind_some, if_pos hv, if_neg one_ne]
        by_cases hy : y = 0
        · rw [if_pos hy, if_pos hy, e_isWrong1 μ (by decide), Option.bind_some, if_neg one_ne]
        · rw [if_neg hy, if_neg hy, e_isWrong0 μ, Option.bind_some, if_pos rfl, n0]
      rw [y1, x68]
      by_cases hd : nI n ≤ nI m
      · have hnm : n ≤ m := (nle (by omega) (by omega)).mp hd
        rw [if_pos hd, Option.bind_some, zsel_r]
        have c16 := cR16 (v := v) hV (i := i) (by omega) m FU 0 (by unfold FU; omega) (by omega)
        by_cases hall : ∀ j, j < m → AD σ.1 v (7 * i + j)
        · rcases y2 with ⟨rfl, y2⟩ | ⟨-, y2⟩
          · rw [if_neg one_ne]
            obtain ⟨t2, q1, q2, q3⟩ := addR_loop (n := n) (m := m) (i := i) (v := v) (by omega) m FU 0 σ.1 hV (fun j _ hj => hall j hj) (by unfold FU; omega) (by omega)
            exact ⟨_, _, _, _, (c16.1 (fun j _ hj => hall j hj)).trans (q2 σ rfl), q3 (wt μ 0) a1, h0.off q1, TH_0⟩
          · exact absurd ⟨by omega, by rw [a1]; exact hall⟩ y2
        · rcases y2 with ⟨-, y2⟩ | ⟨rfl, -⟩
          · exact absurd (by rw [← a1]; exact y2.2) hall
          · rw [if_pos rfl]
            refine ⟨_, _, _, _, c16.2 ?_, rfl, h0.bad, TH_3⟩
            exact Classical.byContradiction (fun hno => hall (fun j hj => Classical.byContradiction (fun h => hno ⟨j, Nat.zero_le _, hj, h⟩)))
      · have hnm : ¬ n ≤ m := fun h => hd ((nle (by omega) (by omega)).mpr h)
        rw [if_neg hd, Option.bind_some, zsel_l]
        rcases y2 with ⟨-, y2⟩ | ⟨rfl, -⟩
        · exact absurd y2.1 (by omega)
        · rw [if_pos rfl]
          exact ⟨_, _, _, _, rfl, rfl, h0.bad, TH_3⟩
    · rw [if_neg hv, zsel_l, entry (some (0, wt μ 2)) (fun x3 _ => by
        rw [hN, s_X4_addToRow_20, m_row hM, if_pos hp, e9, Option.bind_some, if_neg hv, if_pos rfl]
        exact r68b x3 hp hv)]
      exact ⟨_, _, _, _, rfl, rfl, h0.bad, TH_2⟩
  · rw [if_neg hp, zsel_l, entry (some (0, wt μ 1)) (fun x3 _ => by
      rw [hN, s_X4_addToRow_20, m_row hM, if_neg hp]
      exact r68 x3 hp)]
    exact ⟨_, _, _, _, rfl, rfl, h0.bad, TH_1⟩
/-! columns -/
theorem addC_loop {n m i : Nat} {v : Int32} (hi : i < 7) : ∀ (d nf k : Nat) (t : zT), Vt t n m → (∀ j, k ≤ j → j < n → AD t v (7 * j + i)) → d < nf → k + d = n → ∃ t2, Vt t2 n m ∧
    (∀ σ : zC, σ.1 = t → s_X3_addToColumn_38 nf σ (nI i) v (nI k) = some (.inr (cs t2 i n), off σ t2)) ∧
    (∀ μ : zM, μ.1 = t → s_X4_addToColumn_104 nf μ (nI i) v (nI k) = some (cs t2 i n, offM μ t2 μ.2.2.2.2)) := by
  intro d
  induction d with
  | zero =>
    intro nf k t h hA hd hk
    obtain ⟨nf, rfl⟩ : ∃ q, nf = q + 1 := ⟨nf - 1, by omega⟩
    have : k = n := by omega
    subst this
    refine ⟨t, h, ?_, ?_⟩
    · rintro σ rfl
      rw [s_X3_addToColumn_38, if_pos (by rw [h.1]; exact Int32.le_refl _)]
      unfold s_X2_cancel
      rw [Option.bind_some, e_sumOfColumn h hi, Option.bind_some]
    · rintro μ rfl
      rw [s_X4_addToColumn_104, if_pos (by rw [h.1]; exact Int32.le_refl _), e_columnSum (μ := (μ.1, μ.2.1, μ.2.2.1, ((-1 : Int32), μ.2.2.2.1.2.1, μ.2.2.2.1.2.2.1, μ.2.2.2.1.2.2.2), μ.2.2.2.2)) h hi, Option.bind_some]
  | succ d ih =>
    intro nf k t h hA hd hk
    have hn := h.2.2.2.2.1
    have hmn := h.2.2.2.1
    obtain ⟨nf, rfl⟩ : ∃ q, nf = q + 1 := ⟨nf - 1, by omega⟩
    have i1 : ib (nI (7 * k + i)) 49 = true := ib_ok (by omega) (by omega)
    obtain ⟨t2, q1, q2, q3⟩ := ih nf (k + 1) (t.1, t.2.1, upd t.2.2.1 (7 * k + i) (t.2.2.1 (7 * k + i) + v), t.2.2.2) (h.add (hA k (Nat.le_refl _) (by omega))) (fun j h1 h2 => by
      have := hA j (by omega) h2
      refine ⟨this.1, ?_⟩
      show inI (upd _ _ _ (7 * j + i) + v) 0 99
      rw [upd_ne (by omega)]
      exact this.2) (by omega) (by omega)
    refine ⟨t2, q1, ?_, ?_⟩
    · rintro σ rfl
      rw [s_X3_addToColumn_38, if_neg (by rw [h.1, nle (by omega) (by omega)]; omega), e_numberAt _ (by omega) hi, Option.bind_some, e_putNumber _ (by omega) hi, Option.bind_some, nsucc]
      exact q2 ((σ.1.1, σ.1.2.1, upd σ.1.2.2.1 (7 * k + i) (σ.1.2.2.1 (7 * k + i) + v), σ.1.2.2.2), σ.2) rfl
    · rintro μ rfl
      rw [s_X4_addToColumn_104, if_neg (by rw [h.1, nle (by omega) (by omega)]; omega), cell_eq2, if_pos i1, if_pos i1, ncl (by omega), nsucc]
      exact q3 ((μ.1.1, μ.1.2.1, upd μ.1.2.2.1 (7 * k + i) (μ.1.2.2.1 (7 * k + i) + v), μ.1.2.2.2), μ.2) rfl
theorem cC12 {σ : zC} {n m i : Nat} {v : Int32} (h : Vt σ.1 n m) (hi : i < 7) : ∀ (d nf k : Nat), d < nf → k + d = n →
    ((∀ j, k ≤ j → j < n → AD σ.1 v (7 * j + i)) → s_X3_addToColumn_12 nf σ (nI i) v (nI k) = s_X3_addToColumn_38 FU σ (nI i) v (nI 0)) ∧
    ((∃ j, k ≤ j ∧ j < n ∧ ¬ AD σ.1 v (7 * j + i)) → s_X3_addToColumn_12 nf σ (nI i) v (nI k) = some (.inl xS, σ)) := by
  have hn := h.2.2.2.2.1
  intro d
  induction d with
  | zero =>
    intro nf k hd hk
    obtain ⟨nf, rfl⟩ : ∃ q, nf = q + 1 := ⟨nf - 1, by omega⟩
    refine ⟨fun _ => ?_, fun ⟨j, h1, h2, _⟩ => by omega⟩
    rw [s_X3_addToColumn_12, if_pos (by rw [h.1, nle (by omega) (by omega)]; omega), ← n0]
  | succ d ih =>
    intro nf k hd hk
    obtain ⟨nf, rfl⟩ : ∃ q, nf = q + 1 := ⟨nf - 1, by omega⟩
    have ih2 := ih nf (k + 1) (by omega) (by omega)
    rw [s_X3_addToColumn_12, if_neg (by rw [h.1, nle (by omega) (by omega)]; omega), e_requireAddable h (by omega) hi, Option.bind_some, nsucc]
    by_cases hA : AD σ.1 v (7 * k + i)
    · rw [if_pos hA, zsel_r]
      refine ⟨fun hh => ih2.1 (fun j h1 h2 => hh j (by omega) h2), fun ⟨j, h1, h2, h3⟩ => ih2.2 ⟨j, ?_, h2, h3⟩⟩
      by_cases hjk : j = k
      · subst hjk; exact absurd hA h3
      · omega
    · rw [if_neg hA, zsel_l]
      exact ⟨fun hh => absurd (hh k (by omega) (by omega)) hA, fun _ => rfl⟩
theorem mC5 {μ : zM} {n m i : Nat} {v : Int32} (h : Vt μ.1 n m) (hi : i < m) (hv : inI v (-99) 99) : ∀ (d nf k : Nat) (x3 : Int32), d < nf → k + d = n → B01 (∀ j, j < k → AD μ.1 v (7 * j + i)) x3 →
    ∃ y, s_X4_addToColumn_5 nf μ (nI i) v x3 (nI k) = s_X4_addToColumn_53 μ (nI i) v y ∧ B01 (∀ j, j < n → AD μ.1 v (7 * j + i)) y := by
  have hn := h.2.2.2.2.1
  have hmn := h.2.2.2.1
  have hiN : inN (nI i) m := inN_mk hi (by omega)
  have e9 : s_X4_isIn v.toInt64 (-99 : Int64) (99 : Int64) = some (if inI v (-99) 99 then 1 else 0) := e_isIn1 v (-99) 99 (-99) 99 rfl rfl
  intro d
  induction d with
  | zero =>
    intro nf k x3 hd hk hb
    obtain ⟨nf, rfl⟩ : ∃ q, nf = q + 1 := ⟨nf - 1, by omega⟩
    have : k = n := by omega
    subst this
    rw [s_X4_addToColumn_5, m_real h, if_pos hiN, e9, Option.bind_some, if_pos hv, if_neg one_ne, if_pos (by rw [h.1]; exact Int32.le_refl _)]
    exact ⟨x3, rfl, hb⟩
  | succ d ih =>
    intro nf k x3 hd hk hb
    obtain ⟨nf, rfl⟩ : ∃ q, nf = q + 1 := ⟨nf - 1, by omega⟩
    rw [s_X4_addToColumn_5, m_real h, if_pos hiN, e9, Option.bind_some, if_pos hv, if_neg one_ne, if_neg (by rw [h.1, nle (by omega) (by omega)]; omega), e_takes (by omega) (by omega), Option.bind_some, nsucc]
    by_cases hA : AD μ.1 v (7 * k + i)
    · rw [if_pos hA]
      refine ih nf (k + 1) _ (by omega) (by omega) ((B01_and1 hb).congr ⟨fun hh j hj => ?_, fun hh j hj => hh j (by omega)⟩)
      by_cases hjk : j = k
      · subst hjk; exact hA
      · exact hh j (by omega)
    · rw [if_neg hA]
      exact ih nf (k + 1) _ (by omega) (by omega) (B01_and0 hb _ (fun hh => hA (hh k (by omega))))
theorem o_addToColumn {σ : zC} {μ : zM} (h : Rel σ μ) (p v : Int32) : ∃ z σ2 b μ2, s_X3_addToColumn σ p v = some (z, σ2) ∧ s_X4_addToColumn μ p v = some (b, μ2) ∧ Rel σ2 μ2 ∧ TH [xO, xA, xS] z b μ2.2.2.2.2 := by
  have h0 := h
  obtain ⟨a1, a2, ⟨n, m, hV, hE⟩, -⟩ := h
  have hn := hV.2.2.2.2.1
  have hmn := hV.2.2.2.1
  have hM : Vt μ.1 n m := by rw [a1]; exact hV
  have e9 : s_X4_isIn v.toInt64 (-99 : Int64) (99 : Int64) = some (if inI v (-99) 99 then 1 else 0) := e_isIn1 v (-99) 99 (-99) 99 rfl rfl
  obtain ⟨N, hN⟩ : ∃ q, FU = q + 1 := ⟨99999, rfl⟩
  unfold s_X3_addToColumn s_X4_addToColumn
  rw [e_requireRealColumn hV.2.1 (by omega), Option.bind_some]
  by_cases hp : inN p m
  · rw [if_pos hp, zsel_r, e_requireAddend, Option.bind_some]
    by_cases hv : inI v (-99) 99
    · rw [if_pos hv, zsel_r]
      obtain ⟨i, hi, rfl, -⟩ := inN_n hp
      obtain ⟨y, y1, y2⟩ := mC5 hM hi hv n FU 0 1 (by unfold FU; omega) (by omega) (Or.inl ⟨rfl, fun j hj => by omega⟩)
      rw [show (0 : Int32) = nI 0 from rfl, y1]
      unfold s_X4_addToColumn_53
      rw [m_real hM, if_pos hp, e9, Option.bind_some, if_pos hv, if_neg one_ne]
      have c16 := cC12 (v := v) hV (i := i) (by omega) n FU 0 (by unfold FU; omega) (by omega)
      by_cases hall : ∀ j, j < n → AD σ.1 v (7 * j + i)
      · rcases y2 with ⟨rfl, y2⟩ | ⟨-, y2⟩
        · rw [if_neg one_ne, e_isWrong0 μ, Option.bind_some, if_pos rfl]
          obtain ⟨t2, q1, q2, q3⟩ := addC_loop (n := n) (m := m) (i := i) (v := v) (by omega) n FU 0 σ.1 hV (fun j _ hj => hall j hj) (by unfold FU; omega) (by omega)
          exact ⟨_, _, _, _, (c16.1 (fun j _ hj => hall j hj)).trans (q2 σ rfl), q3 (wt μ 0) a1, h0.off q1, TH_0⟩
        · exact absurd (by rw [a1]; exact hall) y2
      · rcases y2 with ⟨-, y2⟩ | ⟨rfl, -⟩
        · exact absurd (by rw [← a1]; exact y2) hall
        · rw [if_pos rfl, e_isWrong1 μ (by decide), Option.bind_some, if_neg one_ne]
          refine ⟨_, _, _, _, c16.2 ?_, rfl, h0.bad, TH_3⟩
          exact Classical.byContradiction (fun hno => hall (fun j hj => Classical.byContradiction (fun h => hno ⟨j, Nat.zero_le _, hj, h⟩)))
    · rw [if_neg hv, zsel_l, hN, s_X4_addToColumn_5, m_real hM, if_pos hp, e9, Option.bind_some, if_neg hv, if_pos rfl]
      unfold s_X4_addToColumn_53
      rw [m_real hM, if_pos hp, e9, Option.bind_some, if_neg hv, if_pos rfl, e_isWrong1 μ (by decide), Option.bind_some, if_neg one_ne]
      exact ⟨_, _, _, _, rfl, rfl, h0.bad, TH_2⟩
  · rw [if_neg hp, zsel_l, hN, s_X4_addToColumn_5, m_real hM, if_neg hp]
    unfold s_X4_addToColumn_53
    rw [m_real hM, if_neg hp, e_isWrong1 μ (by decide), Option.bind_some, if_neg one_ne]
    exact ⟨_, _, _, _, rfl, rfl, h0.bad, TH_1⟩
