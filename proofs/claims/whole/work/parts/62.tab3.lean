/-! ===== exchanges ===== -/
def sw (t : zT) (a b : Nat) : zT := (t.1, t.2.1, upd (upd t.2.2.1 a (t.2.2.1 b)) b (t.2.2.1 a), upd (upd t.2.2.2 a (t.2.2.2 b)) b (t.2.2.2 a))
theorem sw_Vt {t : zT} {n m a b : Nat} (h : Vt t n m) (ha : a < 49) (hb : b < 49) : Vt (sw t a b) n m := by
  obtain ⟨h1, h2, h3, h4, h5, h6, h7⟩ := h
  refine ⟨h1, h2, h3, h4, h5, fun j hj => ?_, fun j hj => ?_⟩
  · show ∃ w, w < 100 ∧ upd _ _ _ j = nI w
    by_cases hjb : j = b
    · subst hjb; rw [upd_same]; exact h6 a ha
    · rw [upd_ne hjb]
      by_cases hja : j = a
      · subst hja; rw [upd_same]; exact h6 b hb
      · rw [upd_ne hja]; exact h6 j hj
  · show upd _ _ _ j = 0 ∨ upd _ _ _ j = 1
    by_cases hjb : j = b
    · subst hjb; rw [upd_same]; exact h7 a ha
    · rw [upd_ne hjb]
      by_cases hja : j = a
      · subst hja; rw [upd_same]; exact h7 b hb
      · rw [upd_ne hja]; exact h7 j hj
theorem e_swapCells {t : zT} {n m i j i' j' : Nat} (h : Vt t n m) (hi : i < 7) (hj : j < 7) (hi' : i' < 7) (hj' : j' < 7) : s_X1_swapCells t (nI i) (nI j) (nI i') (nI j') = some (sw t (7 * i + j) (7 * i' + j')) := by
  have b1 := h.bit (k := 7 * i + j) (by omega)
  have b2 := h.bit (k := 7 * i' + j') (by omega)
  obtain ⟨w, hw, ew⟩ := h.2.2.2.2.2.1 (7 * i' + j') (by omega)
  have h4 : Vt (t.1, t.2.1, upd t.2.2.1 (7 * i + j) (t.2.2.1 (7 * i' + j')), t.2.2.2) n m := by rw [ew]; exact h.num hw
  unfold s_X1_swapCells
  rw [e_numberAt t hi hj, Option.bind_some, e_isForbidden h hi hj, Option.bind_some, e_numberAt t hi' hj', Option.bind_some, e_putNumber t hi hj, Option.bind_some, e_isForbidden h4 hi' hj', Option.bind_some, e_putForbidden _ hi hj, Option.bind_some, e_putNumber _ hi' hj', Option.bind_some, e_putForbidden _ hi' hj', Option.bind_some]
  unfold sw
  show some (t.1, t.2.1, upd (upd t.2.2.1 (7 * i + j) (t.2.2.1 (7 * i' + j'))) (7 * i' + j') (t.2.2.1 (7 * i + j)), upd (upd t.2.2.2 (7 * i + j) (t.2.2.2 (7 * i' + j') &&& 1)) (7 * i' + j') (t.2.2.2 (7 * i + j) &&& 1)) = _
  rw [b1, b2]
theorem e_exchangeCells {μ : zM} {n m a b : Nat} (h : Vt μ.1 n m) (ha : a < 49) (hb : b < 49) : s_X4_exchangeCells μ (nI a) (nI b) = some (sw μ.1 a b, μ.2) := by
  have i1 : ib (nI a) 49 = true := ib_ok ha (by omega)
  have i2 : ib (nI b) 49 = true := ib_ok hb (by omega)
  unfold s_X4_exchangeCells sw
  rw [if_pos i1, if_pos i1, if_pos i2, if_pos i1, if_pos i2, if_pos i1, if_pos i2, if_pos i2, ncl (show a < 1000000 by omega), ncl (show b < 1000000 by omega), h.bit ha, h.bit hb]
theorem zsel_r {α β : Type} (v : α) (f : String → β) (g : α → β) : zsel (.inr v) f g = g v := rfl
theorem zsel_l {α β : Type} (E : String) (f : String → β) (g : α → β) : zsel (.inl E) f g = f E := rfl
theorem swapRows_loop {n m i i' : Nat} (hi : i < 7) (hi' : i' < 7) : ∀ (d nf k : Nat) (t : zT), Vt t n m → d < nf → k + d = m → ∃ t2, Vt t2 n m ∧
    (∀ σ : zC, σ.1 = t → s_X3_swapRows_12 nf σ (nI i) (nI i') (nI k) = some (.inr (rs t2 i n), off σ t2)) ∧
    (∀ μ : zM, μ.1 = t → s_X4_swapRows_32 nf μ (nI i) (nI i') (nI k) = some (rs t2 i n, offM μ t2 μ.2.2.2.2)) := by
  intro d
  induction d with
  | zero =>
    intro nf k t h hd hk
    obtain ⟨nf, rfl⟩ : ∃ q, nf = q + 1 := ⟨nf - 1, by omega⟩
    have : k = m := by omega
    subst this
    refine ⟨t, h, ?_, ?_⟩
    · rintro σ rfl
      rw [s_X3_swapRows_12, if_pos (by rw [h.2.1]; exact Int32.le_refl _)]
      unfold s_X2_cancel
      rw [Option.bind_some, e_sumOfRow h hi, Option.bind_some]
    · rintro μ rfl
      rw [s_X4_swapRows_32, if_pos (by rw [h.2.1]; exact Int32.le_refl _), e_rowSum (μ := (μ.1, μ.2.1, μ.2.2.1, ((-1 : Int32), μ.2.2.2.1.2.1, μ.2.2.2.1.2.2.1, μ.2.2.2.1.2.2.2), μ.2.2.2.2)) h hi, Option.bind_some]
  | succ d ih =>
    intro nf k t h hd hk
    have hn := h.2.2.2.2.1
    have hmn := h.2.2.2.1
    obtain ⟨nf, rfl⟩ : ∃ q, nf = q + 1 := ⟨nf - 1, by omega⟩
    obtain ⟨t2, q1, q2, q3⟩ := ih nf (k + 1) (sw t (7 * i + k) (7 * i' + k)) (sw_Vt h (by omega) (by omega)) (by omega) (by omega)
    refine ⟨t2, q1, ?_, ?_⟩
    · rintro σ rfl
      rw [s_X3_swapRows_12, if_neg (by rw [h.2.1, nle (by omega) (by omega)]; omega), e_swapCells h hi (by omega) hi' (by omega), Option.bind_some, nsucc]
      exact q2 (sw σ.1 (7 * i + k) (7 * i' + k), σ.2) rfl
    · rintro μ rfl
      rw [s_X4_swapRows_32, if_neg (by rw [h.2.1, nle (by omega) (by omega)]; omega), cell_eq2, cell_eq2, e_exchangeCells h (by omega) (by omega), Option.bind_some, nsucc]
      exact q3 (sw μ.1 (7 * i + k) (7 * i' + k), μ.2) rfl
theorem o_swapRows {σ : zC} {μ : zM} (h : Rel σ μ) (p q : Int32) : ∃ z σ2 b μ2, s_X3_swapRows σ p q = some (z, σ2) ∧ s_X4_swapRows μ p q = some (b, μ2) ∧ Rel σ2 μ2 ∧ TH [xO] z b μ2.2.2.2.2 := by
  have h0 := h
  obtain ⟨a1, a2, ⟨n, m, hV, hE⟩, -⟩ := h
  have hn := hV.2.2.2.2.1
  have hmn := hV.2.2.2.1
  have hM : Vt μ.1 n m := by rw [a1]; exact hV
  unfold s_X4_swapRows s_X3_swapRows
  rw [m_cell hM, e_requireRow hV.1 hn, Option.bind_some]
  by_cases hp : inN p n ∧ inN q n
  · rw [if_pos hp, if_pos hp.1]
    show ∃ z σ2 b μ2, ((s_X3_requireRow σ q).bind fun z2 => zsel z2 (fun E => some ((Sum.inl E), σ)) (fun r2 => s_X3_swapRows_12 FU σ p q (0 : Int32))) = some (z, σ2) ∧ _
    rw [e_requireRow hV.1 hn, Option.bind_some, if_pos hp.2, zsel_r]
    obtain ⟨i, hi, rfl, -⟩ := inN_n hp.1
    obtain ⟨j, hj, rfl, -⟩ := inN_n hp.2
    obtain ⟨t2, q1, q2, q3⟩ := swapRows_loop (n := n) (m := m) (i := i) (i' := j) (by omega) (by omega) m FU 0 σ.1 hV (by unfold FU; omega) (by omega)
    rw [e_isWrong0, Option.bind_some, if_pos rfl]
    exact ⟨_, _, _, _, q2 σ rfl, q3 (wt μ 0) a1, h0.off q1, TH_0⟩
  · rw [if_neg hp, e_isWrong1 μ (by decide), Option.bind_some, if_neg one_ne]
    by_cases h1 : inN p n
    · rw [if_pos h1]
      show ∃ z σ2 b μ2, ((s_X3_requireRow σ q).bind fun z2 => zsel z2 (fun E => some ((Sum.inl E), σ)) (fun r2 => s_X3_swapRows_12 FU σ p q (0 : Int32))) = some (z, σ2) ∧ _
      rw [e_requireRow hV.1 hn, Option.bind_some, if_neg (fun h2 => hp ⟨h1, h2⟩)]
      exact ⟨_, _, _, _, rfl, rfl, h0.bad, TH_1⟩
    · rw [if_neg h1]
      exact ⟨_, _, _, _, rfl, rfl, h0.bad, TH_1⟩
theorem swapColumns_loop {n m i i' : Nat} (hi : i < 7) (hi' : i' < 7) : ∀ (d nf k : Nat) (t : zT), Vt t n m → d < nf → k + d = n → ∃ t2, Vt t2 n m ∧
    (∀ σ : zC, σ.1 = t → s_X3_swapColumns_12 nf σ (nI i) (nI i') (nI k) = some (.inr (cs t2 i n), off σ t2)) ∧
    (∀ μ : zM, μ.1 = t → s_X4_swapColumns_32 nf μ (nI i) (nI i') (nI k) = some (cs t2 i n, offM μ t2 μ.2.2.2.2)) := by
  intro d
  induction d with
  | zero =>
    intro nf k t h hd hk
    obtain ⟨nf, rfl⟩ : ∃ q, nf = q + 1 := ⟨nf - 1, by omega⟩
    have : k = n := by omega
    subst this
    refine ⟨t, h, ?_, ?_⟩
    · rintro σ rfl
      rw [s_X3_swapColumns_12, if_pos (by rw [h.1]; exact Int32.le_refl _)]
      unfold s_X2_cancel
      rw [Option.bind_some, e_sumOfColumn h hi, Option.bind_some]
    · rintro μ rfl
      rw [s_X4_swapColumns_32, if_pos (by rw [h.1]; exact Int32.le_refl _), e_columnSum (μ := (μ.1, μ.2.1, μ.2.2.1, ((-1 : Int32), μ.2.2.2.1.2.1, μ.2.2.2.1.2.2.1, μ.2.2.2.1.2.2.2), μ.2.2.2.2)) h hi, Option.bind_some]
  | succ d ih =>
    intro nf k t h hd hk
    have hn := h.2.2.2.2.1
    have hmn := h.2.2.2.1
    obtain ⟨nf, rfl⟩ : ∃ q, nf = q + 1 := ⟨nf - 1, by omega⟩
    obtain ⟨t2, q1, q2, q3⟩ := ih nf (k + 1) (sw t (7 * k + i) (7 * k + i')) (sw_Vt h (by omega) (by omega)) (by omega) (by omega)
    refine ⟨t2, q1, ?_, ?_⟩
    · rintro σ rfl
      rw [s_X3_swapColumns_12, if_neg (by rw [h.1, nle (by omega) (by omega)]; omega), e_swapCells h (by omega) hi (by omega) hi', Option.bind_some, nsucc]
      exact q2 (sw σ.1 (7 * k + i) (7 * k + i'), σ.2) rfl
    · rintro μ rfl
      rw [s_X4_swapColumns_32, if_neg (by rw [h.1, nle (by omega) (by omega)]; omega), cell_eq2, cell_eq2, e_exchangeCells h (by omega) (by omega), Option.bind_some, nsucc]
      exact q3 (sw μ.1 (7 * k + i) (7 * k + i'), μ.2) rfl
theorem o_swapColumns {σ : zC} {μ : zM} (h : Rel σ μ) (p q : Int32) : ∃ z σ2 b μ2, s_X3_swapColumns σ p q = some (z, σ2) ∧ s_X4_swapColumns μ p q = some (b, μ2) ∧ Rel σ2 μ2 ∧ TH [xO] z b μ2.2.2.2.2 := by
  have h0 := h
  obtain ⟨a1, a2, ⟨n, m, hV, hE⟩, -⟩ := h
  have hn := hV.2.2.2.2.1
  have hmn := hV.2.2.2.1
  have hM : Vt μ.1 n m := by rw [a1]; exact hV
  unfold s_X4_swapColumns s_X3_swapColumns
  rw [m_real hM, m_real hM, e_requireRealColumn hV.2.1 (by omega), Option.bind_some]
  by_cases h1 : inN p m
  · rw [if_pos h1, if_pos h1]
    show ∃ z σ2 b μ2, ((s_X3_requireRealColumn σ q).bind fun z2 => zsel z2 (fun E => some ((Sum.inl E), σ)) (fun r2 => s_X3_swapColumns_12 FU σ p q (0 : Int32))) = some (z, σ2) ∧ _
    rw [e_requireRealColumn hV.2.1 (by omega), Option.bind_some]
    by_cases h2 : inN q m
    · rw [if_pos h2, if_pos h2, zsel_r]
      obtain ⟨i, hi, rfl, -⟩ := inN_n h1
      obtain ⟨j, hj, rfl, -⟩ := inN_n h2
      obtain ⟨t2, q1, q2, q3⟩ := swapColumns_loop (n := n) (m := m) (i := i) (i' := j) (by omega) (by omega) n FU 0 σ.1 hV (by unfold FU; omega) (by omega)
      rw [e_isWrong0, Option.bind_some, if_pos rfl]
      exact ⟨_, _, _, _, q2 σ rfl, q3 (wt μ 0) a1, h0.off q1, TH_0⟩
    · rw [if_neg h2, if_neg h2, e_isWrong1 μ (by decide), Option.bind_some, if_neg one_ne]
      exact ⟨_, _, _, _, rfl, rfl, h0.bad, TH_1⟩
  · rw [if_neg h1, if_neg h1, e_isWrong1 μ (by decide), Option.bind_some, if_neg one_ne]
    exact ⟨_, _, _, _, rfl, rfl, h0.bad, TH_1⟩
/-! transpose -/
theorem tr_inner {n m i : Nat} (hi : i < 7) : ∀ (d nf k : Nat) (t : zT), Vt t n m → d < nf → k + d = i → ∃ t2, Vt t2 n m ∧
    (∀ (k6 : zC → Int32 → Option (Sum String Int32 × zC)) (σ : zC), σ.1 = t → s_X3_transpose_19 k6 nf σ (nI i) (nI k) = k6 (t2, σ.2) (nI (i + 1))) ∧
    (∀ (k6 : zM → Int32 → Option (Int32 × zM)) (μ : zM), μ.1 = t → s_X4_transpose_37 k6 nf μ (nI i) (nI k) = k6 (t2, μ.2) (nI (i + 1))) := by
  intro d
  induction d with
  | zero =>
    intro nf k t h hd hk
    obtain ⟨nf, rfl⟩ : ∃ q, nf = q + 1 := ⟨nf - 1, by omega⟩
    have : k = i := by omega
    subst this
    refine ⟨t, h, ?_, ?_⟩
    · rintro k6 σ rfl
      rw [s_X3_transpose_19, if_pos (Int32.le_refl _), nsucc]
    · rintro k6 μ rfl
      rw [s_X4_transpose_37, if_pos (Int32.le_refl _), nsucc]
  | succ d ih =>
    intro nf k t h hd hk
    obtain ⟨nf, rfl⟩ : ∃ q, nf = q + 1 := ⟨nf - 1, by omega⟩
    obtain ⟨t2, q1, q2, q3⟩ := ih nf (k + 1) (sw t (7 * i + k) (7 * k + i)) (sw_Vt h (by omega) (by omega)) (by omega) (by omega)
    refine ⟨t2, q1, ?_, ?_⟩
    · rintro k6 σ rfl
      rw [s_X3_transpose_19, if_neg (by rw [nle (by omega) (by omega)]; omega), e_swapCells h (by omega) (by omega) (by omega) (by omega), Option.bind_some, nsucc]
      exact q2 k6 (sw σ.1 (7 * i + k) (7 * k + i), σ.2) rfl
    · rintro k6 μ rfl
      rw [s_X4_transpose_37, if_neg (by rw [nle (by omega) (by omega)]; omega), cell_eq2, cell_eq2, e_exchangeCells h (by omega) (by omega), Option.bind_some, nsucc]
      exact q3 k6 (sw μ.1 (7 * i + k) (7 * k + i), μ.2) rfl
theorem tr_outer {n m : Nat} : ∀ (d nf i : Nat) (t : zT), Vt t n m → d < nf → i + d = n → ∃ t2, Vt t2 n m ∧
    (∀ σ : zC, σ.1 = t → s_X3_transpose_6 nf σ (nI i) = some (.inr (nI n), off σ t2)) ∧
    (∀ μ : zM, μ.1 = t → s_X4_transpose_27 nf μ (nI i) = some (nI n, offM μ t2 μ.2.2.2.2)) := by
  intro d
  induction d with
  | zero =>
    intro nf i t h hd hk
    obtain ⟨nf, rfl⟩ : ∃ q, nf = q + 1 := ⟨nf - 1, by omega⟩
    have : i = n := by omega
    subst this
    refine ⟨t, h, ?_, ?_⟩
    · rintro σ rfl
      rw [s_X3_transpose_6, if_pos (by rw [h.1]; exact Int32.le_refl _), h.1]
      unfold s_X2_cancel
      rw [Option.bind_some]
    · rintro μ rfl
      rw [s_X4_transpose_27, if_pos (by rw [h.1]; exact Int32.le_refl _), h.1]
  | succ d ih =>
    intro nf i t h hd hk
    have hn := h.2.2.2.2.1
    obtain ⟨nf, rfl⟩ : ∃ q, nf = q + 1 := ⟨nf - 1, by omega⟩
    obtain ⟨t1, p1, p2, p3⟩ := tr_inner (n := n) (m := m) (i := i) (by omega) i FU 0 t h (by unfold FU; omega) (by omega)
    obtain ⟨t2, q1, q2, q3⟩ := ih nf (i + 1) t1 p1 (by omega) (by omega)
    refine ⟨t2, q1, ?_, ?_⟩
    · rintro σ rfl
      rw [s_X3_transpose_6, if_neg (by rw [h.1, nle (by omega) (by omega)]; omega)]
      exact (p2 (fun v0 v1 => s_X3_transpose_6 nf v0 v1) σ rfl).trans (q2 (t1, σ.2) rfl)
    · rintro μ rfl
      rw [s_X4_transpose_27, if_neg (by rw [h.1, nle (by omega) (by omega)]; omega)]
      exact (p3 (fun v0 v1 => s_X4_transpose_27 nf v0 v1) μ rfl).trans (q3 (t1, μ.2) rfl)
theorem o_transpose {σ : zC} {μ : zM} (h : Rel σ μ) : ∃ z σ2 b μ2, s_X3_transpose σ = some (z, σ2) ∧ s_X4_transpose μ = some (b, μ2) ∧ Rel σ2 μ2 ∧ TH [xS] z b μ2.2.2.2.2 := by
  have h0 := h
  obtain ⟨a1, a2, ⟨n, m, hV, hE⟩, -⟩ := h
  have hn := hV.2.2.2.2.1
  have hmn := hV.2.2.2.1
  unfold s_X4_transpose s_X3_transpose s_X3_requireNoDummyColumn
  rw [a1, hV.1, hV.2.1]
  by_cases h1 : nI n ≤ nI m
  · rw [if_pos h1, if_pos h1, e_isWrong0, Option.bind_some, Option.bind_some, if_pos rfl]
    obtain ⟨t2, q1, q2, q3⟩ := tr_outer (n := n) (m := m) n FU 0 σ.1 hV (by unfold FU; omega) (by omega)
    exact ⟨_, _, _, _, q2 σ rfl, q3 (wt μ 0) a1, h0.off q1, TH_0⟩
  · rw [if_neg h1, if_neg h1, e_isWrong1 μ (by decide), Option.bind_some, Option.bind_some, if_neg one_ne]
    exact ⟨_, _, _, _, rfl, rfl, h0.bad, TH_1⟩
