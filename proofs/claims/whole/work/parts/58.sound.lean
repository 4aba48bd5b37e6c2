/-! ===== calls over potentials ===== -/
theorem inN_mk {i n : Nat} (h : i < n) (hn : n < 8) : inN (nI i) n := ⟨by rw [nT (by omega)]; omega, by rw [nT (by omega)]; omega⟩
theorem o_rowPotential {σ : zC} {μ : zM} (h : Rel σ μ) (p : Int32) : ∃ z σ2 b μ2, s_X3_rowPotential σ p = some (z, σ2) ∧ s_X4_rowPotential μ p = some (b, μ2) ∧ Rel σ2 μ2 ∧ TH [xO] z b μ2.2.2.2.2 := by
  have h0 := h
  obtain ⟨a1, a2, ⟨n, m, hV, hE⟩, -⟩ := h
  have hn := hV.2.2.2.2.1
  have hM : Vt μ.1 n m := by rw [a1]; exact hV
  unfold s_X3_rowPotential s_X4_rowPotential s_X4_rowPotential_14
  rw [e_requireRow hV.1 hn, Option.bind_some, m_row hM]
  by_cases hp : inN p n
  · rw [if_pos hp, if_pos hp]
    obtain ⟨i, hi, rfl, -⟩ := inN_n hp
    obtain ⟨L, g1, g2, g3⟩ := m_findPotentials (μ := wt μ 0) hM
    rw [e_isWrong0, Option.bind_some, if_pos rfl, g1, Option.bind_some, if_pos (ib_ok (by omega) (by omega)), ncl (by omega)]
    obtain ⟨σ2, q1, q2, q3⟩ := c_findPotentials hV
    show ∃ z σ2 b μ2, (s_X3_findPotentials _).bind _ = some (z, σ2) ∧ _
    rw [q1, Option.bind_some]
    show ∃ z σ2 b μ2, (if ib (nI i) 7 = true then _ else _) = some (z, σ2) ∧ _
    rw [if_pos (ib_ok (by omega) (by omega))]
    rw [show (wt μ 0).1 = σ.1 from a1] at g3
    refine ⟨_, _, _, _, rfl, rfl, h0.keep q2 ⟨rfl, rfl, rfl⟩, ?_⟩
    rw [(q3.uniq g3).1 i hi]
    exact TH_0
  · rw [if_neg hp, if_neg hp, e_isWrong1 μ (by decide), Option.bind_some, if_neg one_ne]
    exact ⟨_, _, _, _, rfl, rfl, h0.keep (keepC.refl _) ⟨rfl, rfl, rfl⟩, TH_1⟩
theorem o_columnPotential {σ : zC} {μ : zM} (h : Rel σ μ) (p : Int32) : ∃ z σ2 b μ2, s_X3_columnPotential σ p = some (z, σ2) ∧ s_X4_columnPotential μ p = some (b, μ2) ∧ Rel σ2 μ2 ∧ TH [xO] z b μ2.2.2.2.2 := by
  have h0 := h
  obtain ⟨a1, a2, ⟨n, m, hV, hE⟩, -⟩ := h
  have hn := hV.2.2.2.2.1
  have hM : Vt μ.1 n m := by rw [a1]; exact hV
  unfold s_X3_columnPotential s_X4_columnPotential s_X4_columnPotential_14
  rw [e_requireColumn hV.1 hn, Option.bind_some, m_row hM]
  by_cases hp : inN p n
  · rw [if_pos hp, if_pos hp]
    obtain ⟨i, hi, rfl, -⟩ := inN_n hp
    obtain ⟨L, g1, g2, g3⟩ := m_findPotentials (μ := wt μ 0) hM
    rw [e_isWrong0, Option.bind_some, if_pos rfl, g1, Option.bind_some, if_pos (ib_ok (by omega) (by omega)), ncl (by omega)]
    obtain ⟨σ2, q1, q2, q3⟩ := c_findPotentials hV
    show ∃ z σ2 b μ2, (s_X3_findPotentials _).bind _ = some (z, σ2) ∧ _
    rw [q1, Option.bind_some]
    show ∃ z σ2 b μ2, (if ib (nI i) 7 = true then _ else _) = some (z, σ2) ∧ _
    rw [if_pos (ib_ok (by omega) (by omega))]
    rw [show (wt μ 0).1 = σ.1 from a1] at g3
    refine ⟨_, _, _, _, rfl, rfl, h0.keep q2 ⟨rfl, rfl, rfl⟩, ?_⟩
    rw [(q3.uniq g3).2 i hi]
    exact TH_0
  · rw [if_neg hp, if_neg hp, e_isWrong1 μ (by decide), Option.bind_some, if_neg one_ne]
    exact ⟨_, _, _, _, rfl, rfl, h0.keep (keepC.refl _) ⟨rfl, rfl, rfl⟩, TH_1⟩
def red (t : zT) (rp cp : zF) (r c : Nat) : Int32 := cst t r c - rp r - cp c
theorem e_reducedBy {σ : zC} {n m r c : Nat} (hV : Vt σ.1 n m) (hr : r < n) (hc : c < n) : s_X3_reducedBy σ (nI r) (nI c) = some (red σ.1 σ.2.2.2.1 σ.2.2.2.2.1 r c) := by
  have hn := hV.2.2.2.2.1
  unfold s_X3_reducedBy
  rw [e_costOf hV (by omega) (by omega), Option.bind_some, if_pos (ib_ok (by omega) (by omega)), if_pos (ib_ok (by omega) (by omega)), ncl (by omega), ncl (by omega)]
  rfl
theorem e_reduced {μ : zM} {t : zT} {n r c : Nat} (hn : n < 8) (hL : ∀ a b, a < n → b < n → μ.2.2.1.1 (7 * a + b) = cst t a b) (hr : r < n) (hc : c < n) : s_X4_reduced μ (nI r) (nI c) = some (red t μ.2.2.1.2.2.2.2.2.2.2.2.2.1 μ.2.2.1.2.2.2.2.2.2.2.2.2.2 r c) := by
  unfold s_X4_reduced
  rw [cell_eq2, if_pos (ib_ok (by omega) (by omega)), if_pos (ib_ok (by omega) (by omega)), if_pos (ib_ok (by omega) (by omega)), ncl (by omega), ncl (by omega), ncl (by omega), hL r c hr hc]
  rfl
theorem o_reducedCost {σ : zC} {μ : zM} (h : Rel σ μ) (p q : Int32) : ∃ z σ2 b μ2, s_X3_reducedCost σ p q = some (z, σ2) ∧ s_X4_reducedCost μ p q = some (b, μ2) ∧ Rel σ2 μ2 ∧ TH [xO] z b μ2.2.2.2.2 := by
  have h0 := h
  obtain ⟨a1, a2, ⟨n, m, hV, hE⟩, -⟩ := h
  have hn := hV.2.2.2.2.1
  have hM : Vt μ.1 n m := by rw [a1]; exact hV
  unfold s_X3_reducedCost s_X4_reducedCost s_X4_reducedCost_17 s_X4_reducedCost_22
  rw [e_requireCell hV.1 hn, Option.bind_some, m_cell hM]
  by_cases hp : inN p n ∧ inN q n
  · rw [if_pos hp, if_pos hp]
    obtain ⟨i, hi, rfl, -⟩ := inN_n hp.1
    obtain ⟨j, hj, rfl, -⟩ := inN_n hp.2
    obtain ⟨L, g1, g2, g3⟩ := m_findPotentials (μ := wt μ 0) hM
    rw [show (wt μ 0).1 = σ.1 from a1] at g2 g3
    rw [e_isWrong0, Option.bind_some, if_pos rfl, g1, Option.bind_some, e_reduced (μ := wl (wt μ 0) L) hn g2.2 hi hj, Option.bind_some]
    obtain ⟨σ2, q1, q2, q3⟩ := c_findPotentials hV
    show ∃ z σ2 b μ2, (s_X3_findPotentials _).bind _ = some (z, σ2) ∧ _
    rw [q1, Option.bind_some]
    show ∃ z σ3 b μ2, (s_X3_reducedBy σ2 (nI i) (nI j)).bind _ = some (z, σ3) ∧ _
    rw [e_reducedBy (σ := σ2) (n := n) (m := m) (by rw [q2.1]; exact hV) hi hj, Option.bind_some]
    refine ⟨_, _, _, _, rfl, rfl, h0.keep q2 ⟨rfl, rfl, rfl⟩, ?_⟩
    have e := q3.uniq g3
    unfold red
    rw [q2.1, e.1 i hi, e.2 j hj]
    exact TH_0
  · rw [if_neg hp, if_neg hp, e_isWrong1 μ (by decide), Option.bind_some, if_neg one_ne]
    exact ⟨_, _, _, _, rfl, rfl, h0.keep (keepC.refl _) ⟨rfl, rfl, rfl⟩, TH_1⟩
/-! isSound -/
def B01 (P : Prop) (v : Int32) : Prop := (v = 1 ∧ P) ∨ (v = 0 ∧ ¬ P)
def ps (rp cp : zF) : Nat → Int32
  | 0 => 0
  | k + 1 => ps rp cp k + (rp k + cp k)
theorem ps_congr {rp cp rp' cp' : zF} {n : Nat} (h1 : ∀ i, i < n → rp i = rp' i) (h2 : ∀ i, i < n → cp i = cp' i) : ps rp cp n = ps rp' cp' n := by
  induction n with
  | zero => rfl
  | succ k ih => rw [ps, ps, h1 k (by omega), h2 k (by omega), ih (fun i hi => h1 i (by omega)) (fun i hi => h2 i (by omega))]
theorem addUp_loop {n m : Nat} {v : Int32} : ∀ (d nf k : Nat) (σ : zC), Vt σ.1 n m → IsMin (FS (Cz σ.1) n) v.toInt → d < nf → k + d = n → ∃ (b : Int32) (σ2 : zC), s_X3_potentialsAddUp_4 nf σ (ps σ.2.2.2.1 σ.2.2.2.2.1 k) (nI k) = some (b, σ2) ∧ B01 (ps σ.2.2.2.1 σ.2.2.2.2.1 n = v) b ∧ keepD σ σ2 := by
  intro d
  induction d with
  | zero =>
    intro nf k σ hV hv hd hk
    have hn := hV.2.2.2.2.1
    obtain ⟨nf, rfl⟩ : ∃ q, nf = q + 1 := ⟨nf - 1, by omega⟩
    have : k = n := by omega
    subst this
    obtain ⟨w, σ2, q1, q2, q3⟩ := c_minimum hV
    rw [s_X3_potentialsAddUp_4, if_pos (by rw [hV.1]; exact Int32.le_refl _), q1, Option.bind_some]
    have e : w = v := zz_inj.mpr (q2.uniq hv)
    subst e
    show ∃ (b : Int32) (σ3 : zC), (if ps σ.2.2.2.1 σ.2.2.2.2.1 k = w then _ else _) = some (b, σ3) ∧ _
    by_cases h : ps σ.2.2.2.1 σ.2.2.2.2.1 k = w
    · rw [if_pos h]; exact ⟨_, _, rfl, Or.inl ⟨rfl, h⟩, q3⟩
    · rw [if_neg h]; exact ⟨_, _, rfl, Or.inr ⟨rfl, h⟩, q3⟩
  | succ d ih =>
    intro nf k σ hV hv hd hk
    have hn := hV.2.2.2.2.1
    obtain ⟨nf, rfl⟩ : ∃ q, nf = q + 1 := ⟨nf - 1, by omega⟩
    rw [s_X3_potentialsAddUp_4, if_neg (by rw [hV.1, nle (by omega) (by omega)]; omega), if_pos (ib_ok (by omega) (by omega)), if_pos (ib_ok (by omega) (by omega)), ncl (by omega), nsucc]
    exact ih nf (k + 1) σ hV hv (by omega) (by omega)
def okRC (t : zT) (rp cp fo : zF) (r c : Nat) : Prop := ¬ red t rp cp r c < 0 ∧ (red t rp cp r c = 0 ∨ ¬ fo r = nI c)
theorem rch_inner {σ : zC} {n m r : Nat} (hV : Vt σ.1 n m) (hr : r < n) (k2 : zC → Int32 → Option Int32) : ∀ (d nf j : Nat), d < nf → j + d = n →
    ((∀ c, j ≤ c → c < n → okRC σ.1 σ.2.2.2.1 σ.2.2.2.2.1 σ.2.2.2.2.2.1 r c) → s_X3_reducedCostsHold_15 k2 nf σ (nI r) (nI j) = k2 σ (nI (r + 1))) ∧
    ((∃ c, j ≤ c ∧ c < n ∧ ¬ okRC σ.1 σ.2.2.2.1 σ.2.2.2.2.1 σ.2.2.2.2.2.1 r c) → s_X3_reducedCostsHold_15 k2 nf σ (nI r) (nI j) = some 0) := by
  have hn := hV.2.2.2.2.1
  intro d
  induction d with
  | zero =>
    intro nf j hd hj
    obtain ⟨nf, rfl⟩ : ∃ q, nf = q + 1 := ⟨nf - 1, by omega⟩
    refine ⟨fun _ => ?_, fun ⟨c, h1, h2, _⟩ => by omega⟩
    rw [s_X3_reducedCostsHold_15, if_pos (by rw [hV.1, nle (by omega) (by omega)]; omega), nsucc]
  | succ d ih =>
    intro nf j hd hj
    obtain ⟨nf, rfl⟩ : ∃ q, nf = q + 1 := ⟨nf - 1, by omega⟩
    have ih2 := ih nf (j + 1) (by omega) (by omega)
    rw [s_X3_reducedCostsHold_15, if_neg (by rw [hV.1, nle (by omega) (by omega)]; omega), e_reducedBy hV hr (by omega), Option.bind_some, nsucc]
    by_cases h1 : red σ.1 σ.2.2.2.1 σ.2.2.2.2.1 r j < 0
    · rw [if_pos h1]
      exact ⟨fun h => absurd h1 (h j (by omega) (by omega)).1, fun _ => rfl⟩
    · rw [if_neg h1]
      have next : okRC σ.1 σ.2.2.2.1 σ.2.2.2.2.1 σ.2.2.2.2.2.1 r j → ((∀ c, j ≤ c → c < n → okRC σ.1 σ.2.2.2.1 σ.2.2.2.2.1 σ.2.2.2.2.2.1 r c) → s_X3_reducedCostsHold_15 k2 nf σ (nI r) (nI (j + 1)) = k2 σ (nI (r + 1))) ∧ ((∃ c, j ≤ c ∧ c < n ∧ ¬ okRC σ.1 σ.2.2.2.1 σ.2.2.2.2.1 σ.2.2.2.2.2.1 r c) → s_X3_reducedCostsHold_15 k2 nf σ (nI r) (nI (j + 1)) = some 0) := by
        intro hj2
        refine ⟨fun h => ih2.1 (fun c h3 h4 => h c (by omega) h4), fun ⟨c, h3, h4, h5⟩ => ih2.2 ⟨c, ?_, h4, h5⟩⟩
        by_cases hcj : c = j
        · subst hcj; exact absurd hj2 h5
        · omega
      by_cases h2 : red σ.1 σ.2.2.2.1 σ.2.2.2.2.1 r j = 0
      · rw [if_pos h2]
        exact next ⟨h1, Or.inl h2⟩
      · rw [if_neg h2, if_pos (ib_ok (by omega) (by omega)), ncl (by omega)]
        by_cases h3 : σ.2.2.2.2.2.1 r = nI j
        · rw [if_pos h3]
          exact ⟨fun h => by
            rcases (h j (by omega) (by omega)).2 with h4 | h4
            · exact absurd h4 h2
            · exact absurd h3 h4, fun _ => rfl⟩
        · rw [if_neg h3]
          exact next ⟨h1, Or.inr h3⟩
theorem rch_outer {σ : zC} {n m : Nat} (hV : Vt σ.1 n m) : ∀ (d nf i : Nat), d < nf → i + d = n →
    ((∀ r, i ≤ r → r < n → ∀ c, c < n → okRC σ.1 σ.2.2.2.1 σ.2.2.2.2.1 σ.2.2.2.2.2.1 r c) → s_X3_reducedCostsHold_2 nf σ (nI i) = some 1) ∧
    ((∃ r c, i ≤ r ∧ r < n ∧ c < n ∧ ¬ okRC σ.1 σ.2.2.2.1 σ.2.2.2.2.1 σ.2.2.2.2.2.1 r c) → s_X3_reducedCostsHold_2 nf σ (nI i) = some 0) := by
  have hn := hV.2.2.2.2.1
  intro d
  induction d with
  | zero =>
    intro nf i hd hj
    obtain ⟨nf, rfl⟩ : ∃ q, nf = q + 1 := ⟨nf - 1, by omega⟩
    refine ⟨fun _ => ?_, fun ⟨r, c, h1, h2, _⟩ => by omega⟩
    rw [s_X3_reducedCostsHold_2, if_pos (by rw [hV.1, nle (by omega) (by omega)]; omega)]
  | succ d ih =>
    intro nf i hd hj
    obtain ⟨nf, rfl⟩ : ∃ q, nf = q + 1 := ⟨nf - 1, by omega⟩
    have ih2 := ih nf (i + 1) (by omega) (by omega)
    have inn := rch_inner hV (r := i) (by omega) (fun v0 v1 => s_X3_reducedCostsHold_2 nf v0 v1) n FU 0 (by unfold FU; omega) (by omega)
    rw [s_X3_reducedCostsHold_2, if_neg (by rw [hV.1, nle (by omega) (by omega)]; omega), show (0 : Int32) = nI 0 from rfl]
    by_cases hall : ∀ c, c < n → okRC σ.1 σ.2.2.2.1 σ.2.2.2.2.1 σ.2.2.2.2.2.1 i c
    · rw [inn.1 (fun c _ hc => hall c hc)]
      refine ⟨fun h => ih2.1 (fun r h1 h2 => h r (by omega) h2), fun ⟨r, c, h1, h2, h3, h4⟩ => ih2.2 ⟨r, c, ?_, h2, h3, h4⟩⟩
      by_cases hri : r = i
      · subst hri; exact absurd (hall c h3) h4
      · omega
    · refine ⟨fun h => absurd (h i (Nat.le_refl _) (by omega)) hall, fun _ => inn.2 ?_⟩
      refine Classical.byContradiction (fun hno => hall (fun c hc => Classical.byContradiction (fun h => hno ⟨c, Nat.zero_le _, hc, h⟩)))
theorem c_rch {σ : zC} {n m : Nat} (hV : Vt σ.1 n m) : ∃ b, s_X3_reducedCostsHold σ = some b ∧ B01 (∀ r, r < n → ∀ c, c < n → okRC σ.1 σ.2.2.2.1 σ.2.2.2.2.1 σ.2.2.2.2.2.1 r c) b := by
  have hn := hV.2.2.2.2.1
  have h := rch_outer hV n FU 0 (by unfold FU; omega) (by omega)
  unfold s_X3_reducedCostsHold
  rw [show (0 : Int32) = nI 0 from rfl]
  by_cases hall : ∀ r, r < n → ∀ c, c < n → okRC σ.1 σ.2.2.2.1 σ.2.2.2.2.1 σ.2.2.2.2.2.1 r c
  · exact ⟨1, h.1 (fun r _ hr => hall r hr), Or.inl ⟨rfl, hall⟩⟩
  · refine ⟨0, h.2 ?_, Or.inr ⟨rfl, hall⟩⟩
    refine Classical.byContradiction (fun hno => hall (fun r hr c hc => Classical.byContradiction (fun h => hno ⟨r, c, Nat.zero_le _, hr, hc, h⟩)))
/-- the least over the assignments with, and without, the cell (0, 0) -/
def SPL (t : zT) (n : Nat) (v : Int32) : Prop := ∃ w : Int32, IsMin (((PL n).filter (fun l => decide (l.getD 0 0 = 0))).map (fun l => fs (Cz t) l n)) w.toInt ∧ ((n = 1 ∧ v = w) ∨ (2 ≤ n ∧ ∃ wo : Int32, MinOn (PL n) (fun l => l.getD 0 0 ≠ 0) (fun l => fs (Cz t) l n) wo.toInt ∧ v = if wo < w then wo else w))
theorem c_split {σ : zC} {n m : Nat} {v : Int32} (hV : Vt σ.1 n m) (hv : IsMin (FS (Cz σ.1) n) v.toInt) : ∃ b σ2, s_X3_cellSplitHolds σ = some (.inr b, σ2) ∧ B01 (SPL σ.1 n v) b ∧ keepC σ σ2 := by
  have hn := hV.2.2.2.2.1
  have h1m := hV.2.2.1
  have hmn := hV.2.2.2.1
  obtain ⟨w, σ2, q1, q2, q3⟩ := c_minimumWith hV (i := 0) (j := 0) (by omega) (by omega)
  have hw : ∃ y, IsMin (((PL n).filter (fun l => decide (l.getD 0 0 = 0))).map (fun l => fs (Cz σ.1) l n)) y := by
    refine IsMin_ex (fun he => ?_)
    obtain ⟨l, hl, e⟩ := used hn (i := 0) (j := 0) (by omega) (by omega)
    have : l ∈ (PL n).filter (fun l => decide (l.getD 0 0 = 0)) := List.mem_filter.mpr ⟨hl, decide_eq_true e⟩
    rw [he] at this
    exact nomatch this
  obtain ⟨y, hy⟩ := hw
  rw [← with_eq hV (by omega) (by omega) q2 hy] at hy
  unfold s_X3_cellSplitHolds
  rw [show (0 : Int32) = nI 0 from rfl, q1, Option.bind_some]
  have hV2 : Vt σ2.1 n m := by rw [q3.1.1]; exact hV
  show ∃ b σ3, (if σ2.1.1 ≤ 1 then _ else _) = some (Sum.inr b, σ3) ∧ _
  by_cases h1 : n = 1
  · obtain ⟨v2, σ3, r1, r2, r3⟩ := c_minimum hV2
    rw [q3.1.1] at r2
    have e : v2 = v := zz_inj.mpr (r2.uniq hv)
    subst e
    rw [if_pos (by rw [hV2.1, n1, nle (by omega) (by omega)]; omega), r1, Option.bind_some]
    show ∃ b σ4, (if v2 = w then _ else _) = some (Sum.inr b, σ4) ∧ _
    by_cases h2 : v2 = w
    · rw [if_pos h2]
      exact ⟨_, _, rfl, Or.inl ⟨rfl, w, hy, Or.inl ⟨h1, h2⟩⟩, q3.1.trans r3.1⟩
    · rw [if_neg h2]
      refine ⟨_, _, rfl, Or.inr ⟨rfl, ?_⟩, q3.1.trans r3.1⟩
      rintro ⟨w', b1, b2⟩
      have e := zz_inj.mpr (b1.uniq hy)
      subst e
      rcases b2 with ⟨-, b2⟩ | ⟨b2, -⟩
      · exact h2 b2
      · omega
  · obtain ⟨wo, σ3, r1, r2, r3⟩ := c_minimumWithout hV2 (i := 0) (j := 0) (by omega) (by omega) (by omega)
    have hV3 : Vt σ3.1 n m := by rw [r3.1.1]; exact hV2
    obtain ⟨v2, σ4, u1, u2, u3⟩ := c_minimum hV3
    rw [r3.1.1, q3.1.1] at u2
    rw [q3.1.1] at r2
    have e : v2 = v := zz_inj.mpr (u2.uniq hv)
    subst e
    rw [if_neg (by rw [hV2.1, n1, nle (by omega) (by omega)]; omega), r1, Option.bind_some]
    show ∃ b σ4, (s_X3_minimum σ3).bind _ = some (Sum.inr b, σ4) ∧ _
    rw [u1, Option.bind_some]
    show ∃ b σ4, (if v2 = (if wo < w then wo else w) then _ else _) = some (Sum.inr b, σ4) ∧ _
    by_cases h2 : v2 = (if wo < w then wo else w)
    · rw [if_pos h2]
      exact ⟨_, _, rfl, Or.inl ⟨rfl, w, hy, Or.inr ⟨by omega, wo, r2, h2⟩⟩, (q3.1.trans r3.1).trans u3.1⟩
    · rw [if_neg h2]
      refine ⟨_, _, rfl, Or.inr ⟨rfl, ?_⟩, (q3.1.trans r3.1).trans u3.1⟩
      rintro ⟨w', b1, b2⟩
      have e := zz_inj.mpr (b1.uniq hy)
      subst e
      rcases b2 with ⟨b2, -⟩ | ⟨-, wo', b2, b3⟩
      · omega
      · have e2 := zz_inj.mpr (b2.uniq r2)
        subst e2
        exact h2 b3
theorem nar_bound {t : zT} {n m : Nat} {v : Int} (hV : Vt t n m) (h : IsMin ((PL n).map (fun l => fd (Cz t) l n)) v) : 0 ≤ v ∧ v ≤ 1000 := by
  have hn := hV.2.2.2.2.1
  obtain ⟨l, hl, e⟩ := List.mem_map.mp h.1
  have := fd_bound (C := Cz t) (fun i j hi hj => t_bound hV hi hj) (fun i hi => ent hn hl hi) n (Nat.le_refl _)
  have e' : fd (Cz t) l n = v := e
  omega
theorem sub1_toInt {x : Int32} (h : -1000 ≤ x.toInt) : (x - 1).toInt = x.toInt - 1 := by
  have h1' : (1 : Int32).toInt = 1 := rfl
  have := zz_rng x
  rw [zz_sub (by rw [h1']; omega) (by rw [h1']; omega), h1']
theorem c_bneck {σ : zC} {n m : Nat} (hV : Vt σ.1 n m) : ∃ σ2, s_X3_bottleneckHolds σ = some (.inr 1, σ2) ∧ keepC σ σ2 := by
  have hn := hV.2.2.2.2.1
  obtain ⟨v, σ2, q1, q2, q3⟩ := c_bottleneck hV
  have hb := nar_bound hV q2
  have hV2 : Vt σ2.1 n m := by rw [q3.1.1]; exact hV
  obtain ⟨σ3, r1, r2⟩ := c_fits (lim := v) hV2 hb.1 hb.2 (by rw [q3.1.1]; exact q2)
  unfold s_X3_bottleneckHolds
  rw [q1, Option.bind_some]
  show ∃ σ2_1, (s_X3_fits σ2 v).bind _ = _ ∧ _
  rw [r1, Option.bind_some, if_pos (Int.le_refl _)]
  show ∃ σ2_1, (if (1 : Int32) = 0 then some (Sum.inr (0 : Int32), σ3) else if v = 0 then some (Sum.inr (1 : Int32), σ3) else ((s_X3_fits σ3 (v - (1 : Int32))).bind fun z5 => zsel z5.1 (fun E => some ((Sum.inl E), z5.2)) (fun r5 => if r5 = 0 then (some ((Sum.inr (1 : Int32)), z5.2)) else (some ((Sum.inr (0 : Int32)), z5.2))))) = some (Sum.inr (1 : Int32), σ2_1) ∧ _
  rw [if_neg one_ne]
  by_cases h : v = 0
  · rw [if_pos h]
    exact ⟨_, rfl, q3.1.trans r2.1⟩
  · have h0 : v.toInt ≠ 0 := fun e => h (zz_inj.mpr e)
    have hV3 : Vt σ3.1 n m := by rw [r2.1.1]; exact hV2
    have e1 := sub1_toInt (x := v) (by omega)
    obtain ⟨σ4, u1, u2⟩ := c_fits (lim := v - 1) (nar := v.toInt) hV3 (by omega) (by omega) (by rw [r2.1.1, q3.1.1]; exact q2)
    rw [if_neg h]
    show ∃ σ2_1, (s_X3_fits σ3 (v - 1)).bind _ = _ ∧ _
    rw [u1, Option.bind_some, if_neg (by omega)]
    exact ⟨_, rfl, (q3.1.trans r2.1).trans u2.1⟩
