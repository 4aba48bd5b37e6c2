/-! ===== the start; the readings that shareOf and meanCost need ===== -/
theorem rel_start {σ : zC} {μ : zM} (h1 : μ.1 = σ.1) (h2 : μ.2.1 = σ.2.1) (t1 : σ.1.1 = 1 ∧ σ.1.2.1 = 1 ∧ (∀ k, k < 49 → σ.1.2.2.1 k = 0) ∧ ∀ k, k < 49 → σ.1.2.2.2 k = 0) (t2 : σ.2.1.1 = 1 ∧ σ.2.1.2.1 = 1 ∧ (∀ k, k < 49 → σ.2.1.2.2.1 k = 0) ∧ ∀ k, k < 49 → σ.2.1.2.2.2 k = 0) (hk : σ.2.2.2.2.2.2.1 = 0) (he : μ.2.2.2.1.1 = -1) : Rel σ μ := by
  refine ⟨h1, h2, ⟨1, 1, ⟨t1.1, t1.2.1, by omega, by omega, by omega, fun k hk => ⟨0, by omega, t1.2.2.1 k hk⟩, fun k hk => Or.inl (t1.2.2.2 k hk)⟩, Or.inl ⟨hk, he⟩⟩, ⟨1, 1, ⟨t2.1, t2.2.1, by omega, by omega, by omega, fun k hk => ⟨0, by omega, t2.2.2.1 k hk⟩, fun k hk => Or.inl (t2.2.2.2 k hk)⟩⟩⟩
theorem p_mean {σ : zC} {μ : zM} (h : Rel σ μ) : ∃ v n, s_X3_totalCost σ = some v ∧ s_X4_total μ = some v ∧ σ.1.1 = nI n ∧ μ.1.1 = nI n ∧ 1 ≤ n ∧ n < 8 := by
  obtain ⟨a1, a2, ⟨n, m, hV, hE⟩, -⟩ := h
  have := hV.2.2.1
  have := hV.2.2.2.1
  refine ⟨_, n, c_total hV, ?_, hV.1, by rw [a1]; exact hV.1, by omega, hV.2.2.2.2.1⟩
  rw [m_total (μ := μ) (n := n) (m := m) (by rw [a1]; exact hV), a1]
theorem p_share {σ : zC} {μ : zM} (h : Rel σ μ) (p : Int32) :
    (s_X3_requireRow σ p = some (.inl xO) ∧ s_X4_isRow μ p = some 0 ∧ s_X4_isWrong μ 1 = some (1, wt μ 1) ∧ Rel σ (wt μ 1)) ∨
    (s_X3_requireRow σ p = some (.inr ()) ∧ s_X4_isRow μ p = some 1 ∧ s_X4_isWrong μ 0 = some (0, wt μ 0) ∧ ib p 7 = true ∧
      ∃ (v a c : Int32) (σ2 σ3 : zC) (L : zL), s_X3_minimum σ = some (v, σ2) ∧ s_X3_assigned σ2 p = some (.inr a, σ3) ∧ s_X1_costOf σ3.1 p a = some c ∧ σ3.1 = σ2.1 ∧ s_X4_look_ (wt μ 0) = some (wl (wt μ 0) L) ∧ L.2.2.2.2.1 = v ∧ L.2.2.2.1 p.toNatClampNeg = a ∧ ib (7 * p + a) 49 = true ∧ L.1 (7 * p + a).toNatClampNeg = c ∧ Rel σ2 (wl (wt μ 0) L) ∧ Rel σ3 (wl (wt μ 0) L)) := by
  have h0 := h
  obtain ⟨a1, a2, ⟨n, m, hV, hE⟩, -⟩ := h
  have hn := hV.2.2.2.2.1
  have := hV.2.2.1
  have := hV.2.2.2.1
  have hM : Vt μ.1 n m := by rw [a1]; exact hV
  by_cases hp : inN p n
  · refine Or.inr ⟨by rw [e_requireRow hV.1 hn, if_pos hp], by rw [e_isRow hM.1 (by omega) hn, if_pos hp], e_isWrong0 μ, ?_, ?_⟩
    · obtain ⟨i, hi, rfl, -⟩ := inN_n hp
      exact ib_ok (by omega) (by omega)
    · obtain ⟨i, hi, rfl, -⟩ := inN_n hp
      obtain ⟨v, σ2, q1, q2, q3⟩ := c_minimum hV
      have hV2 : Vt σ2.1 n m := by rw [q3.1.1]; exact hV
      obtain ⟨σ3, f, r1, r2, r3, r4, -⟩ := c_findFirst hV2
      have hV3 : Vt σ3.1 n m := by rw [r4.1]; exact hV2
      rw [q3.1.1] at r2
      obtain ⟨L, g1, g2⟩ := e_look_ (μ := wt μ 0) hM
      rw [show (wt μ 0).1 = σ.1 from a1] at g2
      obtain ⟨l1, -, g, l2, l3, -⟩ := g2.least hn
      have eg := r2.uniq l2
      subst eg
      have hfi := ent hn r2.1 hi
      refine ⟨v, nI (f.getD i 0), cst σ.1 i (f.getD i 0), σ2, σ3, L, q1, ?_, ?_, r4.1, g1, (zz_inj.mpr (q2.uniq l1)).symm, ?_, ?_, ?_, h0.keep q3.1 ⟨rfl, rfl, rfl⟩, h0.keep (q3.1.trans r4) ⟨rfl, rfl, rfl⟩⟩
      · unfold s_X3_assigned
        rw [e_requireRow hV2.1 hn, if_pos hp, Option.bind_some, zsel_r, r1, Option.bind_some, if_pos (ib_ok (by omega) (by omega)), ncl (by omega), r3 i hi]
      · rw [e_costOf hV3 (by omega) (by omega), r4.1, q3.1.1]
      · rw [ncl (by omega)]; exact l3 i hi
      · rw [cell_eq2]; exact ib_ok (by omega) (by omega)
      · rw [cell_eq2, ncl (by omega)]; exact g2.2 i _ hi hfi
  · refine Or.inl ⟨by rw [e_requireRow hV.1 hn, if_neg hp], by rw [e_isRow hM.1 (by omega) hn, if_neg hp], e_isWrong1 μ (by decide), h0.bad⟩
