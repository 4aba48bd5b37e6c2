/-! ===== calls that change the table ===== -/
theorem Vt.num {t : zT} {n m k v : Nat} (h : Vt t n m) (hv : v < 100) : Vt (t.1, t.2.1, upd t.2.2.1 k (nI v), t.2.2.2) n m := by
  obtain ⟨h1, h2, h3, h4, h5, h6, h7⟩ := h
  refine ⟨h1, h2, h3, h4, h5, fun j hj => ?_, h7⟩
  show ∃ w, w < 100 ∧ upd _ _ _ j = nI w
  by_cases hjk : j = k
  · subst hjk; rw [upd_same]; exact ⟨v, hv, rfl⟩
  · rw [upd_ne hjk]; exact h6 j hj
theorem Vt.forb {t : zT} {n m k : Nat} {x : Int32} (h : Vt t n m) (hx : x = 0 ∨ x = 1) : Vt (t.1, t.2.1, t.2.2.1, upd t.2.2.2 k x) n m := by
  obtain ⟨h1, h2, h3, h4, h5, h6, h7⟩ := h
  refine ⟨h1, h2, h3, h4, h5, h6, fun j hj => ?_⟩
  show upd _ _ _ j = 0 ∨ upd _ _ _ j = 1
  by_cases hjk : j = k
  · subst hjk; rw [upd_same]; exact hx
  · rw [upd_ne hjk]; exact h7 j hj
abbrev off (σ : zC) (t : zT) : zC := (t, σ.2.1, σ.2.2.1, σ.2.2.2.1, σ.2.2.2.2.1, σ.2.2.2.2.2.1, ((0 : Int32), σ.2.2.2.2.2.2.2.1, σ.2.2.2.2.2.2.2.2.1, σ.2.2.2.2.2.2.2.2.2.1, σ.2.2.2.2.2.2.2.2.2.2))
abbrev offM (μ : zM) (t : zT) (k : Int32) : zM := (t, μ.2.1, μ.2.2.1, ((-1 : Int32), μ.2.2.2.1.2.1, μ.2.2.2.1.2.2.1, μ.2.2.2.1.2.2.2), k)
theorem Rel.off {σ : zC} {μ : zM} {t : zT} {n m : Nat} {k : Int32} (h : Rel σ μ) (hV : Vt t n m) : Rel (off σ t) (offM μ t k) :=
  ⟨rfl, h.2.1, ⟨n, m, hV, Or.inl ⟨rfl, rfl⟩⟩, h.2.2.2⟩
theorem Rel.bad {σ : zC} {μ : zM} {k : Int32} (h : Rel σ μ) : Rel σ (wt μ k) := ⟨h.1, h.2.1, h.2.2.1, h.2.2.2⟩
/-! resize -/
theorem clear_loop : ∀ (d nf k : Nat) (t : zT), d < nf → k + d = 49 → (∀ j, j < k → t.2.2.1 j = 0 ∧ t.2.2.2 j = 0) → ∃ t2 : zT, s_X1_clearTo_12 nf t (nI k) = some t2 ∧ t2.1 = t.1 ∧ t2.2.1 = t.2.1 ∧ (∀ j, j < 49 → t2.2.2.1 j = 0 ∧ t2.2.2.2 j = 0) ∧
    ∀ μ : zM, μ.1 = t → s_X4_resize_49 nf μ (nI k) = some (t.1 * t.2.1, offM μ t2 μ.2.2.2.2) := by
  intro d
  induction d with
  | zero =>
    intro nf k t hd hk hj
    obtain ⟨nf, rfl⟩ : ∃ q, nf = q + 1 := ⟨nf - 1, by omega⟩
    refine ⟨t, ?_, rfl, rfl, fun j h => hj j (by omega), ?_⟩
    · rw [s_X1_clearTo_12, if_pos (by rw [nlit 49, nle (by omega) (by omega)]; omega)]
    · rintro μ rfl
      rw [s_X4_resize_49, if_pos (by rw [nlit 49, nle (by omega) (by omega)]; omega)]
  | succ d ih =>
    intro nf k t hd hk hj
    obtain ⟨nf, rfl⟩ : ∃ q, nf = q + 1 := ⟨nf - 1, by omega⟩
    have i1 : ib (nI k) 49 = true := ib_ok (by omega) (by omega)
    obtain ⟨t2, q1, q2, q3, q4, q5⟩ := ih nf (k + 1) (t.1, t.2.1, upd t.2.2.1 k 0, upd t.2.2.2 k ((0 : Int32) &&& 1)) (by omega) (by omega) (fun j h => by
      show upd _ _ _ j = 0 ∧ upd _ _ _ j = 0
      by_cases hjk : j = k
      · subst hjk; rw [upd_same, upd_same]; exact ⟨rfl, rfl⟩
      · rw [upd_ne hjk, upd_ne hjk]; exact hj j (by omega))
    refine ⟨t2, ?_, q2, q3, q4, ?_⟩
    · rw [s_X1_clearTo_12, if_neg (by rw [nlit 49, nle (by omega) (by omega)]; omega), if_pos i1, if_pos i1, ncl (by omega), nsucc]
      exact q1
    · rintro μ rfl
      rw [s_X4_resize_49, if_neg (by rw [nlit 49, nle (by omega) (by omega)]; omega), if_pos i1, if_pos i1, ncl (by omega), nsucc]
      exact q5 ((μ.1.1, μ.1.2.1, upd μ.1.2.2.1 k 0, upd μ.1.2.2.2 k ((0 : Int32) &&& 1)), μ.2.1, μ.2.2.1, μ.2.2.2.1, μ.2.2.2.2) rfl
theorem inI17 {p : Int32} {b : Int} (h : inI p 1 b) (hb : b < 1000) : ∃ n : Nat, p = nI n ∧ 1 ≤ n ∧ (n : Int) ≤ b := by
  obtain ⟨h1, h2⟩ := h
  have h3 := zz_rng p
  refine ⟨p.toInt.toNat, ?_, by omega, by omega⟩
  rw [zz_inj, nI_toInt (by omega)]
  omega
theorem o_resize {σ : zC} {μ : zM} (h : Rel σ μ) (p q : Int32) : ∃ z σ2 b μ2, s_X3_resize σ p q = some (z, σ2) ∧ s_X4_resize μ p q = some (b, μ2) ∧ Rel σ2 μ2 ∧ TH [xA] z b μ2.2.2.2.2 := by
  have h0 := h
  obtain ⟨a1, a2, -, -⟩ := h
  unfold s_X4_resize s_X4_resize_24 s_X4_resize_29
  have e1 : (1 : Int32).toInt = 1 := rfl
  have e7 : (7 : Int32).toInt = 7 := rfl
  rw [e_isIn1 p 1 7 1 7 rfl rfl, Option.bind_some]
  by_cases hp : inI p 1 7
  · rw [if_pos hp, if_neg one_ne, e_isIn1 q 1 p.toInt64 1 p.toInt rfl (w_toInt p), Option.bind_some]
    by_cases hq : inI q 1 p.toInt
    · rw [if_pos hq, if_neg one_ne, e_isWrong0, Option.bind_some, if_pos rfl]
      unfold s_X3_resize
      rw [if_neg (by rw [zz_lt, e1]; have := hp.1; omega), if_neg (by rw [zz_lt, e7]; have := hp.2; omega), if_neg (by rw [zz_lt, e1]; have := hq.1; omega), if_pos (by rw [zz_le]; exact hq.2)]
      unfold s_X1_clearTo s_X2_cancel
      obtain ⟨t2, q1, q2, q3, q4, q5⟩ := clear_loop 49 FU 0 (p, q, σ.1.2.2.1, σ.1.2.2.2) (by unfold FU; omega) (by omega) (fun j h => by omega)
      have q6 := q5 ((p, q, (wt μ 0).1.2.2.1, (wt μ 0).1.2.2.2), (wt μ 0).2.1, (wt μ 0).2.2.1, (wt μ 0).2.2.2.1, (wt μ 0).2.2.2.2) (by
        show (p, q, μ.1.2.2.1, μ.1.2.2.2) = _
        rw [a1])
      obtain ⟨n, rfl, hn1, hn7⟩ := inI17 hp (by omega)
      obtain ⟨m, rfl, hm1, hm7⟩ := inI17 hq (by have := hp.2; omega)
      rw [nT (by omega)] at hm7
      have hV : Vt t2 n m := ⟨q2, q3, hm1, by omega, by omega, fun k hk => ⟨0, by omega, (q4 k hk).1⟩, fun k hk => Or.inl (q4 k hk).2⟩
      have q1' : s_X1_clearTo_12 FU (nI n, nI m, σ.1.2.2.1, σ.1.2.2.2) (0 : Int32) = some t2 := q1
      rw [q1', Option.bind_some, Option.bind_some]
      refine ⟨_, off σ t2, nI n * nI m, offM μ t2 0, rfl, q6, h0.off hV, TH_0⟩
    · rw [if_neg hq, if_pos rfl, e_isWrong1 μ (by decide), Option.bind_some, if_neg one_ne]
      unfold s_X3_resize
      rw [if_neg (by rw [zz_lt, e1]; have := hp.1; omega), if_neg (by rw [zz_lt, e7]; have := hp.2; omega)]
      by_cases h1 : q < 1
      · rw [if_pos h1]; exact ⟨_, _, _, _, rfl, rfl, h0.bad, TH_1⟩
      · rw [if_neg h1, if_neg (by
          intro h2
          rw [zz_lt, e1] at h1; rw [zz_le] at h2
          exact hq ⟨by omega, h2⟩)]
        exact ⟨_, _, _, _, rfl, rfl, h0.bad, TH_1⟩
  · rw [if_neg hp, if_pos rfl, e_isWrong1 μ (by decide), Option.bind_some, if_neg one_ne]
    unfold s_X3_resize
    by_cases h1 : p < 1
    · rw [if_pos h1]; exact ⟨_, _, _, _, rfl, rfl, h0.bad, TH_1⟩
    · rw [if_neg h1, if_pos (by
        rw [zz_lt, e1] at h1; rw [zz_lt, e7]
        refine Classical.byContradiction (fun h2 => hp ⟨by omega, by omega⟩))]
      exact ⟨_, _, _, _, rfl, rfl, h0.bad, TH_1⟩
/-! setCost, setForbidden -/
theorem o_setCost {σ : zC} {μ : zM} (h : Rel σ μ) (p q v : Int32) : ∃ z σ2 b μ2, s_X3_setCost σ p q v = some (z, σ2) ∧ s_X4_setCost μ p q v = some (b, μ2) ∧ Rel σ2 μ2 ∧ TH [xO, xA] z b μ2.2.2.2.2 := by
  have h0 := h
  obtain ⟨a1, a2, ⟨n, m, hV, hE⟩, -⟩ := h
  have hn := hV.2.2.2.2.1
  have hmn := hV.2.2.2.1
  have hM : Vt μ.1 n m := by rw [a1]; exact hV
  have e99 : (99 : Int32).toInt = 99 := rfl
  unfold s_X4_setCost s_X4_setCost_17 s_X3_setCost
  rw [m_rcell hM, e_requireRealCell hV.1 hV.2.1 hn (by omega), Option.bind_some]
  by_cases hp : inN p n ∧ inN q m
  · rw [if_pos hp, if_pos hp, e_isIn1 v 0 99 0 99 rfl rfl, Option.bind_some]
    obtain ⟨i, hi, rfl, -⟩ := inN_n hp.1
    obtain ⟨j, hj, rfl, -⟩ := inN_n hp.2
    show ∃ z σ2 b μ2, (if v < 0 then some ((Sum.inl xA : Sum String Int32), σ) else (if v ≤ (99 : Int32) then ((s_X1_numberAt σ.1 (nI i) (nI j)).bind fun z4 => (s_X1_putNumber σ.1 (nI i) (nI j) v).bind fun z5 => (s_X2_cancel σ.2.2.2.2.2.2).bind fun z6 => some ((Sum.inr z4), (z5, σ.2.1, σ.2.2.1, σ.2.2.2.1, σ.2.2.2.2.1, σ.2.2.2.2.2.1, z6))) else (some ((Sum.inl xA), σ)))) = some (z, σ2) ∧ _
    by_cases hv : inI v 0 99
    · rw [if_neg (by rw [p_neg]; have := hv.1; omega), if_pos (by rw [zz_le, e99]; exact hv.2), if_pos hv, if_neg one_ne, e_numberAt _ (by omega) (by omega), Option.bind_some, e_putNumber _ (by omega) (by omega), Option.bind_some]
      unfold s_X4_setCost_38 s_X2_cancel
      rw [e_isWrong0, Option.bind_some, Option.bind_some, if_pos rfl, cell_eq2, if_pos (ib_ok (by omega) (by omega)), if_pos (ib_ok (by omega) (by omega)), ncl (by omega)]
      obtain ⟨w, hw, rfl⟩ := inI_n (b := 99) hv
      refine ⟨_, off σ (σ.1.1, σ.1.2.1, upd σ.1.2.2.1 (7 * i + j) (nI w), σ.1.2.2.2), σ.1.2.2.1 (7 * i + j), offM μ (σ.1.1, σ.1.2.1, upd σ.1.2.2.1 (7 * i + j) (nI w), σ.1.2.2.2) 0, rfl, ?_, h0.off (hV.num (by omega)), TH_0⟩
      show some (μ.1.2.2.1 (7 * i + j), ((μ.1.1, μ.1.2.1, upd μ.1.2.2.1 (7 * i + j) (nI w), μ.1.2.2.2), _)) = _
      rw [a1]
    · have e : s_X4_setCost_38 μ (nI i) (nI j) v 2 = some (0, wt μ 2) := by
        unfold s_X4_setCost_38
        rw [e_isWrong1 μ (by decide), Option.bind_some, if_neg one_ne]
      rw [if_neg hv, if_pos rfl, e]
      by_cases h1 : v < 0
      · rw [if_pos h1]; exact ⟨_, _, _, _, rfl, rfl, h0.bad, TH_2⟩
      · rw [if_neg h1, if_neg (by
          intro h2
          rw [zz_le, e99] at h2
          rw [p_neg] at h1
          exact hv ⟨by omega, h2⟩)]
        exact ⟨_, _, _, _, rfl, rfl, h0.bad, TH_2⟩
  · rw [if_neg hp, if_neg hp]
    unfold s_X4_setCost_38
    rw [e_isWrong1 μ (by decide), Option.bind_some, if_neg one_ne]
    exact ⟨_, _, _, _, rfl, rfl, h0.bad, TH_1⟩
theorem o_setForbidden {σ : zC} {μ : zM} (h : Rel σ μ) (p q : Int32) {v : Int32} (hv : v = 0 ∨ v = 1) : ∃ z σ2 b μ2, s_X3_setForbidden σ p q v = some (z, σ2) ∧ s_X4_setForbidden μ p q v = some (b, μ2) ∧ Rel σ2 μ2 ∧ TH [xO] z b μ2.2.2.2.2 := by
  have h0 := h
  obtain ⟨a1, a2, ⟨n, m, hV, hE⟩, -⟩ := h
  have hn := hV.2.2.2.2.1
  have hmn := hV.2.2.2.1
  have hM : Vt μ.1 n m := by rw [a1]; exact hV
  have hv1 : v &&& 1 = v := by rcases hv with rfl | rfl <;> rfl
  unfold s_X4_setForbidden s_X4_setForbidden_17 s_X3_setForbidden
  rw [m_rcell hM, e_requireRealCell hV.1 hV.2.1 hn (by omega), Option.bind_some]
  by_cases hp : inN p n ∧ inN q m
  · rw [if_pos hp, if_pos hp]
    obtain ⟨i, hi, rfl, -⟩ := inN_n hp.1
    obtain ⟨j, hj, rfl, -⟩ := inN_n hp.2
    show ∃ z σ2 b μ2, ((s_X1_putForbidden σ.1 (nI i) (nI j) v).bind fun z2 => (s_X2_cancel σ.2.2.2.2.2.2).bind fun z3 => (s_X3_forbiddenCount (z2, σ.2.1, σ.2.2.1, σ.2.2.2.1, σ.2.2.2.2.1, σ.2.2.2.2.2.1, z3)).bind fun z4 => some ((Sum.inr z4 : Sum String Int32), (z2, σ.2.1, σ.2.2.1, σ.2.2.2.1, σ.2.2.2.2.1, σ.2.2.2.2.2.1, z3))) = some (z, σ2) ∧ _
    rw [e_putForbidden _ (by omega) (by omega), Option.bind_some, hv1]
    unfold s_X2_cancel s_X4_setForbidden_22
    have hV2 := hV.forb (k := 7 * i + j) hv
    have hM2 := hM.forb (k := 7 * i + j) hv
    rw [e_isWrong0, Option.bind_some, Option.bind_some, if_pos rfl, cell_eq2, if_pos (ib_ok (by omega) (by omega)), ncl (by omega), hv1]
    have f1 := c_forbidden (σ := off σ (σ.1.1, σ.1.2.1, σ.1.2.2.1, upd σ.1.2.2.2 (7 * i + j) v)) hV2
    have f2 := m_forbidden (μ := offM μ (μ.1.1, μ.1.2.1, μ.1.2.2.1, upd μ.1.2.2.2 (7 * i + j) v) 0) hM2
    rw [f1, Option.bind_some]
    refine ⟨_, off σ (σ.1.1, σ.1.2.1, σ.1.2.2.1, upd σ.1.2.2.2 (7 * i + j) v), _, offM μ (σ.1.1, σ.1.2.1, σ.1.2.2.1, upd σ.1.2.2.2 (7 * i + j) v) 0, rfl, ?_, h0.off hV2, TH_0⟩
    refine (congrArg (fun (o : Option Int32) => o.bind fun z4 => some (z4, offM μ (μ.1.1, μ.1.2.1, μ.1.2.2.1, upd μ.1.2.2.2 (7 * i + j) v) 0)) f2).trans ?_
    show some (fcc (μ.1.1, μ.1.2.1, μ.1.2.2.1, upd μ.1.2.2.2 (7 * i + j) v) m n, offM μ (μ.1.1, μ.1.2.1, μ.1.2.2.1, upd μ.1.2.2.2 (7 * i + j) v) 0) = _
    rw [a1]
  · rw [if_neg hp, if_neg hp]
    unfold s_X4_setForbidden_22
    rw [e_isWrong1 μ (by decide), Option.bind_some, if_neg one_ne]
    exact ⟨_, _, _, _, rfl, rfl, h0.bad, TH_1⟩
/-! save, restore -/
theorem copy_loop {s : zT} {n m : Nat} (hS : Vt s n m) : ∀ (d nf k : Nat) (t : zT), d < nf → k + d = 49 → t.1 = s.1 → t.2.1 = s.2.1 → (∀ j, j < k → t.2.2.1 j = s.2.2.1 j ∧ t.2.2.2 j = s.2.2.2 j) → ∃ t2 : zT, s_X1_copyFrom_18 nf t s (nI k) = some t2 ∧ Vt t2 n m ∧ t2.1 = s.1 ∧
    (∀ μ : zM, μ.1 = t → μ.2.1 = s → s_X4_restore_18 nf μ (nI k) = some (s.1, offM μ t2 μ.2.2.2.2)) ∧
    (∀ μ : zM, μ.1 = s → μ.2.1 = t → s_X4_save_18 nf μ (nI k) = some (tt s n n, (μ.1, t2, μ.2.2))) := by
  intro d
  induction d with
  | zero =>
    intro nf k t hd hk h1 h2 hj
    obtain ⟨nf, rfl⟩ : ∃ q, nf = q + 1 := ⟨nf - 1, by omega⟩
    obtain ⟨b1, b2, b3, b4, b5, b6, b7⟩ := hS
    refine ⟨t, ?_, ⟨by rw [h1]; exact b1, by rw [h2]; exact b2, b3, b4, b5, fun j h => by rw [(hj j (by omega)).1]; exact b6 j h, fun j h => by rw [(hj j (by omega)).2]; exact b7 j h⟩, h1, ?_, ?_⟩
    · rw [s_X1_copyFrom_18, if_pos (by rw [nlit 49, nle (by omega) (by omega)]; omega)]
    · rintro μ rfl -
      rw [s_X4_restore_18, if_pos (by rw [nlit 49, nle (by omega) (by omega)]; omega), h1]
    · rintro μ rfl rfl
      rw [s_X4_save_18, if_pos (by rw [nlit 49, nle (by omega) (by omega)]; omega), m_total (μ := μ) (n := n) (m := m) ⟨b1, b2, b3, b4, b5, b6, b7⟩, Option.bind_some]
  | succ d ih =>
    intro nf k t hd hk h1 h2 hj
    obtain ⟨nf, rfl⟩ : ∃ q, nf = q + 1 := ⟨nf - 1, by omega⟩
    have i1 : ib (nI k) 49 = true := ib_ok (by omega) (by omega)
    obtain ⟨t2, q1, q2, q3, q4, q5⟩ := ih nf (k + 1) (t.1, t.2.1, upd t.2.2.1 k (s.2.2.1 k), upd t.2.2.2 k (s.2.2.2 k)) (by omega) (by omega) h1 h2 (fun j h => by
      show upd _ _ _ j = _ ∧ upd _ _ _ j = _
      by_cases hjk : j = k
      · subst hjk; rw [upd_same, upd_same]; exact ⟨rfl, rfl⟩
      · rw [upd_ne hjk, upd_ne hjk]; exact hj j (by omega))
    have hbit := hS.bit (k := k) (by omega)
    refine ⟨t2, ?_, q2, q3, ?_, ?_⟩
    · rw [s_X1_copyFrom_18, if_neg (by rw [nlit 49, nle (by omega) (by omega)]; omega), if_pos i1, if_pos i1, if_pos i1, if_pos i1, ncl (by omega), nsucc, hbit]
      exact q1
    · rintro μ rfl rfl
      rw [s_X4_restore_18, if_neg (by rw [nlit 49, nle (by omega) (by omega)]; omega), if_pos i1, if_pos i1, if_pos i1, if_pos i1, ncl (by omega), nsucc, hbit]
      exact q4 ((μ.1.1, μ.1.2.1, upd μ.1.2.2.1 k (μ.2.1.2.2.1 k), upd μ.1.2.2.2 k (μ.2.1.2.2.2 k)), μ.2.1, μ.2.2.1, μ.2.2.2.1, μ.2.2.2.2) rfl rfl
    · rintro μ rfl rfl
      rw [s_X4_save_18, if_neg (by rw [nlit 49, nle (by omega) (by omega)]; omega), if_pos i1, if_pos i1, if_pos i1, if_pos i1, ncl (by omega), nsucc, hbit]
      exact q5 (μ.1, (μ.2.1.1, μ.2.1.2.1, upd μ.2.1.2.2.1 k (μ.1.2.2.1 k), upd μ.2.1.2.2.2 k (μ.1.2.2.2 k)), μ.2.2.1, μ.2.2.2.1, μ.2.2.2.2) rfl rfl
theorem o_restore {σ : zC} {μ : zM} (h : Rel σ μ) : ∃ v σ2 μ2, s_X3_restore σ = some (v, σ2) ∧ s_X4_restore μ = some (v, μ2) ∧ Rel σ2 μ2 := by
  have h0 := h
  obtain ⟨a1, a2, -, ⟨n, m, hS⟩⟩ := h
  obtain ⟨t2, q1, q2, q3, q4, -⟩ := copy_loop hS 49 FU 0 (σ.2.1.1, σ.2.1.2.1, σ.1.2.2.1, σ.1.2.2.2) (by unfold FU; omega) (by omega) rfl rfl (fun j h => by omega)
  unfold s_X3_restore s_X4_restore s_X1_copyFrom s_X2_cancel
  have q1' : s_X1_copyFrom_18 FU (σ.2.1.1, σ.2.1.2.1, σ.1.2.2.1, σ.1.2.2.2) σ.2.1 (0 : Int32) = some t2 := q1
  rw [q1', Option.bind_some, Option.bind_some, q3]
  refine ⟨_, off σ t2, offM μ t2 μ.2.2.2.2, rfl, ?_, h0.off q2⟩
  exact q4 ((μ.2.1.1, μ.2.1.2.1, μ.1.2.2.1, μ.1.2.2.2), μ.2.1, μ.2.2.1, μ.2.2.2.1, μ.2.2.2.2) (by
    show (μ.2.1.1, μ.2.1.2.1, μ.1.2.2.1, μ.1.2.2.2) = _
    rw [a1, a2]) a2
theorem o_save {σ : zC} {μ : zM} (h : Rel σ μ) : ∃ v σ2 μ2, s_X3_save σ = some (v, σ2) ∧ s_X4_save μ = some (v, μ2) ∧ Rel σ2 μ2 := by
  have h0 := h
  obtain ⟨a1, a2, ⟨n, m, hV, hE⟩, -⟩ := h
  obtain ⟨t2, q1, q2, q3, -, q5⟩ := copy_loop hV 49 FU 0 (σ.1.1, σ.1.2.1, σ.2.1.2.2.1, σ.2.1.2.2.2) (by unfold FU; omega) (by omega) rfl rfl (fun j h => by omega)
  unfold s_X3_save s_X4_save s_X1_copyFrom
  have q1' : s_X1_copyFrom_18 FU (σ.1.1, σ.1.2.1, σ.2.1.2.2.1, σ.2.1.2.2.2) σ.1 (0 : Int32) = some t2 := q1
  rw [q1', Option.bind_some, c_total (σ := (σ.1, t2, σ.2.2.1, σ.2.2.2.1, σ.2.2.2.2.1, σ.2.2.2.2.2.1, σ.2.2.2.2.2.2)) hV, Option.bind_some]
  have q6 := q5 (μ.1, (μ.1.1, μ.1.2.1, μ.2.1.2.2.1, μ.2.1.2.2.2), μ.2.2.1, μ.2.2.2.1, μ.2.2.2.2) a1 (by
    show (μ.1.1, μ.1.2.1, μ.2.1.2.2.1, μ.2.1.2.2.2) = _
    rw [a1, a2])
  exact ⟨_, _, _, rfl, q6, a1, rfl, ⟨n, m, hV, hE⟩, ⟨n, m, q2⟩⟩
