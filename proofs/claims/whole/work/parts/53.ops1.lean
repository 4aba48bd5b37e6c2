/-! ===== single calls, both sides: the searches ===== -/
theorem one_ne : ¬ (1 : Int32) = 0 := by decide
abbrev wt (μ : zM) (k : Int32) : zM := (μ.1, μ.2.1, μ.2.2.1, μ.2.2.2.1, k)
theorem m_row {α : Type} {μ : zM} {n m : Nat} (h : Vt μ.1 n m) (p : Int32) (A B : Option α) : ((s_X4_isRow μ p).bind fun z1 => if z1 = 0 then A else B) = if inN p n then B else A := by
  have := h.2.2.1; have := h.2.2.2.1; have hn := h.2.2.2.2.1
  rw [e_isRow h.1 (by omega) hn, Option.bind_some]
  by_cases h1 : inN p n
  · rw [if_pos h1, if_pos h1, if_neg (by decide)]
  · rw [if_neg h1, if_neg h1, if_pos rfl]
theorem m_real {α : Type} {μ : zM} {n m : Nat} (h : Vt μ.1 n m) (p : Int32) (A B : Option α) : ((s_X4_isReal μ p).bind fun z1 => if z1 = 0 then A else B) = if inN p m then B else A := by
  have := h.2.2.1; have := h.2.2.2.1; have hn := h.2.2.2.2.1
  rw [e_isReal h.2.1 (by omega) (by omega), Option.bind_some]
  by_cases h1 : inN p m
  · rw [if_pos h1, if_pos h1, if_neg (by decide)]
  · rw [if_neg h1, if_neg h1, if_pos rfl]
theorem m_cell {α : Type} {μ : zM} {n m : Nat} (h : Vt μ.1 n m) (p q : Int32) (A B : Option α) : ((s_X4_isRow μ p).bind fun z1 => if z1 = 0 then A else ((s_X4_isRow μ q).bind fun z3 => if z3 = 0 then A else B)) = if inN p n ∧ inN q n then B else A := by
  rw [m_row h, m_row h]
  by_cases h1 : inN p n
  · rw [if_pos h1]
    by_cases h2 : inN q n
    · rw [if_pos h2, if_pos ⟨h1, h2⟩]
    · rw [if_neg h2, if_neg (fun h => h2 h.2)]
  · rw [if_neg h1, if_neg (fun h => h1 h.1)]
theorem m_rcell {α : Type} {μ : zM} {n m : Nat} (h : Vt μ.1 n m) (p q : Int32) (A B : Option α) : ((s_X4_isRow μ p).bind fun z1 => if z1 = 0 then A else ((s_X4_isReal μ q).bind fun z3 => if z3 = 0 then A else B)) = if inN p n ∧ inN q m then B else A := by
  rw [m_row h, m_real h]
  by_cases h1 : inN p n
  · rw [if_pos h1]
    by_cases h2 : inN q m
    · rw [if_pos h2, if_pos ⟨h1, h2⟩]
    · rw [if_neg h2, if_neg (fun h => h2 h.2)]
  · rw [if_neg h1, if_neg (fun h => h1 h.1)]
/-! what the reference's look says -/
theorem LKt.least {t : zT} {n : Nat} {L : zL} (hn : n < 8) (h : LKt t n L) : IsMin (FS (Cz t) n) L.2.2.2.2.1.toInt ∧ L.2.2.2.2.2.1 = nI ((FS (Cz t) n).count L.2.2.2.2.1.toInt) ∧ ∃ f, FO (Cz t) n f ∧ (∀ j, j < n → L.2.2.2.1 j = nI (f.getD j 0)) ∧
    (((PL n).filter (fun l => decide (l ≠ f)) = [] ∧ L.2.2.2.2.2.2.1 = 1000000) ∨ IsMin (((PL n).filter (fun l => decide (l ≠ f))).map (fun l => fs (Cz t) l n)) L.2.2.2.2.2.2.1.toInt) := by
  rcases h.1.2.2.2 with ⟨h1, -⟩ | ⟨h1, h2, f, h3, h4, h5⟩
  · exact absurd h1 (PL_ne hn)
  · exact ⟨h1, h2, f, FO.mk h1 h3, h4, h5⟩
theorem LKt.nar {t : zT} {n : Nat} {L : zL} (hn : n < 8) (h : LKt t n L) : IsMin ((PL n).map (fun l => fd (Cz t) l n)) L.2.2.2.2.2.2.2.2.1.toInt := by
  rcases h.1.2.1 with ⟨h1, -⟩ | h1
  · exact absurd h1 (PL_ne hn)
  · exact h1
theorem LKt.wth {t : zT} {n : Nat} {L : zL} (hn : n < 8) (h : LKt t n L) {i j : Nat} (hi : i < n) (hj : j < n) : IsMin (((PL n).filter (fun l => decide (l.getD i 0 = j))).map (fun l => fs (Cz t) l n)) (L.2.1 (7 * i + j)).toInt := by
  rcases h.1.1 i j hi hj with ⟨h1, -⟩ | h1
  · obtain ⟨l, hl, e⟩ := used hn hi hj
    have : l ∈ (PL n).filter (fun l => decide (l.getD i 0 = j)) := List.mem_filter.mpr ⟨hl, decide_eq_true e⟩
    rw [h1] at this
    exact nomatch this
  · exact h1
/-! bounds over the table's costs -/
theorem t_bound {t : zT} {n m : Nat} (h : Vt t n m) {i j : Nat} (hi : i < n) (hj : j < n) : 0 ≤ Cz t i j ∧ Cz t i j ≤ 1000 := by
  have hn := h.2.2.2.2.1
  exact cst_bound h (by omega) (by omega)
theorem t_sum {t : zT} {n m : Nat} (h : Vt t n m) {l : List Nat} (hl : l ∈ PL n) : 0 ≤ fs (Cz t) l n ∧ fs (Cz t) l n ≤ 7000 := by
  have hn := h.2.2.2.2.1
  have := fs_bound (C := Cz t) (fun i j hi hj => t_bound h hi hj) (fun i hi => ent hn hl hi) n (Nat.le_refl _)
  omega
/-! the blocked cells -/
theorem with_eq {t : zT} {n m i j : Nat} (h : Vt t n m) (hi : i < n) (_hj : j < n) {x y : Int} (hx : IsMin (FS (CW (Cz t) i j) n) x) (hy : IsMin (((PL n).filter (fun l => decide (l.getD i 0 = j))).map (fun l => fs (Cz t) l n)) y) : x = y := by
  have hn := h.2.2.2.2.1
  refine min_block (B := 7000) (fun l hl hP => ?_) (fun l hl hP => ?_) (fun l hl => (t_sum h hl).2) hx hy
  · rw [fs_row (C := Cz t) (r := i) (fun a b ha => by unfold CW; rw [if_neg (fun h => ha h.1)]) l n, if_pos hi]
    unfold CW
    rw [if_neg (fun h => h.2 (of_decide_eq_true hP))]
    omega
  · rw [fs_row (C := Cz t) (r := i) (fun a b ha => by unfold CW; rw [if_neg (fun h => ha h.1)]) l n, if_pos hi]
    have h1 := t_sum h hl
    have h2 := t_bound h hi (ent hn hl hi)
    unfold CW
    rw [if_pos ⟨rfl, of_decide_eq_false hP⟩]
    omega
theorem without_eq {t : zT} {n m i j : Nat} (h : Vt t n m) (hi : i < n) (_hj : j < n) {x y : Int} (hx : IsMin (FS (C1 (Cz t) i j 100000) n) x) (hy : IsMin (((PL n).filter (fun l => decide (l.getD i 0 ≠ j))).map (fun l => fs (Cz t) l n)) y) : x = y := by
  have hn := h.2.2.2.2.1
  refine min_block (B := 7000) (fun l hl hP => ?_) (fun l hl hP => ?_) (fun l hl => (t_sum h hl).2) hx hy
  · rw [fs_row (C := Cz t) (r := i) (fun a b ha => by unfold C1; rw [if_neg (fun h => ha h.1)]) l n, if_pos hi]
    unfold C1
    rw [if_neg (fun h => (of_decide_eq_true hP) h.2)]
    omega
  · rw [fs_row (C := Cz t) (r := i) (fun a b ha => by unfold C1; rw [if_neg (fun h => ha h.1)]) l n, if_pos hi]
    have h1 := t_sum h hl
    have h2 := t_bound h hi (ent hn hl hi)
    have h3 : l.getD i 0 = j := by
      have := of_decide_eq_false hP
      omega
    unfold C1
    rw [if_pos ⟨rfl, h3⟩]
    omega
/-! calls that throw nothing -/
theorem o_minimum {σ : zC} {μ : zM} (h : Rel σ μ) : ∃ v σ2 μ2, s_X3_minimum σ = some (v, σ2) ∧ s_X4_minimum μ = some (v, μ2) ∧ Rel σ2 μ2 := by
  have h0 := h
  obtain ⟨a1, a2, ⟨n, m, hV, hE⟩, -⟩ := h
  have hn := hV.2.2.2.2.1
  obtain ⟨v, σ2, e1, e2, e3⟩ := c_minimum hV
  obtain ⟨L, g1, g2⟩ := e_look_ (μ := μ) (by rw [a1]; exact hV)
  rw [a1] at g2
  have e : v = L.2.2.2.2.1 := zz_inj.mpr (e2.uniq (g2.least hn).1)
  refine ⟨v, σ2, wl μ L, e1, ?_, h0.keep e3.1 ⟨rfl, rfl, rfl⟩⟩
  unfold s_X4_minimum
  rw [g1, Option.bind_some, e]
theorem o_savedMinimum {σ : zC} {μ : zM} (h : Rel σ μ) : ∃ v σ2 μ2, s_X3_savedMinimum σ = some (v, σ2) ∧ s_X4_savedMinimum μ = some (v, μ2) ∧ Rel σ2 μ2 := by
  have h0 := h
  obtain ⟨a1, a2, -, ⟨n, m, hV⟩⟩ := h
  have hn := hV.2.2.2.2.1
  obtain ⟨v, σ2, e1, e2, e3⟩ := c_savedMinimum hV
  obtain ⟨L, g1, g2⟩ := e_savedMinimum4 (μ := μ) (by rw [a2]; exact hV)
  rw [a2] at g2
  have e : v = L.2.2.2.2.1 := zz_inj.mpr (e2.uniq (g2.least hn).1)
  refine ⟨v, σ2, wl μ L, e1, ?_, h0.keep e3.1 ⟨rfl, rfl, rfl⟩⟩
  rw [g1, e]
theorem o_optimalCount {σ : zC} {μ : zM} (h : Rel σ μ) : ∃ v σ2 μ2, s_X3_optimalCount σ = some (v, σ2) ∧ s_X4_optimalCount μ = some (v, μ2) ∧ Rel σ2 μ2 := by
  have h0 := h
  obtain ⟨a1, a2, ⟨n, m, hV, hE⟩, -⟩ := h
  have hn := hV.2.2.2.2.1
  obtain ⟨v, σ2, w, e1, e2, e4, e3⟩ := c_optimalCount hV
  obtain ⟨L, g1, g2⟩ := e_look_ (μ := μ) (by rw [a1]; exact hV)
  rw [a1] at g2
  have g3 := g2.least hn
  have e : w = L.2.2.2.2.1.toInt := e2.uniq g3.1
  refine ⟨v, σ2, wl μ L, e1, ?_, h0.keep e3.1 ⟨rfl, rfl, rfl⟩⟩
  unfold s_X4_optimalCount
  rw [g1, Option.bind_some, e4, e, ← g3.2.1]
theorem o_bottleneck {σ : zC} {μ : zM} (h : Rel σ μ) : ∃ v σ2 μ2, s_X3_bottleneck σ = some (v, σ2) ∧ s_X4_bottleneck μ = some (v, μ2) ∧ Rel σ2 μ2 := by
  have h0 := h
  obtain ⟨a1, a2, ⟨n, m, hV, hE⟩, -⟩ := h
  have hn := hV.2.2.2.2.1
  obtain ⟨v, σ2, e1, e2, e3⟩ := c_bottleneck hV
  obtain ⟨L, g1, g2⟩ := e_look_ (μ := μ) (by rw [a1]; exact hV)
  rw [a1] at g2
  have e : v = L.2.2.2.2.2.2.2.2.1 := zz_inj.mpr (e2.uniq (g2.nar hn))
  refine ⟨v, σ2, wl μ L, e1, ?_, h0.keep e3.1 ⟨rfl, rfl, rfl⟩⟩
  unfold s_X4_bottleneck
  rw [g1, Option.bind_some, e]
theorem TH_0 {names : List String} {b : Int32} : TH names (.inr b) b 0 := Or.inl ⟨rfl, rfl⟩
theorem TH_1 {nm : String} {names : List String} {b : Int32} : TH (nm :: names) (.inl nm) b 1 := Or.inr ⟨0, nm, rfl, rfl, rfl⟩
theorem TH_2 {nm a : String} {names : List String} {b : Int32} : TH (a :: nm :: names) (.inl nm) b 2 := Or.inr ⟨1, nm, rfl, rfl, rfl⟩
theorem TH_3 {nm a c : String} {names : List String} {b : Int32} : TH (a :: c :: nm :: names) (.inl nm) b 3 := Or.inr ⟨2, nm, rfl, rfl, rfl⟩
abbrev xO : String := "java/lang/IndexOutOfBoundsException"
abbrev xA : String := "java/lang/IllegalArgumentException"
abbrev xS : String := "java/lang/IllegalStateException"
abbrev xN : String := "java/util/NoSuchElementException"
theorem o_costAt {σ : zC} {μ : zM} (h : Rel σ μ) (p q : Int32) : ∃ z b μ2, s_X3_costAt σ p q = some z ∧ s_X4_costAt μ p q = some (b, μ2) ∧ Rel σ μ2 ∧ TH [xO] z b μ2.2.2.2.2 := by
  have h0 := h
  obtain ⟨a1, a2, ⟨n, m, hV, hE⟩, -⟩ := h
  have hn := hV.2.2.2.2.1
  have hM : Vt μ.1 n m := by rw [a1]; exact hV
  unfold s_X3_costAt s_X4_costAt
  rw [e_requireCell hV.1 hn, Option.bind_some, m_cell hM]
  by_cases hp : inN p n ∧ inN q n
  · rw [if_pos hp, if_pos hp]
    obtain ⟨i, hi, rfl, -⟩ := inN_n hp.1
    obtain ⟨j, hj, rfl, -⟩ := inN_n hp.2
    rw [e_isWrong0, Option.bind_some, if_pos rfl, e_cost4 (by omega) (by omega), Option.bind_some]
    show ∃ z b μ2, (s_X1_costOf _ _ _).bind _ = some z ∧ _
    rw [e_costOf hV (by omega) (by omega), Option.bind_some]
    refine ⟨_, _, _, rfl, rfl, h0.keep (keepC.refl _) ⟨rfl, rfl, rfl⟩, ?_⟩
    rw [show (wt μ 0).1 = σ.1 from a1]
    exact TH_0
  · rw [if_neg hp, if_neg hp]
    unfold s_X4_costAt_17
    rw [e_isWrong1 μ (by decide), Option.bind_some, if_neg one_ne]
    exact ⟨_, _, _, rfl, rfl, h0.keep (keepC.refl _) ⟨rfl, rfl, rfl⟩, TH_1⟩
theorem o_assigned {σ : zC} {μ : zM} (h : Rel σ μ) (p : Int32) : ∃ z σ2 b μ2, s_X3_assigned σ p = some (z, σ2) ∧ s_X4_assigned μ p = some (b, μ2) ∧ Rel σ2 μ2 ∧ TH [xO] z b μ2.2.2.2.2 := by
  have h0 := h
  obtain ⟨a1, a2, ⟨n, m, hV, hE⟩, -⟩ := h
  have hn := hV.2.2.2.2.1
  have hM : Vt μ.1 n m := by rw [a1]; exact hV
  unfold s_X3_assigned s_X4_assigned s_X4_assigned_14
  rw [e_requireRow hV.1 hn, Option.bind_some, m_row hM]
  by_cases hp : inN p n
  · rw [if_pos hp, if_pos hp]
    obtain ⟨i, hi, rfl, -⟩ := inN_n hp
    obtain ⟨L, g1, g2⟩ := e_look_ (μ := wt μ 0) hM
    rw [e_isWrong0, Option.bind_some, if_pos rfl, g1, Option.bind_some, if_pos (ib_ok (by omega) (by omega)), ncl (by omega)]
    show ∃ z σ2 b μ2, (s_X3_findFirstOptimal _).bind _ = some (z, σ2) ∧ _
    obtain ⟨σ2, f, q1, q2, q3, q4, -⟩ := c_findFirst hV
    rw [q1, Option.bind_some, if_pos (ib_ok (by omega) (by omega))]
    refine ⟨_, _, _, _, rfl, rfl, h0.keep q4 ⟨rfl, rfl, rfl⟩, ?_⟩
    rw [show (wt μ 0).1 = σ.1 from a1] at g2
    obtain ⟨g, r1, r2, -⟩ := (g2.least hn).2.2
    rw [r1.uniq q2] at r2
    rw [q3 i hi, show (wl (wt μ 0) L).2.2.1.2.2.2.1 i = _ from r2 i hi]
    exact TH_0
  · rw [if_neg hp, if_neg hp, e_isWrong1 μ (by decide), Option.bind_some, if_neg one_ne]
    exact ⟨_, _, _, _, rfl, rfl, h0.keep (keepC.refl _) ⟨rfl, rfl, rfl⟩, TH_1⟩
theorem o_minimumWith {σ : zC} {μ : zM} (h : Rel σ μ) (p q : Int32) : ∃ z σ2 b μ2, s_X3_minimumWith σ p q = some (z, σ2) ∧ s_X4_minimumWith μ p q = some (b, μ2) ∧ Rel σ2 μ2 ∧ TH [xO] z b μ2.2.2.2.2 := by
  have h0 := h
  obtain ⟨a1, a2, ⟨n, m, hV, hE⟩, -⟩ := h
  have hn := hV.2.2.2.2.1
  have hM : Vt μ.1 n m := by rw [a1]; exact hV
  unfold s_X4_minimumWith s_X4_minimumWith_17 s_X4_minimumWith_22
  rw [m_cell hM]
  by_cases hp : inN p n ∧ inN q n
  · rw [if_pos hp]
    obtain ⟨i, hi, rfl, -⟩ := inN_n hp.1
    obtain ⟨j, hj, rfl, -⟩ := inN_n hp.2
    obtain ⟨L, g1, g2⟩ := e_look_ (μ := wt μ 0) hM
    rw [e_isWrong0, Option.bind_some, if_pos rfl, g1, Option.bind_some, cell_eq2, if_pos (ib_ok (by omega) (by omega)), ncl (by omega)]
    obtain ⟨w, σ2, q1, q2, q3⟩ := c_minimumWith hV hi hj
    rw [q1]
    refine ⟨_, _, _, _, rfl, rfl, h0.keep q3.1 ⟨rfl, rfl, rfl⟩, ?_⟩
    rw [show (wt μ 0).1 = σ.1 from a1] at g2
    have e : w = L.2.1 (7 * i + j) := zz_inj.mpr (with_eq hV hi hj q2 (g2.wth hn hi hj))
    rw [e]
    exact TH_0
  · rw [if_neg hp, e_isWrong1 μ (by decide), Option.bind_some, if_neg one_ne]
    unfold s_X3_minimumWith
    rw [e_requireCell hV.1 hn, Option.bind_some, if_neg hp]
    exact ⟨_, _, _, _, rfl, rfl, h0.keep (keepC.refl _) ⟨rfl, rfl, rfl⟩, TH_1⟩
