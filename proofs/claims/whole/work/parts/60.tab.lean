/-! ===== sums of the table ===== -/
def rs (t : zT) (i : Nat) : Nat → Int32
  | 0 => 0
  | j + 1 => rs t i j + cst t i j
def cs (t : zT) (j : Nat) : Nat → Int32
  | 0 => 0
  | i + 1 => cs t j i + cst t i j
def tt (t : zT) (n : Nat) : Nat → Int32
  | 0 => 0
  | i + 1 => tt t n i + rs t i n
theorem i32_add0 (x : Int32) : x + 0 = x := Int32.add_zero x
theorem cst_dummy {t : zT} {n m i j : Nat} (h : Vt t n m) (hj : m ≤ j) (hj2 : j < n) : cst t i j = 0 := by
  have hn := h.2.2.2.2.1
  unfold cst
  rw [if_neg (by rw [h.2.1, nlt (by omega) (by omega)]; omega)]
theorem rs_dummy {t : zT} {n m i : Nat} (h : Vt t n m) : ∀ d, m + d ≤ n → rs t i (m + d) = rs t i m := by
  intro d
  induction d with
  | zero => intro _; rfl
  | succ d ih =>
    intro hd
    rw [← Nat.add_assoc, rs, ih (by omega), cst_dummy h (by omega) (by omega), i32_add0]
theorem sumOfRow_loop {t : zT} {n m i : Nat} (h : Vt t n m) (hi : i < 7) : ∀ (d nf j : Nat), d < nf → j + d = m → s_X1_sumOfRow_4 nf t (nI i) (rs t i j) (nI j) = some (rs t i m) := by
  have hn := h.2.2.2.2.1
  have hmn := h.2.2.2.1
  intro d
  induction d with
  | zero =>
    intro nf j hd hj
    obtain ⟨nf, rfl⟩ : ∃ q, nf = q + 1 := ⟨nf - 1, by omega⟩
    have : j = m := by omega
    subst this
    rw [s_X1_sumOfRow_4, if_pos (by rw [h.2.1]; exact Int32.le_refl _)]
  | succ d ih =>
    intro nf j hd hj
    obtain ⟨nf, rfl⟩ : ∃ q, nf = q + 1 := ⟨nf - 1, by omega⟩
    rw [s_X1_sumOfRow_4, if_neg (by rw [h.2.1, nle (by omega) (by omega)]; omega), e_costOf h hi (by omega), Option.bind_some, nsucc]
    exact ih nf (j + 1) (by omega) (by omega)
theorem e_sumOfRow {t : zT} {n m i : Nat} (h : Vt t n m) (hi : i < 7) : s_X1_sumOfRow t (nI i) = some (rs t i n) := by
  have hn := h.2.2.2.2.1
  have hmn := h.2.2.2.1
  have e := rs_dummy (i := i) h (n - m) (by omega)
  rw [show m + (n - m) = n by omega] at e
  rw [e]
  exact sumOfRow_loop h hi m FU 0 (by unfold FU; omega) (by omega)
theorem rowSum_loop {μ : zM} {n m i : Nat} (h : Vt μ.1 n m) (hi : i < 7) : ∀ (d nf j : Nat), d < nf → j + d = n → s_X4_rowSum_4 nf μ (nI i) (rs μ.1 i j) (nI j) = some (rs μ.1 i n) := by
  have hn := h.2.2.2.2.1
  intro d
  induction d with
  | zero =>
    intro nf j hd hj
    obtain ⟨nf, rfl⟩ : ∃ q, nf = q + 1 := ⟨nf - 1, by omega⟩
    have : j = n := by omega
    subst this
    rw [s_X4_rowSum_4, if_pos (by rw [h.1]; exact Int32.le_refl _)]
  | succ d ih =>
    intro nf j hd hj
    obtain ⟨nf, rfl⟩ : ∃ q, nf = q + 1 := ⟨nf - 1, by omega⟩
    rw [s_X4_rowSum_4, if_neg (by rw [h.1, nle (by omega) (by omega)]; omega), e_cost4 hi (by omega), Option.bind_some, nsucc]
    exact ih nf (j + 1) (by omega) (by omega)
theorem e_rowSum {μ : zM} {n m i : Nat} (h : Vt μ.1 n m) (hi : i < 7) : s_X4_rowSum μ (nI i) = some (rs μ.1 i n) := by
  have hn := h.2.2.2.2.1
  exact rowSum_loop h hi n FU 0 (by unfold FU; omega) (by omega)
theorem sumOfColumn_loop {t : zT} {n m j : Nat} (h : Vt t n m) (hj : j < 7) : ∀ (d nf i : Nat), d < nf → i + d = n → s_X1_sumOfColumn_4 nf t (nI j) (cs t j i) (nI i) = some (cs t j n) := by
  have hn := h.2.2.2.2.1
  intro d
  induction d with
  | zero =>
    intro nf i hd hi
    obtain ⟨nf, rfl⟩ : ∃ q, nf = q + 1 := ⟨nf - 1, by omega⟩
    have : i = n := by omega
    subst this
    rw [s_X1_sumOfColumn_4, if_pos (by rw [h.1]; exact Int32.le_refl _)]
  | succ d ih =>
    intro nf i hd hi
    obtain ⟨nf, rfl⟩ : ∃ q, nf = q + 1 := ⟨nf - 1, by omega⟩
    rw [s_X1_sumOfColumn_4, if_neg (by rw [h.1, nle (by omega) (by omega)]; omega), e_costOf h (by omega) hj, Option.bind_some, nsucc]
    exact ih nf (i + 1) (by omega) (by omega)
theorem e_sumOfColumn {t : zT} {n m j : Nat} (h : Vt t n m) (hj : j < 7) : s_X1_sumOfColumn t (nI j) = some (cs t j n) := by
  have hn := h.2.2.2.2.1
  exact sumOfColumn_loop h hj n FU 0 (by unfold FU; omega) (by omega)
theorem columnSum_loop {μ : zM} {n m j : Nat} (h : Vt μ.1 n m) (hj : j < 7) : ∀ (d nf i : Nat), d < nf → i + d = n → s_X4_columnSum_4 nf μ (nI j) (cs μ.1 j i) (nI i) = some (cs μ.1 j n) := by
  have hn := h.2.2.2.2.1
  intro d
  induction d with
  | zero =>
    intro nf i hd hi
    obtain ⟨nf, rfl⟩ : ∃ q, nf = q + 1 := ⟨nf - 1, by omega⟩
    have : i = n := by omega
    subst this
    rw [s_X4_columnSum_4, if_pos (by rw [h.1]; exact Int32.le_refl _)]
  | succ d ih =>
    intro nf i hd hi
    obtain ⟨nf, rfl⟩ : ∃ q, nf = q + 1 := ⟨nf - 1, by omega⟩
    rw [s_X4_columnSum_4, if_neg (by rw [h.1, nle (by omega) (by omega)]; omega), e_cost4 (by omega) hj, Option.bind_some, nsucc]
    exact ih nf (i + 1) (by omega) (by omega)
theorem e_columnSum {μ : zM} {n m j : Nat} (h : Vt μ.1 n m) (hj : j < 7) : s_X4_columnSum μ (nI j) = some (cs μ.1 j n) := by
  have hn := h.2.2.2.2.1
  exact columnSum_loop h hj n FU 0 (by unfold FU; omega) (by omega)
theorem total_loop {σ : zC} {n m : Nat} (h : Vt σ.1 n m) : ∀ (d nf i : Nat), d < nf → i + d = n → s_X3_totalCost_4 nf σ (tt σ.1 n i) (nI i) = some (tt σ.1 n n) := by
  have hn := h.2.2.2.2.1
  intro d
  induction d with
  | zero =>
    intro nf i hd hi
    obtain ⟨nf, rfl⟩ : ∃ q, nf = q + 1 := ⟨nf - 1, by omega⟩
    have : i = n := by omega
    subst this
    rw [s_X3_totalCost_4, if_pos (by rw [h.1]; exact Int32.le_refl _)]
  | succ d ih =>
    intro nf i hd hi
    obtain ⟨nf, rfl⟩ : ∃ q, nf = q + 1 := ⟨nf - 1, by omega⟩
    rw [s_X3_totalCost_4, if_neg (by rw [h.1, nle (by omega) (by omega)]; omega), e_sumOfRow h (by omega), Option.bind_some, nsucc]
    exact ih nf (i + 1) (by omega) (by omega)
theorem c_total {σ : zC} {n m : Nat} (h : Vt σ.1 n m) : s_X3_totalCost σ = some (tt σ.1 n n) := by
  have hn := h.2.2.2.2.1
  exact total_loop h n FU 0 (by unfold FU; omega) (by omega)
theorem total4_loop {μ : zM} {n m : Nat} (h : Vt μ.1 n m) : ∀ (d nf i : Nat), d < nf → i + d = n → s_X4_total_4 nf μ (tt μ.1 n i) (nI i) = some (tt μ.1 n n) := by
  have hn := h.2.2.2.2.1
  intro d
  induction d with
  | zero =>
    intro nf i hd hi
    obtain ⟨nf, rfl⟩ : ∃ q, nf = q + 1 := ⟨nf - 1, by omega⟩
    have : i = n := by omega
    subst this
    rw [s_X4_total_4, if_pos (by rw [h.1]; exact Int32.le_refl _)]
  | succ d ih =>
    intro nf i hd hi
    obtain ⟨nf, rfl⟩ : ∃ q, nf = q + 1 := ⟨nf - 1, by omega⟩
    rw [s_X4_total_4, if_neg (by rw [h.1, nle (by omega) (by omega)]; omega), e_rowSum h (by omega), Option.bind_some, nsucc]
    exact ih nf (i + 1) (by omega) (by omega)
theorem m_total {μ : zM} {n m : Nat} (h : Vt μ.1 n m) : s_X4_total μ = some (tt μ.1 n n) := by
  have hn := h.2.2.2.2.1
  exact total4_loop h n FU 0 (by unfold FU; omega) (by omega)
/-! forbidden cells -/
def fcr (t : zT) (i : Nat) (x : Int32) : Nat → Int32
  | 0 => x
  | j + 1 => if t.2.2.2 (7 * i + j) = 0 then fcr t i x j else fcr t i x j + 1
def fcc (t : zT) (m : Nat) : Nat → Int32
  | 0 => 0
  | i + 1 => fcr t i (fcc t m i) m
theorem fc_inner {σ : zC} {n m i : Nat} {x : Int32} (h : Vt σ.1 n m) (hi : i < 7) (k4 : zC → Int32 → Int32 → Option Int32) : ∀ (d nf j : Nat), d < nf → j + d = m → s_X3_forbiddenCount_17 k4 nf σ (fcr σ.1 i x j) (nI i) (nI j) = k4 σ (fcr σ.1 i x m) (nI (i + 1)) := by
  have hn := h.2.2.2.2.1
  have hmn := h.2.2.2.1
  intro d
  induction d with
  | zero =>
    intro nf j hd hj
    obtain ⟨nf, rfl⟩ : ∃ q, nf = q + 1 := ⟨nf - 1, by omega⟩
    have : j = m := by omega
    subst this
    rw [s_X3_forbiddenCount_17, if_pos (by rw [h.2.1]; exact Int32.le_refl _), nsucc]
  | succ d ih =>
    intro nf j hd hj
    obtain ⟨nf, rfl⟩ : ∃ q, nf = q + 1 := ⟨nf - 1, by omega⟩
    have ih2 := ih nf (j + 1) (by omega) (by omega)
    rw [s_X3_forbiddenCount_17, if_neg (by rw [h.2.1, nle (by omega) (by omega)]; omega), e_isForbidden h hi (by omega), Option.bind_some, nsucc]
    rw [fcr] at ih2
    by_cases hz : σ.1.2.2.2 (7 * i + j) = 0
    · rw [if_pos hz] at ih2 ⊢
      exact ih2
    · rw [if_neg hz] at ih2 ⊢
      exact ih2
theorem fc_outer {σ : zC} {n m : Nat} (h : Vt σ.1 n m) : ∀ (d nf i : Nat), d < nf → i + d = n → s_X3_forbiddenCount_4 nf σ (fcc σ.1 m i) (nI i) = some (fcc σ.1 m n) := by
  have hn := h.2.2.2.2.1
  have hmn := h.2.2.2.1
  intro d
  induction d with
  | zero =>
    intro nf i hd hi
    obtain ⟨nf, rfl⟩ : ∃ q, nf = q + 1 := ⟨nf - 1, by omega⟩
    have : i = n := by omega
    subst this
    rw [s_X3_forbiddenCount_4, if_pos (by rw [h.1]; exact Int32.le_refl _)]
  | succ d ih =>
    intro nf i hd hi
    obtain ⟨nf, rfl⟩ : ∃ q, nf = q + 1 := ⟨nf - 1, by omega⟩
    rw [s_X3_forbiddenCount_4, if_neg (by rw [h.1, nle (by omega) (by omega)]; omega)]
    exact (fc_inner (x := fcc σ.1 m i) h (by omega) (fun v0 v1 v2 => s_X3_forbiddenCount_4 nf v0 v1 v2) m FU 0 (by unfold FU; omega) (by omega)).trans (ih nf (i + 1) (by omega) (by omega))
theorem c_forbidden {σ : zC} {n m : Nat} (h : Vt σ.1 n m) : s_X3_forbiddenCount σ = some (fcc σ.1 m n) := by
  have hn := h.2.2.2.2.1
  exact fc_outer h n FU 0 (by unfold FU; omega) (by omega)
theorem fm_inner {μ : zM} {n m i : Nat} {x : Int32} (h : Vt μ.1 n m) (hi : i < 7) (k4 : zM → Int32 → Int32 → Option Int32) : ∀ (d nf j : Nat), d < nf → j + d = m → s_X4_forbiddenMany_14 k4 nf μ (fcr μ.1 i x j) (nI i) (nI j) = k4 μ (fcr μ.1 i x m) (nI (i + 1)) := by
  have hn := h.2.2.2.2.1
  have hmn := h.2.2.2.1
  intro d
  induction d with
  | zero =>
    intro nf j hd hj
    obtain ⟨nf, rfl⟩ : ∃ q, nf = q + 1 := ⟨nf - 1, by omega⟩
    have : j = m := by omega
    subst this
    rw [s_X4_forbiddenMany_14, if_pos (by rw [h.2.1]; exact Int32.le_refl _), nsucc]
  | succ d ih =>
    intro nf j hd hj
    obtain ⟨nf, rfl⟩ : ∃ q, nf = q + 1 := ⟨nf - 1, by omega⟩
    have ih2 := ih nf (j + 1) (by omega) (by omega)
    rw [s_X4_forbiddenMany_14, if_neg (by rw [h.2.1, nle (by omega) (by omega)]; omega), cell_eq2, if_pos (ib_ok (by omega) (by omega)), ncl (by omega), nsucc, i32_add0]
    rw [fcr] at ih2
    by_cases hz : μ.1.2.2.2 (7 * i + j) = 0
    · rw [if_pos hz] at ih2 ⊢
      exact ih2
    · rw [if_neg hz] at ih2 ⊢
      exact ih2
theorem fm_outer {μ : zM} {n m : Nat} (h : Vt μ.1 n m) : ∀ (d nf i : Nat), d < nf → i + d = n → s_X4_forbiddenMany_4 nf μ (fcc μ.1 m i) (nI i) = some (fcc μ.1 m n) := by
  have hn := h.2.2.2.2.1
  have hmn := h.2.2.2.1
  intro d
  induction d with
  | zero =>
    intro nf i hd hi
    obtain ⟨nf, rfl⟩ : ∃ q, nf = q + 1 := ⟨nf - 1, by omega⟩
    have : i = n := by omega
    subst this
    rw [s_X4_forbiddenMany_4, if_pos (by rw [h.1]; exact Int32.le_refl _)]
  | succ d ih =>
    intro nf i hd hi
    obtain ⟨nf, rfl⟩ : ∃ q, nf = q + 1 := ⟨nf - 1, by omega⟩
    rw [s_X4_forbiddenMany_4, if_neg (by rw [h.1, nle (by omega) (by omega)]; omega)]
    exact (fm_inner (x := fcc μ.1 m i) h (by omega) (fun v0 v1 v2 => s_X4_forbiddenMany_4 nf v0 v1 v2) m FU 0 (by unfold FU; omega) (by omega)).trans (ih nf (i + 1) (by omega) (by omega))
theorem m_forbidden {μ : zM} {n m : Nat} (h : Vt μ.1 n m) : s_X4_forbiddenMany μ = some (fcc μ.1 m n) := by
  have hn := h.2.2.2.2.1
  exact fm_outer h n FU 0 (by unfold FU; omega) (by omega)
/-! distance -/
def ab (x : Int32) : Int32 := if 0 ≤ x then x else 0 - x
def dir (t s : zT) (i : Nat) (x : Int32) : Nat → Int32
  | 0 => x
  | j + 1 => dir t s i x j + ab (cst t i j - cst s i j)
def dic (t s : zT) (n : Nat) : Nat → Int32
  | 0 => 0
  | i + 1 => dir t s i (dic t s n i) n
theorem di_inner {σ : zC} {n m m' i : Nat} {x : Int32} (h : Vt σ.1 n m) (h' : Vt σ.2.1 n m') (hi : i < 7) (k4 : zC → Int32 → Int32 → Option Int32) : ∀ (d nf j : Nat), d < nf → j + d = n → s_X3_distance_53 k4 nf σ (dir σ.1 σ.2.1 i x j) (nI i) (nI j) = k4 σ (dir σ.1 σ.2.1 i x n) (nI (i + 1)) := by
  have hn := h.2.2.2.2.1
  intro d
  induction d with
  | zero =>
    intro nf j hd hj
    obtain ⟨nf, rfl⟩ : ∃ q, nf = q + 1 := ⟨nf - 1, by omega⟩
    have : j = n := by omega
    subst this
    rw [s_X3_distance_53, if_pos (by rw [h.1]; exact Int32.le_refl _), nsucc]
  | succ d ih =>
    intro nf j hd hj
    obtain ⟨nf, rfl⟩ : ∃ q, nf = q + 1 := ⟨nf - 1, by omega⟩
    rw [s_X3_distance_53, if_neg (by rw [h.1, nle (by omega) (by omega)]; omega), e_costOf h hi (by omega), Option.bind_some, e_costOf h' hi (by omega), Option.bind_some, nsucc]
    exact ih nf (j + 1) (by omega) (by omega)
theorem di_outer {σ : zC} {n m m' : Nat} (h : Vt σ.1 n m) (h' : Vt σ.2.1 n m') : ∀ (d nf i : Nat), d < nf → i + d = n → s_X3_distance_40 nf σ (dic σ.1 σ.2.1 n i) (nI i) = some (dic σ.1 σ.2.1 n n) := by
  have hn := h.2.2.2.2.1
  intro d
  induction d with
  | zero =>
    intro nf i hd hi
    obtain ⟨nf, rfl⟩ : ∃ q, nf = q + 1 := ⟨nf - 1, by omega⟩
    have : i = n := by omega
    subst this
    rw [s_X3_distance_40, if_pos (by rw [h.1]; exact Int32.le_refl _)]
  | succ d ih =>
    intro nf i hd hi
    obtain ⟨nf, rfl⟩ : ∃ q, nf = q + 1 := ⟨nf - 1, by omega⟩
    rw [s_X3_distance_40, if_neg (by rw [h.1, nle (by omega) (by omega)]; omega)]
    exact (di_inner (x := dic σ.1 σ.2.1 n i) h h' (by omega) (fun v0 v1 v2 => s_X3_distance_40 nf v0 v1 v2) n FU 0 (by unfold FU; omega) (by omega)).trans (ih nf (i + 1) (by omega) (by omega))
theorem neg_ab (x : Int32) : 0 - x = -x := by rw [Int32.zero_sub]
theorem dm_inner {μ : zM} {n m i : Nat} {x : Int32} (h : Vt μ.1 n m) (hi : i < 7) (k4 : zM → Int32 → Int32 → Option Int32) : ∀ (d nf j : Nat), d < nf → j + d = n → s_X4_distance_38 k4 nf μ (dir μ.1 μ.2.1 i x j) (nI i) (nI j) = k4 μ (dir μ.1 μ.2.1 i x n) (nI (i + 1)) := by
  have hn := h.2.2.2.2.1
  intro d
  induction d with
  | zero =>
    intro nf j hd hj
    obtain ⟨nf, rfl⟩ : ∃ q, nf = q + 1 := ⟨nf - 1, by omega⟩
    have : j = n := by omega
    subst this
    rw [s_X4_distance_38, if_pos (by rw [h.1]; exact Int32.le_refl _), nsucc]
  | succ d ih =>
    intro nf j hd hj
    obtain ⟨nf, rfl⟩ : ∃ q, nf = q + 1 := ⟨nf - 1, by omega⟩
    have ih2 := ih nf (j + 1) (by omega) (by omega)
    rw [s_X4_distance_38, if_neg (by rw [h.1, nle (by omega) (by omega)]; omega), e_cost4 hi (by omega), Option.bind_some, e_savedCost hi (by omega), Option.bind_some, nsucc]
    rw [dir] at ih2
    unfold ab at ih2
    by_cases hz : 0 ≤ cst μ.1 i j - cst μ.2.1 i j
    · rw [if_pos hz] at ih2 ⊢
      exact ih2
    · rw [if_neg hz, neg_ab] at ih2
      rw [if_neg hz]
      exact ih2
theorem dm_outer {μ : zM} {n m : Nat} (h : Vt μ.1 n m) : ∀ (d nf i : Nat), d < nf → i + d = n → s_X4_distance_28 nf μ (dic μ.1 μ.2.1 n i) (nI i) = some (dic μ.1 μ.2.1 n n) := by
  have hn := h.2.2.2.2.1
  intro d
  induction d with
  | zero =>
    intro nf i hd hi
    obtain ⟨nf, rfl⟩ : ∃ q, nf = q + 1 := ⟨nf - 1, by omega⟩
    have : i = n := by omega
    subst this
    rw [s_X4_distance_28, if_pos (by rw [h.1]; exact Int32.le_refl _)]
  | succ d ih =>
    intro nf i hd hi
    obtain ⟨nf, rfl⟩ : ∃ q, nf = q + 1 := ⟨nf - 1, by omega⟩
    rw [s_X4_distance_28, if_neg (by rw [h.1, nle (by omega) (by omega)]; omega)]
    exact (dm_inner (x := dic μ.1 μ.2.1 n i) h (by omega) (fun v0 v1 v2 => s_X4_distance_28 nf v0 v1 v2) n FU 0 (by unfold FU; omega) (by omega)).trans (ih nf (i + 1) (by omega) (by omega))
theorem o_distance {σ : zC} {μ : zM} (h : Rel σ μ) : ∃ v, s_X3_distance σ = some v ∧ s_X4_distance μ = some v := by
  obtain ⟨a1, a2, ⟨n, m, hV, hE⟩, ⟨n', m', hS⟩⟩ := h
  have hn := hV.2.2.2.2.1
  have hn' := hS.2.2.2.2.1
  unfold s_X3_distance s_X4_distance
  rw [a1, a2]
  by_cases h1 : σ.1.1 = σ.2.1.1
  · rw [if_pos h1, if_pos h1]
    by_cases h2 : σ.1.2.1 = σ.2.1.2.1
    · rw [if_pos h2, if_pos h2]
      have e : n = n' := by
        rw [hV.1, hS.1] at h1
        exact (neq (by omega) (by omega)).mp h1
      subst e
      refine ⟨_, di_outer hV hS n FU 0 (by unfold FU; omega) (by omega), ?_⟩
      have := dm_outer (μ := μ) (n := n) (m := m) (by rw [a1]; exact hV) n FU 0 (by unfold FU; omega) (by omega)
      rw [a1, a2] at this
      exact this
    · rw [if_neg h2, if_neg h2]; exact ⟨_, rfl, rfl⟩
  · rw [if_neg h1, if_neg h1]; exact ⟨_, rfl, rfl⟩
theorem o_rows {σ : zC} {μ : zM} (h : Rel σ μ) : ∃ v, s_X3_rows σ = some v ∧ s_X4_rows μ = some v := by
  unfold s_X3_rows s_X4_rows; rw [h.1]; exact ⟨_, rfl, rfl⟩
theorem o_columns {σ : zC} {μ : zM} (h : Rel σ μ) : ∃ v, s_X3_columns σ = some v ∧ s_X4_columns μ = some v := by
  unfold s_X3_columns s_X4_columns; rw [h.1]; exact ⟨_, rfl, rfl⟩
theorem o_totalCost {σ : zC} {μ : zM} (h : Rel σ μ) : ∃ v, s_X3_totalCost σ = some v ∧ s_X4_totalCost μ = some v := by
  obtain ⟨a1, a2, ⟨n, m, hV, hE⟩, -⟩ := h
  unfold s_X4_totalCost
  rw [c_total hV, m_total (μ := μ) (n := n) (m := m) (by rw [a1]; exact hV), a1]
  exact ⟨_, rfl, rfl⟩
theorem o_forbiddenCount {σ : zC} {μ : zM} (h : Rel σ μ) : ∃ v, s_X3_forbiddenCount σ = some v ∧ s_X4_forbiddenCount μ = some v := by
  obtain ⟨a1, a2, ⟨n, m, hV, hE⟩, -⟩ := h
  unfold s_X4_forbiddenCount
  rw [c_forbidden hV, m_forbidden (μ := μ) (n := n) (m := m) (by rw [a1]; exact hV), a1]
  exact ⟨_, rfl, rfl⟩
