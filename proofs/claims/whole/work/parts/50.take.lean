/-! ===== the reference takes the costs of a table ===== -/
abbrev wk (μ : zM) (f : zF) : zM := (μ.1, μ.2.1, (f, μ.2.2.1.2), μ.2.2.2.1, μ.2.2.2.2)
theorem e_cost4 {μ : zM} {i j : Nat} (hi : i < 7) (hj : j < 7) : s_X4_cost μ (nI i) (nI j) = some (cst μ.1 i j) := by
  unfold s_X4_cost cst
  by_cases h1 : nI j < μ.1.2.1
  · rw [if_pos h1, if_pos h1, cell_eq2, if_pos (ib_ok (by omega) (by omega)), if_pos (ib_ok (by omega) (by omega)), ncl (by omega)]
    split <;> rfl
  · rw [if_neg h1, if_neg h1]
theorem e_savedCost {μ : zM} {i j : Nat} (hi : i < 7) (hj : j < 7) : s_X4_savedCost μ (nI i) (nI j) = some (cst μ.2.1 i j) := by
  unfold s_X4_savedCost cst
  by_cases h1 : nI j < μ.2.1.2.1
  · rw [if_pos h1, if_pos h1, cell_eq2, if_pos (ib_ok (by omega) (by omega)), if_pos (ib_ok (by omega) (by omega)), ncl (by omega)]
    split <;> rfl
  · rw [if_neg h1, if_neg h1]
theorem take_inner {n i : Nat} (hn : n < 8) (hi : i < n) (k2 : zM → Int32 → Option zM) :
    ∀ (d nf j : Nat) (μ : zM), μ.1.1 = nI n → d < nf → j + d = n → ∃ f : zF, s_X4_take_12 k2 nf μ (nI i) (nI j) = k2 (wk μ f) (nI (i + 1)) ∧ (∀ q, j ≤ q → q < n → f (7 * i + q) = cst μ.1 i q) ∧ ∀ q, (q < 7 * i + j ∨ 7 * i + n ≤ q) → f q = μ.2.2.1.1 q := by
  intro d
  induction d with
  | zero =>
    intro nf j μ hs hd hj
    obtain ⟨nf, rfl⟩ : ∃ q, nf = q + 1 := ⟨nf - 1, by omega⟩
    refine ⟨μ.2.2.1.1, ?_, fun q h1 h2 => by omega, fun q _ => rfl⟩
    rw [s_X4_take_12, if_pos (by rw [hs, nle (by omega) (by omega)]; omega), nsucc]
  | succ d ih =>
    intro nf j μ hs hd hj
    obtain ⟨nf, rfl⟩ : ∃ q, nf = q + 1 := ⟨nf - 1, by omega⟩
    rw [s_X4_take_12, if_neg (by rw [hs, nle (by omega) (by omega)]; omega), e_cost4 (by omega) (by omega), Option.bind_some, cell_eq2, if_pos (ib_ok (by omega) (by omega)), ncl (by omega), nsucc]
    obtain ⟨f, e1, e2, e3⟩ := ih nf (j + 1) (wk μ (upd μ.2.2.1.1 (7 * i + j) (cst μ.1 i j))) hs (by omega) (by omega)
    refine ⟨f, e1, fun q h1 h2 => ?_, fun q hq => ?_⟩
    · by_cases hqj : q = j
      · subst hqj
        rw [e3 _ (Or.inl (by omega))]
        exact upd_same _ _ _
      · exact e2 q (by omega) h2
    · rw [e3 q (by omega)]
      exact upd_ne (by omega)
theorem take_outer {n : Nat} (hn : n < 8) :
    ∀ (d nf i : Nat) (μ : zM), μ.1.1 = nI n → d < nf → i + d = n → ∃ f : zF, s_X4_take_2 nf μ (nI i) = some (wk μ f) ∧ (∀ a b, i ≤ a → a < n → b < n → f (7 * a + b) = cst μ.1 a b) ∧ ∀ q, q < 7 * i → f q = μ.2.2.1.1 q := by
  intro d
  induction d with
  | zero =>
    intro nf i μ hs hd hj
    obtain ⟨nf, rfl⟩ : ∃ q, nf = q + 1 := ⟨nf - 1, by omega⟩
    refine ⟨μ.2.2.1.1, ?_, fun a b h1 h2 => by omega, fun q _ => rfl⟩
    rw [s_X4_take_2, if_pos (by rw [hs, nle (by omega) (by omega)]; omega)]
  | succ d ih =>
    intro nf i μ hs hd hj
    obtain ⟨nf, rfl⟩ : ∃ q, nf = q + 1 := ⟨nf - 1, by omega⟩
    rw [s_X4_take_2, if_neg (by rw [hs, nle (by omega) (by omega)]; omega), show (0 : Int32) = nI 0 from rfl]
    obtain ⟨g, g1, g2, g3⟩ := take_inner hn (i := i) (by omega) (fun v0 v1 => s_X4_take_2 nf v0 v1) n FU 0 μ hs (by unfold FU; omega) (by omega)
    rw [g1]
    obtain ⟨f, e1, e2, e3⟩ := ih nf (i + 1) (wk μ g) hs (by omega) (by omega)
    refine ⟨f, e1, fun a b h1 h2 h3 => ?_, fun q hq => ?_⟩
    · by_cases ha : a = i
      · subst ha
        rw [e3 _ (by omega)]
        exact g2 b (Nat.zero_le _) h3
      · exact e2 a b (by omega) h2 h3
    · rw [e3 q (by omega)]
      exact g3 q (Or.inl (by omega))
theorem e_take {μ : zM} {n m : Nat} (h : Vt μ.1 n m) : ∃ f : zF, s_X4_take μ = some (wk μ f) ∧ ∀ a b, a < n → b < n → f (7 * a + b) = cst μ.1 a b := by
  have hn := h.2.2.2.2.1
  obtain ⟨f, e1, e2, -⟩ := take_outer hn n FU 0 μ h.1 (by unfold FU; omega) (by omega)
  exact ⟨f, e1, fun a b h1 h2 => e2 a b (Nat.zero_le _) h1 h2⟩
theorem stake_inner {n i : Nat} (hn : n < 8) (hi : i < n) (k2 : zM → Int32 → Option (Int32 × zM)) :
    ∀ (d nf j : Nat) (μ : zM), μ.2.1.1 = nI n → d < nf → j + d = n → ∃ f : zF, s_X4_savedMinimum_12 k2 nf μ (nI i) (nI j) = k2 (wk μ f) (nI (i + 1)) ∧ (∀ q, j ≤ q → q < n → f (7 * i + q) = cst μ.2.1 i q) ∧ ∀ q, (q < 7 * i + j ∨ 7 * i + n ≤ q) → f q = μ.2.2.1.1 q := by
  intro d
  induction d with
  | zero =>
    intro nf j μ hs hd hj
    obtain ⟨nf, rfl⟩ : ∃ q, nf = q + 1 := ⟨nf - 1, by omega⟩
    refine ⟨μ.2.2.1.1, ?_, fun q h1 h2 => by omega, fun q _ => rfl⟩
    rw [s_X4_savedMinimum_12, if_pos (by rw [hs, nle (by omega) (by omega)]; omega), nsucc]
  | succ d ih =>
    intro nf j μ hs hd hj
    obtain ⟨nf, rfl⟩ : ∃ q, nf = q + 1 := ⟨nf - 1, by omega⟩
    rw [s_X4_savedMinimum_12, if_neg (by rw [hs, nle (by omega) (by omega)]; omega), e_savedCost (by omega) (by omega), Option.bind_some, cell_eq2, if_pos (ib_ok (by omega) (by omega)), ncl (by omega), nsucc]
    obtain ⟨f, e1, e2, e3⟩ := ih nf (j + 1) (wk μ (upd μ.2.2.1.1 (7 * i + j) (cst μ.2.1 i j))) hs (by omega) (by omega)
    refine ⟨f, e1, fun q h1 h2 => ?_, fun q hq => ?_⟩
    · by_cases hqj : q = j
      · subst hqj
        rw [e3 _ (Or.inl (by omega))]
        exact upd_same _ _ _
      · exact e2 q (by omega) h2
    · rw [e3 q (by omega)]
      exact upd_ne (by omega)
theorem okN_of {t : zT} {n m : Nat} (h : Vt t n m) {L : zL} (hf : ∀ a b, a < n → b < n → L.1 (7 * a + b) = cst t a b) : okN L n (Cz t) := by
  have hn := h.2.2.2.2.1
  intro i j hi hj
  have := cst_bound h (i := i) (j := j) (by omega) (by omega)
  exact ⟨by rw [hf i j hi hj]; rfl, this⟩
/-- the look over the table -/
def LKt (t : zT) (n : Nat) (L : zL) : Prop := LK n (Cz t) (PL n) L ∧ ∀ a b, a < n → b < n → L.1 (7 * a + b) = cst t a b
theorem e_look_ {μ : zM} {n m : Nat} (h : Vt μ.1 n m) : ∃ L2 : zL, s_X4_look_ μ = some (wl μ L2) ∧ LKt μ.1 n L2 := by
  have hn := h.2.2.2.2.1
  obtain ⟨f, e1, e2⟩ := e_take h
  obtain ⟨L2, g1, g2, g3⟩ := e_look hn (by have := h.2.2.1; have := h.2.2.2.1; omega) (μ := wk μ f) (C := Cz μ.1) (okN_of h e2)
  refine ⟨L2, ?_, g2, fun a b h1 h2 => by rw [g3]; exact e2 a b h1 h2⟩
  unfold s_X4_look_
  rw [e1, Option.bind_some, show (wk μ f).1.1 = nI n from h.1, g1, Option.bind_some]
theorem stake_outer {n m : Nat} :
    ∀ (d nf i : Nat) (μ : zM), Vt μ.2.1 n m → d < nf → i + d = n → (∀ a b, a < i → b < n → μ.2.2.1.1 (7 * a + b) = cst μ.2.1 a b) → ∃ L2 : zL, s_X4_savedMinimum_2 nf μ (nI i) = some (L2.2.2.2.2.1, wl μ L2) ∧ LKt μ.2.1 n L2 := by
  intro d
  induction d with
  | zero =>
    intro nf i μ h hd hj hc
    have hn := h.2.2.2.2.1
    obtain ⟨nf, rfl⟩ : ∃ q, nf = q + 1 := ⟨nf - 1, by omega⟩
    have : i = n := by omega
    subst this
    obtain ⟨L2, g1, g2, g3⟩ := e_look hn (by have := h.2.2.1; have := h.2.2.2.1; omega) (μ := μ) (C := Cz μ.2.1) (okN_of h hc)
    refine ⟨L2, ?_, g2, fun a b h1 h2 => by rw [g3]; exact hc a b h1 h2⟩
    rw [s_X4_savedMinimum_2, if_pos (by rw [h.1]; exact Int32.le_refl _), h.1, g1, Option.bind_some]
  | succ d ih =>
    intro nf i μ h hd hj hc
    have hn := h.2.2.2.2.1
    obtain ⟨nf, rfl⟩ : ∃ q, nf = q + 1 := ⟨nf - 1, by omega⟩
    rw [s_X4_savedMinimum_2, if_neg (by rw [h.1, nle (by omega) (by omega)]; omega), show (0 : Int32) = nI 0 from rfl]
    obtain ⟨g, g1, g2, g3⟩ := stake_inner hn (i := i) (by omega) (fun v0 v1 => s_X4_savedMinimum_2 nf v0 v1) n FU 0 μ h.1 (by unfold FU; omega) (by omega)
    rw [g1]
    obtain ⟨L2, e1, e2⟩ := ih nf (i + 1) (wk μ g) h (by omega) (by omega) (fun a b h1 h2 => by
      show g _ = _
      by_cases ha : a = i
      · subst ha
        exact g2 b (Nat.zero_le _) h2
      · rw [g3 _ (Or.inl (by omega))]
        exact hc a b (by omega) h2)
    exact ⟨L2, e1, e2⟩
theorem e_savedMinimum4 {μ : zM} {n m : Nat} (h : Vt μ.2.1 n m) : ∃ L2 : zL, s_X4_savedMinimum μ = some (L2.2.2.2.2.1, wl μ L2) ∧ LKt μ.2.1 n L2 := by
  have hn := h.2.2.2.2.1
  exact stake_outer n FU 0 μ h (by unfold FU; omega) (by omega) (fun a b h1 => by omega)
/-! the class's solver over the table -/
theorem e_load2 (s : zS) {t : zT} {n m : Nat} (h : Vt t n m) : ∃ s1 : zS, s_X0_load s t = some s1 ∧ okC s1 n (Cz t) := by
  have hn := h.2.2.2.2.1
  obtain ⟨f, e1, e2⟩ := e_load s h
  refine ⟨_, e1, h.1, fun i j hi hj => ?_⟩
  have := cst_bound h (i := i) (j := j) (by omega) (by omega)
  exact ⟨by show (f _).toInt = _; rw [e2 i j hi hj]; rfl, by omega, by omega⟩
theorem okL0 {C : Nat → Nat → Int} {n : Nat} {l w : Int32} (h : okL C n 0 l w) : IsMin ((PL n).map (fun l => fs C l n)) l.toInt ∧ w = nI (((PL n).map (fun l => fs C l n)).count l.toInt) := by
  unfold okL at h
  rw [pop_zero, Nat.sub_zero, link_ss] at h
  exact h
theorem okG0 {C : Nat → Nat → Int} {n : Nat} {g : Int32} (h : okG C n 0 g) : IsMax ((PL n).map (fun l => fs C l n)) g.toInt := by
  unfold okG at h
  rw [pop_zero, Nat.sub_zero, link_ss] at h
  exact h
theorem okP0 {C : Nat → Nat → Int} {n : Nat} {g : Int32} (h : okP C n 0 g) : IsMin ((PL n).map (fun l => fd C l n)) g.toInt := by
  unfold okP at h
  rw [pop_zero, Nat.sub_zero, link_pp] at h
  exact h
theorem two_pos (n : Nat) : 0 < 2 ^ n := Nat.pow_pos (by omega)
