/-! ===== the class's searches ===== -/
def keepD (σ σ2 : zC) : Prop := keepC σ σ2 ∧ σ2.2.2.2.1 = σ.2.2.2.1 ∧ σ2.2.2.2.2.1 = σ.2.2.2.2.1 ∧ σ2.2.2.2.2.2.1 = σ.2.2.2.2.2.1
theorem keepC.refl (σ : zC) : keepC σ σ := ⟨rfl, rfl, rfl⟩
theorem keepC.trans {a b c : zC} (h1 : keepC a b) (h2 : keepC b c) : keepC a c := ⟨h2.1.trans h1.1, h2.2.1.trans h1.2.1, h2.2.2.trans h1.2.2⟩
theorem keepD.trans {a b c : zC} (h1 : keepD a b) (h2 : keepD b c) : keepD a c := ⟨h1.1.trans h2.1, h2.2.1.trans h1.2.1, h2.2.2.1.trans h1.2.2.1, h2.2.2.2.trans h1.2.2.2⟩
abbrev FS (C : Nat → Nat → Int) (n : Nat) : List Int := (PL n).map (fun l => fs C l n)
theorem c_min {s : zS} {n : Nat} {C : Nat → Nat → Int} (hn : n < 8) (hs : okC s n C) : ∃ v s2, s_X0_leastSum s = some (v, s2) ∧ IsMin (FS C n) v.toInt := by
  obtain ⟨le, wa, e1, e2⟩ := e_leastSum hn hs
  exact ⟨_, _, e1, (okL0 (e2 0 (two_pos n))).1⟩
theorem c_minimum {σ : zC} {n m : Nat} (h : Vt σ.1 n m) : ∃ v σ2, s_X3_minimum σ = some (v, σ2) ∧ IsMin (FS (Cz σ.1) n) v.toInt ∧ keepD σ σ2 := by
  have hn := h.2.2.2.2.1
  obtain ⟨s1, e1, e2⟩ := e_load2 σ.2.2.1 h
  obtain ⟨v, s2, e3, e4⟩ := c_min hn e2
  unfold s_X3_minimum
  rw [e1, Option.bind_some, e3, Option.bind_some]
  exact ⟨_, _, rfl, e4, ⟨rfl, rfl, rfl⟩, rfl, rfl, rfl⟩
theorem c_savedMinimum {σ : zC} {n m : Nat} (h : Vt σ.2.1 n m) : ∃ v σ2, s_X3_savedMinimum σ = some (v, σ2) ∧ IsMin (FS (Cz σ.2.1) n) v.toInt ∧ keepD σ σ2 := by
  have hn := h.2.2.2.2.1
  obtain ⟨s1, e1, e2⟩ := e_load2 σ.2.2.1 h
  obtain ⟨v, s2, e3, e4⟩ := c_min hn e2
  unfold s_X3_savedMinimum
  rw [e1, Option.bind_some, e3, Option.bind_some]
  exact ⟨_, _, rfl, e4, ⟨rfl, rfl, rfl⟩, rfl, rfl, rfl⟩
theorem c_optimalCount {σ : zC} {n m : Nat} (h : Vt σ.1 n m) : ∃ v σ2 w, s_X3_optimalCount σ = some (v, σ2) ∧ IsMin (FS (Cz σ.1) n) w ∧ v = nI ((FS (Cz σ.1) n).count w) ∧ keepD σ σ2 := by
  have hn := h.2.2.2.2.1
  obtain ⟨s1, e1, e2⟩ := e_load2 σ.2.2.1 h
  obtain ⟨le, wa, e3, e4⟩ := e_leastSum hn e2
  unfold s_X3_optimalCount
  rw [e1, Option.bind_some, e3, Option.bind_some]
  unfold s_X0_leastWays
  rw [if_pos (by decide), Option.bind_some]
  obtain ⟨h1, h2⟩ := okL0 (e4 0 (two_pos n))
  exact ⟨_, _, _, rfl, h1, h2, ⟨rfl, rfl, rfl⟩, rfl, rfl, rfl⟩
theorem c_bottleneck {σ : zC} {n m : Nat} (h : Vt σ.1 n m) : ∃ v σ2, s_X3_bottleneck σ = some (v, σ2) ∧ IsMin ((PL n).map (fun l => fd (Cz σ.1) l n)) v.toInt ∧ keepD σ σ2 := by
  have hn := h.2.2.2.2.1
  obtain ⟨s1, e1, e2⟩ := e_load2 σ.2.2.1 h
  obtain ⟨ga, e3, e4⟩ := e_leastPeak hn e2
  unfold s_X3_bottleneck
  rw [e1, Option.bind_some, e3, Option.bind_some]
  exact ⟨_, _, rfl, okP0 (e4 0 (two_pos n)), ⟨rfl, rfl, rfl⟩, rfl, rfl, rfl⟩
/-- the first optimal assignment -/
def FO (C : Nat → Nat → Int) (n : Nat) (f : List Nat) : Prop := f ∈ PL n ∧ IsMin (FS C n) (fs C f n) ∧ (PL n).find? (fun l => decide (fs C l n = fs C f n)) = some f
theorem FO.uniq {C : Nat → Nat → Int} {n : Nat} {f g : List Nat} (h1 : FO C n f) (h2 : FO C n g) : f = g := by
  have e := h1.2.1.uniq h2.2.1
  have a := h1.2.2
  rw [e, h2.2.2] at a
  exact (Option.some.inj a).symm
theorem FO.mk {C : Nat → Nat → Int} {n : Nat} {f : List Nat} {v : Int} (h1 : IsMin (FS C n) v) (h2 : (PL n).find? (fun l => decide (fs C l n = v)) = some f) : FO C n f := by
  have e : fs C f n = v := by
    have h := List.find?_some h2
    simpa using h
  refine ⟨List.mem_of_find?_eq_some h2, ?_, ?_⟩
  · rw [e]; exact h1
  · rw [e]; exact h2
theorem c_findFirst {σ : zC} {n m : Nat} (h : Vt σ.1 n m) : ∃ σ2 f, s_X3_findFirstOptimal σ = some σ2 ∧ FO (Cz σ.1) n f ∧ (∀ i, i < n → σ2.2.2.2.2.2.1 i = nI (f.getD i 0)) ∧ keepC σ σ2 ∧ σ2.2.2.2.1 = σ.2.2.2.1 ∧ σ2.2.2.2.2.1 = σ.2.2.2.2.1 := by
  have hn := h.2.2.2.2.1
  obtain ⟨s1, e1, e2⟩ := e_load2 σ.2.2.1 h
  obtain ⟨le, wa, e3, e4⟩ := e_leastSum hn e2
  unfold s_X3_findFirstOptimal
  rw [e1, Option.bind_some, e3, Option.bind_some]
  obtain ⟨p, f2, g1, g2, g3⟩ := e_traceLeast (s := (s1.1, s1.2.1, le, wa, s1.2.2.2.2)) hn e2 e4 σ.2.2.2.2.2.1
  rw [g2, Option.bind_some]
  have h5 := okL0 (e4 0 (two_pos n))
  refine ⟨_, pad n p, rfl, FO.mk h5.1 ?_, fun i hi => ?_, ⟨rfl, rfl, rfl⟩, rfl, rfl⟩
  · rw [link_ft]
    show (ft (Cz σ.1) n 0 n 0 (le 0).toInt).map _ = _
    rw [g1]; rfl
  · rw [pad_getD (ft_len g1) hi]
    exact g3 i hi
/-- one cell at another cost -/
def C1 (C : Nat → Nat → Int) (i j : Nat) (v : Int) (a b : Nat) : Int := if a = i ∧ b = j then v else C a b
theorem c_leastWithCost {σ : zC} {n m i j : Nat} (h : Vt σ.1 n m) (hi : i < n) (hj : j < n) {v : Int32} (hv : -100000 ≤ v.toInt ∧ v.toInt ≤ 100000) : ∃ w σ2, s_X3_leastWithCost σ (nI i) (nI j) v = some (w, σ2) ∧ IsMin (FS (C1 (Cz σ.1) i j v.toInt) n) w.toInt ∧ keepD σ σ2 := by
  have hn := h.2.2.2.2.1
  obtain ⟨s1, e1, e2⟩ := e_load2 σ.2.2.1 h
  unfold s_X3_leastWithCost
  rw [e1, Option.bind_some, e_putCost s1 (by omega) (by omega), Option.bind_some]
  have hs : okC (s1.1, upd s1.2.1 (7 * i + j) v, s1.2.2.1, s1.2.2.2.1, s1.2.2.2.2) n (C1 (Cz σ.1) i j v.toInt) := by
    refine ⟨e2.1, fun a b ha hb => ?_⟩
    show (upd _ _ _ _).toInt = _ ∧ _
    unfold C1
    by_cases hab : a = i ∧ b = j
    · obtain ⟨rfl, rfl⟩ := hab
      rw [upd_same, if_pos ⟨rfl, rfl⟩]
      exact ⟨rfl, hv⟩
    · rw [upd_ne (by omega), if_neg hab]
      exact e2.2 a b ha hb
  obtain ⟨w, s2, e3, e4⟩ := c_min hn hs
  rw [e3, Option.bind_some]
  exact ⟨_, _, rfl, e4, ⟨rfl, rfl, rfl⟩, rfl, rfl, rfl⟩
/-- a row in which only one cell is left -/
def CW (C : Nat → Nat → Int) (i j : Nat) (a b : Nat) : Int := if a = i ∧ b ≠ j then 100000 else C a b
def CWk (C : Nat → Nat → Int) (i j k : Nat) (a b : Nat) : Int := if a = i ∧ b ≠ j ∧ b < k then 100000 else C a b
theorem minimumWith_loop {n i j : Nat} {C : Nat → Nat → Int} (hn : n < 8) (hi : i < n) (hj : j < n) : ∀ (d nf k : Nat) (σ : zC), σ.1.1 = nI n → d < nf → k + d = n → okC σ.2.2.1 n (CWk C i j k) →
    ∃ w σ2, s_X3_minimumWith_19 nf σ (nI i) (nI j) (nI k) = some (.inr w, σ2) ∧ IsMin (FS (CW C i j) n) w.toInt ∧ keepD σ σ2 := by
  intro d
  induction d with
  | zero =>
    intro nf k σ hs hd hk hok
    obtain ⟨nf, rfl⟩ : ∃ q, nf = q + 1 := ⟨nf - 1, by omega⟩
    have hok2 : okC σ.2.2.1 n (CW C i j) := by
      refine ⟨hok.1, fun a b ha hb => ?_⟩
      have h1 := hok.2 a b ha hb
      unfold CWk at h1
      unfold CW
      by_cases hab : a = i ∧ b ≠ j
      · rw [if_pos ⟨hab.1, hab.2, by omega⟩] at h1
        rw [if_pos hab]
        exact h1
      · rw [if_neg (fun h => hab ⟨h.1, h.2.1⟩)] at h1
        rw [if_neg hab]
        exact h1
    obtain ⟨w, s2, e3, e4⟩ := c_min hn hok2
    rw [s_X3_minimumWith_19, if_pos (by rw [hs, nle (by omega) (by omega)]; omega), e3, Option.bind_some]
    exact ⟨_, _, rfl, e4, ⟨rfl, rfl, rfl⟩, rfl, rfl, rfl⟩
  | succ d ih =>
    intro nf k σ hs hd hk hok
    obtain ⟨nf, rfl⟩ : ∃ q, nf = q + 1 := ⟨nf - 1, by omega⟩
    rw [s_X3_minimumWith_19, if_neg (by rw [hs, nle (by omega) (by omega)]; omega)]
    by_cases hkj : k = j
    · rw [if_pos (by rw [hkj]), nsucc]
      refine ih nf (k + 1) σ hs (by omega) (by omega) ⟨hok.1, fun a b ha hb => ?_⟩
      have h1 := hok.2 a b ha hb
      have e : (a = i ∧ b ≠ j ∧ b < k + 1) ↔ (a = i ∧ b ≠ j ∧ b < k) := by omega
      unfold CWk at h1 ⊢
      simp only [e]
      exact h1
    · rw [if_neg (by rw [neq (by omega) (by omega)]; exact hkj), e_putCost _ (by omega) (by omega), Option.bind_some, nsucc]
      obtain ⟨w, σ2, q1, q2, q3⟩ := ih nf (k + 1) (σ.1, σ.2.1, (σ.2.2.1.1, upd σ.2.2.1.2.1 (7 * i + k) 100000, σ.2.2.1.2.2.1, σ.2.2.1.2.2.2.1, σ.2.2.1.2.2.2.2), σ.2.2.2.1, σ.2.2.2.2.1, σ.2.2.2.2.2.1, σ.2.2.2.2.2.2) hs (by omega) (by omega) ⟨hok.1, fun a b ha hb => by
        have h1 := hok.2 a b ha hb
        show (upd _ _ _ _).toInt = _ ∧ _
        unfold CWk at h1 ⊢
        by_cases hab : a = i ∧ b = k
        · obtain ⟨rfl, rfl⟩ := hab
          rw [upd_same, if_pos ⟨rfl, hkj, by omega⟩]
          exact ⟨rfl, by decide, by decide⟩
        · rw [upd_ne (by omega)]
          have e : (a = i ∧ b ≠ j ∧ b < k + 1) ↔ (a = i ∧ b ≠ j ∧ b < k) := by omega
          simp only [e]
          exact h1⟩
      exact ⟨w, σ2, q1, q2, q3⟩
theorem c_minimumWith {σ : zC} {n m i j : Nat} (h : Vt σ.1 n m) (hi : i < n) (hj : j < n) : ∃ w σ2, s_X3_minimumWith σ (nI i) (nI j) = some (.inr w, σ2) ∧ IsMin (FS (CW (Cz σ.1) i j) n) w.toInt ∧ keepD σ σ2 := by
  have hn := h.2.2.2.2.1
  obtain ⟨s1, e1, e2⟩ := e_load2 σ.2.2.1 h
  unfold s_X3_minimumWith
  rw [e_requireCell h.1 hn, if_pos ⟨⟨by rw [nT (by omega)]; omega, by rw [nT (by omega)]; omega⟩, ⟨by rw [nT (by omega)]; omega, by rw [nT (by omega)]; omega⟩⟩, Option.bind_some]
  show ∃ w σ2, (s_X0_load _ _).bind _ = some _ ∧ _
  rw [e1, Option.bind_some]
  obtain ⟨w, σ2, q1, q2, q3⟩ := minimumWith_loop (C := Cz σ.1) hn hi hj n FU 0 (σ.1, σ.2.1, s1, σ.2.2.2.1, σ.2.2.2.2.1, σ.2.2.2.2.2.1, σ.2.2.2.2.2.2) h.1 (by unfold FU; omega) (by omega) ⟨e2.1, fun a b ha hb => by
    have h1 := e2.2 a b ha hb
    unfold CWk
    rw [if_neg (by omega)]
    exact h1⟩
  exact ⟨w, σ2, q1, q2, q3⟩
