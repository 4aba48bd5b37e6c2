/-! ===== potentials ===== -/
def cm (g : Nat → Int32) : Nat → Int32
  | 0 => 1000000
  | k + 1 => if g k < cm g k then g k else cm g k
theorem cm_congr {g h : Nat → Int32} {n : Nat} (e : ∀ r, r < n → g r = h r) : cm g n = cm h n := by
  induction n with
  | zero => rfl
  | succ k ih => rw [cm, cm, e k (by omega), ih (fun r hr => e r (by omega))]
def PRi (t : zT) (n : Nat) (v : Int32) (i : Nat) (x : Int32) : Prop := ∃ w : Int32, IsMin (((PL n).filter (fun l => decide (l.getD i 0 = 0))).map (fun l => fs (Cz t) l n)) w.toInt ∧ x = v - (w - cst t i 0)
def POT (t : zT) (n : Nat) (rp cp : zF) : Prop := ∃ v : Int32, IsMin (FS (Cz t) n) v.toInt ∧ (∀ i, i < n → PRi t n v i (rp i)) ∧ ∀ c, c < n → cp c = cm (fun r => cst t r c - rp r) n
theorem PRi.uniq {t : zT} {n i : Nat} {v v' x y : Int32} (e : v = v') (h1 : PRi t n v i x) (h2 : PRi t n v' i y) : x = y := by
  obtain ⟨w, a1, a2⟩ := h1
  obtain ⟨w', b1, b2⟩ := h2
  rw [a2, b2, zz_inj.mpr (a1.uniq b1), e]
theorem POT.uniq {t : zT} {n : Nat} {rp cp rp' cp' : zF} (h1 : POT t n rp cp) (h2 : POT t n rp' cp') : (∀ i, i < n → rp i = rp' i) ∧ ∀ c, c < n → cp c = cp' c := by
  obtain ⟨v, a1, a2, a3⟩ := h1
  obtain ⟨v', b1, b2, b3⟩ := h2
  have e := zz_inj.mpr (a1.uniq b1)
  have er : ∀ i, i < n → rp i = rp' i := fun i hi => PRi.uniq e (a2 i hi) (b2 i hi)
  refine ⟨er, fun c hc => ?_⟩
  rw [a3 c hc, b3 c hc]
  exact cm_congr (fun r hr => by rw [er r hr])
theorem PRi.bound {t : zT} {n m i : Nat} {v x : Int32} (hV : Vt t n m) (hi : i < n) (hv : IsMin (FS (Cz t) n) v.toInt) (h : PRi t n v i x) : -20000 ≤ x.toInt ∧ x.toInt ≤ 20000 := by
  have hn := hV.2.2.2.2.1
  obtain ⟨w, a1, a2⟩ := h
  obtain ⟨l, hl, e1⟩ := List.mem_map.mp hv.1
  obtain ⟨l', hl', e2⟩ := List.mem_map.mp a1.1
  have b1 := t_sum hV hl
  have b2 := t_sum hV (List.mem_filter.mp hl').1
  have b3 := t_bound hV hi (j := 0) (by omega)
  have e1' : fs (Cz t) l n = v.toInt := e1
  have e2' : fs (Cz t) l' n = w.toInt := e2
  unfold Cz at b3
  have f1 : (w - cst t i 0).toInt = w.toInt - (cst t i 0).toInt := zz_sub (by omega) (by omega)
  have f2 : (v - (w - cst t i 0)).toInt = v.toInt - (w - cst t i 0).toInt := zz_sub (by omega) (by omega)
  rw [a2]
  omega
theorem gap_small {t : zT} {n m r c : Nat} {x : Int32} (hV : Vt t n m) (hr : r < n) (hc : c < n) (h : -20000 ≤ x.toInt ∧ x.toInt ≤ 20000) : cst t r c - x < 1000000 := by
  have b3 := t_bound hV hr hc
  unfold Cz at b3
  rw [zz_lt, zz_sub (by omega) (by omega), far_t]
  omega
/-! the class -/
theorem rest_loop {t : zT} {n m c : Nat} (hV : Vt t n m) (hc : c < n) {σ : zC} (hs : σ.1 = t) : ∀ (d nf k : Nat), d < nf → k + d = n → s_X3_smallestRest_19 nf σ (nI c) (cm (fun r => cst t r c - σ.2.2.2.1 r) k) (nI k) = some (cm (fun r => cst t r c - σ.2.2.2.1 r) n) := by
  have hn := hV.2.2.2.2.1
  intro d
  induction d with
  | zero =>
    intro nf k hd hk
    obtain ⟨nf, rfl⟩ : ∃ q, nf = q + 1 := ⟨nf - 1, by omega⟩
    have : k = n := by omega
    subst this
    rw [s_X3_smallestRest_19, if_pos (by rw [hs, hV.1]; exact Int32.le_refl _)]
  | succ d ih =>
    intro nf k hd hk
    obtain ⟨nf, rfl⟩ : ∃ q, nf = q + 1 := ⟨nf - 1, by omega⟩
    rw [s_X3_smallestRest_19, if_neg (by rw [hs, hV.1, nle (by omega) (by omega)]; omega), hs, e_costOf hV (by omega) (by omega), Option.bind_some, if_pos (ib_ok (by omega) (by omega)), ncl (by omega), nsucc]
    exact ih nf (k + 1) (by omega) (by omega)
theorem e_rest {t : zT} {n m c : Nat} (hV : Vt t n m) (hc : c < n) {σ : zC} (hs : σ.1 = t) (hb : -20000 ≤ (σ.2.2.2.1 0).toInt ∧ (σ.2.2.2.1 0).toInt ≤ 20000) : s_X3_smallestRest σ (nI c) = some (cm (fun r => cst t r c - σ.2.2.2.1 r) n) := by
  have hn := hV.2.2.2.2.1
  unfold s_X3_smallestRest
  rw [show (0 : Int32) = nI 0 from rfl, hs, e_costOf hV (by omega) (by omega), Option.bind_some, if_pos (ib_ok (by omega) (by omega)), ncl (by omega)]
  have h1 := rest_loop hV hc hs (n - 1) FU 1 (by unfold FU; omega) (by omega)
  rw [cm, cm, if_pos (gap_small hV (by omega) hc hb)] at h1
  exact h1
theorem cpot_cols {t : zT} {n m : Nat} (hV : Vt t n m) : ∀ (d nf k : Nat) (σ : zC), σ.1 = t → (-20000 ≤ (σ.2.2.2.1 0).toInt ∧ (σ.2.2.2.1 0).toInt ≤ 20000) → d < nf → k + d = n → (∀ q, q < k → σ.2.2.2.2.1 q = cm (fun r => cst t r q - σ.2.2.2.1 r) n) →
    ∃ cp : zF, s_X3_findPotentials_52 nf σ (nI k) = some (.inr (), (σ.1, σ.2.1, σ.2.2.1, σ.2.2.2.1, cp, σ.2.2.2.2.2.1, σ.2.2.2.2.2.2)) ∧ ∀ q, q < n → cp q = cm (fun r => cst t r q - σ.2.2.2.1 r) n := by
  have hn := hV.2.2.2.2.1
  intro d
  induction d with
  | zero =>
    intro nf k σ hs hb hd hk hq
    obtain ⟨nf, rfl⟩ : ∃ q, nf = q + 1 := ⟨nf - 1, by omega⟩
    rw [s_X3_findPotentials_52, if_pos (by rw [hs, hV.1, nle (by omega) (by omega)]; omega)]
    exact ⟨σ.2.2.2.2.1, rfl, fun q h => hq q (by omega)⟩
  | succ d ih =>
    intro nf k σ hs hb hd hk hq
    obtain ⟨nf, rfl⟩ : ∃ q, nf = q + 1 := ⟨nf - 1, by omega⟩
    rw [s_X3_findPotentials_52, if_neg (by rw [hs, hV.1, nle (by omega) (by omega)]; omega), e_rest hV (by omega) hs hb, Option.bind_some, if_pos (ib_ok (by omega) (by omega)), ncl (by omega), nsucc]
    obtain ⟨cp, q1, q2⟩ := ih nf (k + 1) (σ.1, σ.2.1, σ.2.2.1, σ.2.2.2.1, upd σ.2.2.2.2.1 k (cm (fun r => cst t r k - σ.2.2.2.1 r) n), σ.2.2.2.2.2.1, σ.2.2.2.2.2.2) hs hb (by omega) (by omega) (fun q hqk => by
      show upd _ _ _ q = _
      by_cases h : q = k
      · subst h; exact upd_same _ _ _
      · rw [upd_ne h]; exact hq q (by omega))
    exact ⟨cp, q1, q2⟩
theorem cpot_rows {t : zT} {n m : Nat} {v : Int32} (hV : Vt t n m) (hv : IsMin (FS (Cz t) n) v.toInt) : ∀ (d nf k : Nat) (σ : zC), σ.1 = t → d < nf → k + d = n → (∀ i, i < k → PRi t n v i (σ.2.2.2.1 i)) →
    ∃ σ2, s_X3_findPotentials_7 nf σ v (nI k) = some (.inr (), σ2) ∧ keepC σ σ2 ∧ σ2.2.2.2.2.2.1 = σ.2.2.2.2.2.1 ∧ (∀ i, i < n → PRi t n v i (σ2.2.2.2.1 i)) ∧ ∀ c, c < n → σ2.2.2.2.2.1 c = cm (fun r => cst t r c - σ2.2.2.2.1 r) n := by
  have hn := hV.2.2.2.2.1
  have h1m := hV.2.2.1
  have hmn := hV.2.2.2.1
  intro d
  induction d with
  | zero =>
    intro nf k σ hs hd hk hq
    obtain ⟨nf, rfl⟩ : ∃ q, nf = q + 1 := ⟨nf - 1, by omega⟩
    rw [s_X3_findPotentials_7, if_pos (by rw [hs, hV.1, nle (by omega) (by omega)]; omega), show (0 : Int32) = nI 0 from rfl]
    obtain ⟨cp, q1, q2⟩ := cpot_cols hV n FU 0 σ hs (PRi.bound hV (by omega) hv (hq 0 (by omega))) (by unfold FU; omega) (by omega) (fun q h => by omega)
    exact ⟨_, q1, ⟨rfl, rfl, rfl⟩, rfl, fun i hi => hq i (by omega), q2⟩
  | succ d ih =>
    intro nf k σ hs hd hk hq
    obtain ⟨nf, rfl⟩ : ∃ q, nf = q + 1 := ⟨nf - 1, by omega⟩
    obtain ⟨w, σ2, q1, q2, q3⟩ := c_minimumWith (σ := σ) (n := n) (m := m) (i := k) (j := 0) (by rw [hs]; exact hV) (by omega) (by omega)
    rw [hs] at q2
    have hs2 : σ2.1 = t := q3.1.1.trans hs
    rw [s_X3_findPotentials_7, if_neg (by rw [hs, hV.1, nle (by omega) (by omega)]; omega), show (0 : Int32) = nI 0 from rfl, q1, Option.bind_some]
    show ∃ σ3, (s_X1_costOf σ2.1 (nI k) (nI 0)).bind _ = _ ∧ _
    rw [hs2, e_costOf hV (by omega) (by omega), Option.bind_some, if_pos (ib_ok (by omega) (by omega)), ncl (by omega), nsucc]
    have hw : ∃ y, IsMin (((PL n).filter (fun l => decide (l.getD k 0 = 0))).map (fun l => fs (Cz t) l n)) y := by
      refine IsMin_ex (fun he => ?_)
      obtain ⟨l, hl, e⟩ := used hn (i := k) (j := 0) (by omega) (by omega)
      have : l ∈ (PL n).filter (fun l => decide (l.getD k 0 = 0)) := List.mem_filter.mpr ⟨hl, decide_eq_true e⟩
      rw [he] at this
      exact nomatch this
    obtain ⟨y, hy⟩ := hw
    have ey := with_eq hV (i := k) (j := 0) (by omega) (by omega) q2 hy
    rw [← ey] at hy
    obtain ⟨σ3, r1, r2, r3, r4⟩ := ih nf (k + 1) (t, σ2.2.1, σ2.2.2.1, upd σ2.2.2.2.1 k (v - (w - cst t k 0)), σ2.2.2.2.2.1, σ2.2.2.2.2.2.1, σ2.2.2.2.2.2.2) rfl (by omega) (by omega) (fun i hi => by
      show PRi t n v i (upd _ _ _ i)
      by_cases h : i = k
      · subst h; rw [upd_same]; exact ⟨w, hy, rfl⟩
      · rw [upd_ne h, q3.2.1]; exact hq i (by omega))
    exact ⟨σ3, r1, ⟨r2.1.trans hs.symm, r2.2.1.trans q3.1.2.1, r2.2.2.trans q3.1.2.2⟩, r3.trans q3.2.2.2, r4⟩
theorem c_findPotentials {σ : zC} {n m : Nat} (hV : Vt σ.1 n m) : ∃ σ2, s_X3_findPotentials σ = some (.inr (), σ2) ∧ keepC σ σ2 ∧ POT σ.1 n σ2.2.2.2.1 σ2.2.2.2.2.1 := by
  have hn := hV.2.2.2.2.1
  obtain ⟨v, σ1, q1, q2, q3⟩ := c_minimum hV
  obtain ⟨σ2, r1, r2, -, r3, r4⟩ := cpot_rows hV q2 n FU 0 σ1 q3.1.1 (by unfold FU; omega) (by omega) (fun i h => by omega)
  unfold s_X3_findPotentials
  rw [q1, Option.bind_some]
  exact ⟨σ2, r1, q3.1.trans r2, v, q2, r3, r4⟩
/-! the reference -/
abbrev wq (μ : zM) (r c : zF) : zM := (μ.1, μ.2.1, (μ.2.2.1.1, μ.2.2.1.2.1, μ.2.2.1.2.2.1, μ.2.2.1.2.2.2.1, μ.2.2.1.2.2.2.2.1, μ.2.2.1.2.2.2.2.2.1, μ.2.2.1.2.2.2.2.2.2.1, μ.2.2.1.2.2.2.2.2.2.2.1, μ.2.2.1.2.2.2.2.2.2.2.2.1, r, c), μ.2.2.2.1, μ.2.2.2.2)
theorem mpot_col {t : zT} {n m x : Nat} (hV : Vt t n m) (hx : x < n) (k52 : zM → Int32 → Option zM) : ∀ (d nf j : Nat) (μ : zM), μ.1 = t → (∀ a b, a < n → b < n → μ.2.2.1.1 (7 * a + b) = cst t a b) → d < nf → j + d = n → μ.2.2.1.2.2.2.2.2.2.2.2.2.2 x = cm (fun r => cst t r x - μ.2.2.1.2.2.2.2.2.2.2.2.2.1 r) j →
    ∃ c : zF, s_X4_findPotentials_70 k52 nf μ (nI x) (nI j) = k52 (wq μ μ.2.2.1.2.2.2.2.2.2.2.2.2.1 c) (nI (x + 1)) ∧ c x = cm (fun r => cst t r x - μ.2.2.1.2.2.2.2.2.2.2.2.2.1 r) n ∧ ∀ q, q ≠ x → c q = μ.2.2.1.2.2.2.2.2.2.2.2.2.2 q := by
  have hn := hV.2.2.2.2.1
  intro d
  induction d with
  | zero =>
    intro nf j μ hs hc hd hj hcm
    obtain ⟨nf, rfl⟩ : ∃ q, nf = q + 1 := ⟨nf - 1, by omega⟩
    have : j = n := by omega
    subst this
    rw [s_X4_findPotentials_70, if_pos (by rw [hs, hV.1]; exact Int32.le_refl _), nsucc]
    exact ⟨μ.2.2.1.2.2.2.2.2.2.2.2.2.2, rfl, hcm, fun q _ => rfl⟩
  | succ d ih =>
    intro nf j μ hs hc hd hj hcm
    obtain ⟨nf, rfl⟩ : ∃ q, nf = q + 1 := ⟨nf - 1, by omega⟩
    have i1 : ib (nI (7 * j + x)) 49 = true := ib_ok (by omega) (by omega)
    have i2 : ib (nI j) 7 = true := ib_ok (by omega) (by omega)
    have i3 : ib (nI x) 7 = true := ib_ok (by omega) (by omega)
    rw [s_X4_findPotentials_70, if_neg (by rw [hs, hV.1, nle (by omega) (by omega)]; omega), cell_eq2, if_pos i1, if_pos i2, if_pos i3, if_pos i3, if_pos i3, if_pos i3, ncl (show 7 * j + x < 1000000 by omega), ncl (show x < 1000000 by omega), ncl (show j < 1000000 by omega), hc j x (by omega) hx, nsucc]
    have go : ∀ y : Int32, y = cm (fun r => cst t r x - μ.2.2.1.2.2.2.2.2.2.2.2.2.1 r) (j + 1) → ∃ c : zF, s_X4_findPotentials_70 k52 nf (wq μ μ.2.2.1.2.2.2.2.2.2.2.2.2.1 (upd μ.2.2.1.2.2.2.2.2.2.2.2.2.2 x y)) (nI x) (nI (j + 1)) = k52 (wq μ μ.2.2.1.2.2.2.2.2.2.2.2.2.1 c) (nI (x + 1)) ∧ c x = cm (fun r => cst t r x - μ.2.2.1.2.2.2.2.2.2.2.2.2.1 r) n ∧ ∀ q, q ≠ x → c q = μ.2.2.1.2.2.2.2.2.2.2.2.2.2 q := by
      intro y hy
      obtain ⟨c, q1, q2, q3⟩ := ih nf (j + 1) (wq μ μ.2.2.1.2.2.2.2.2.2.2.2.2.1 (upd μ.2.2.1.2.2.2.2.2.2.2.2.2.2 x y)) hs hc (by omega) (by omega) (by
        show upd _ _ _ x = _
        rw [upd_same]; exact hy)
      exact ⟨c, q1, q2, fun q hq => by rw [q3 q hq]; exact upd_ne hq⟩
    by_cases hle : μ.2.2.1.2.2.2.2.2.2.2.2.2.2 x ≤ cst t j x - μ.2.2.1.2.2.2.2.2.2.2.2.2.1 j
    · rw [if_pos hle]
      refine go _ ?_
      rw [cm, if_neg (by rw [← hcm]; exact Int32.not_lt.mpr hle)]
      exact hcm
    · rw [if_neg hle]
      refine go _ ?_
      rw [cm, if_pos (by rw [← hcm]; exact Int32.not_le.mp hle)]
theorem mpot_cols {t : zT} {n m : Nat} (hV : Vt t n m) : ∀ (d nf k : Nat) (μ : zM), μ.1 = t → (∀ a b, a < n → b < n → μ.2.2.1.1 (7 * a + b) = cst t a b) → d < nf → k + d = n → (∀ q, q < k → μ.2.2.1.2.2.2.2.2.2.2.2.2.2 q = cm (fun r => cst t r q - μ.2.2.1.2.2.2.2.2.2.2.2.2.1 r) n) →
    ∃ c : zF, s_X4_findPotentials_52 nf μ (nI k) = some (wq μ μ.2.2.1.2.2.2.2.2.2.2.2.2.1 c) ∧ ∀ q, q < n → c q = cm (fun r => cst t r q - μ.2.2.1.2.2.2.2.2.2.2.2.2.1 r) n := by
  have hn := hV.2.2.2.2.1
  intro d
  induction d with
  | zero =>
    intro nf k μ hs hc hd hk hq
    obtain ⟨nf, rfl⟩ : ∃ q, nf = q + 1 := ⟨nf - 1, by omega⟩
    rw [s_X4_findPotentials_52, if_pos (by rw [hs, hV.1, nle (by omega) (by omega)]; omega)]
    exact ⟨μ.2.2.1.2.2.2.2.2.2.2.2.2.2, rfl, fun q h => hq q (by omega)⟩
  | succ d ih =>
    intro nf k μ hs hc hd hk hq
    obtain ⟨nf, rfl⟩ : ∃ q, nf = q + 1 := ⟨nf - 1, by omega⟩
    rw [s_X4_findPotentials_52, if_neg (by rw [hs, hV.1, nle (by omega) (by omega)]; omega), if_pos (ib_ok (by omega) (by omega)), ncl (by omega)]
    obtain ⟨c, q1, q2, q3⟩ := mpot_col hV (x := k) (by omega) (fun v0 v1 => s_X4_findPotentials_52 nf v0 v1) n FU 0 (wq μ μ.2.2.1.2.2.2.2.2.2.2.2.2.1 (upd μ.2.2.1.2.2.2.2.2.2.2.2.2.2 k 1000000)) hs hc (by unfold FU; omega) (by omega) (by
      show upd _ _ _ k = _
      rw [upd_same]; rfl)
    obtain ⟨c2, r1, r2⟩ := ih nf (k + 1) (wq μ μ.2.2.1.2.2.2.2.2.2.2.2.2.1 c) hs hc (by omega) (by omega) (fun q hqk => by
      show c q = _
      by_cases h : q = k
      · subst h; exact q2
      · rw [q3 q h]
        show upd _ _ _ q = _
        rw [upd_ne h]; exact hq q (by omega))
    exact ⟨c2, q1.trans r1, r2⟩
theorem mul7 (k : Nat) : (7 : Int32) * nI k = nI (7 * k) := by rw [nlit 7, pk_mul]
theorem LKt.rc {t : zT} {n : Nat} {L : zL} (h : LKt t n L) (r c : zF) : LKt t n (L.1, L.2.1, L.2.2.1, L.2.2.2.1, L.2.2.2.2.1, L.2.2.2.2.2.1, L.2.2.2.2.2.2.1, L.2.2.2.2.2.2.2.1, L.2.2.2.2.2.2.2.2.1, r, c) := ⟨⟨h.1.1, h.1.2.1, h.1.2.2.1, h.1.2.2.2⟩, h.2⟩
theorem mpot_rows {t : zT} {n m : Nat} (hV : Vt t n m) : ∀ (d nf k : Nat) (μ : zM), μ.1 = t → LKt t n μ.2.2.1 → d < nf → k + d = n → (∀ i, i < k → PRi t n μ.2.2.1.2.2.2.2.1 i (μ.2.2.1.2.2.2.2.2.2.2.2.2.1 i)) →
    ∃ r c : zF, s_X4_findPotentials_6 nf μ (nI k) = some (wq μ r c) ∧ (∀ i, i < n → PRi t n μ.2.2.1.2.2.2.2.1 i (r i)) ∧ ∀ q, q < n → c q = cm (fun a => cst t a q - r a) n := by
  have hn := hV.2.2.2.2.1
  have h1m := hV.2.2.1
  have hmn := hV.2.2.2.1
  intro d
  induction d with
  | zero =>
    intro nf k μ hs hL hd hk hq
    obtain ⟨nf, rfl⟩ : ∃ q, nf = q + 1 := ⟨nf - 1, by omega⟩
    rw [s_X4_findPotentials_6, if_pos (by rw [hs, hV.1, nle (by omega) (by omega)]; omega), show (0 : Int32) = nI 0 from rfl]
    obtain ⟨c, q1, q2⟩ := mpot_cols hV n FU 0 μ hs hL.2 (by unfold FU; omega) (by omega) (fun q h => by omega)
    exact ⟨_, c, q1, fun i hi => hq i (by omega), q2⟩
  | succ d ih =>
    intro nf k μ hs hL hd hk hq
    obtain ⟨nf, rfl⟩ : ∃ q, nf = q + 1 := ⟨nf - 1, by omega⟩
    rw [s_X4_findPotentials_6, if_neg (by rw [hs, hV.1, nle (by omega) (by omega)]; omega), mul7, if_pos (ib_ok (by omega) (by omega)), if_pos (ib_ok (by omega) (by omega)), if_pos (ib_ok (by omega) (by omega)), ncl (show 7 * k < 1000000 by omega), ncl (show k < 1000000 by omega), nsucc]
    have e0 : μ.2.2.1.1 (7 * k) = cst t k 0 := hL.2 k 0 (by omega) (by omega)
    have w0 := hL.wth hn (i := k) (j := 0) (by omega) (by omega)
    obtain ⟨r, c, q1, q2, q3⟩ := ih nf (k + 1) (wq μ (upd μ.2.2.1.2.2.2.2.2.2.2.2.2.1 k (μ.2.2.1.2.2.2.2.1 - (μ.2.2.1.2.1 (7 * k) - μ.2.2.1.1 (7 * k)))) μ.2.2.1.2.2.2.2.2.2.2.2.2.2) hs (hL.rc _ _) (by omega) (by omega) (fun i hi => by
      show PRi t n _ i (upd _ _ _ i)
      by_cases h : i = k
      · subst h; rw [upd_same, e0]; exact ⟨_, w0, rfl⟩
      · rw [upd_ne h]; exact hq i (by omega))
    exact ⟨r, c, q1, q2, q3⟩
theorem m_findPotentials {μ : zM} {n m : Nat} (hV : Vt μ.1 n m) : ∃ L : zL, s_X4_findPotentials μ = some (wl μ L) ∧ LKt μ.1 n L ∧ POT μ.1 n L.2.2.2.2.2.2.2.2.2.1 L.2.2.2.2.2.2.2.2.2.2 := by
  have hn := hV.2.2.2.2.1
  obtain ⟨L, g1, g2⟩ := e_look_ hV
  obtain ⟨r, c, q1, q2, q3⟩ := mpot_rows hV n FU 0 (wl μ L) rfl g2 (by unfold FU; omega) (by omega) (fun i h => by omega)
  unfold s_X4_findPotentials
  rw [g1, Option.bind_some]
  exact ⟨_, q1, g2.rc r c, _, (g2.least hn).1, q2, q3⟩
