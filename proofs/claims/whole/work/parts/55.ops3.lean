/-! ===== secondBest, maximum, fits, countWithin ===== -/
theorem second_loop {n m : Nat} {f : List Nat} {t : zT} (hf : f ∈ PL n) (h2 : 2 ≤ n) (hV : Vt t n m) : ∀ (d nf k : Nat) (x : Int32) (σ : zC), σ.1 = t → (∀ i, i < n → σ.2.2.2.2.2.1 i = nI (f.getD i 0)) → d < nf → k + d = n →
    ((x = 100000 ∧ ∀ l, l ∈ PL n → ¬ ∃ r, r < k ∧ l.getD r 0 ≠ f.getD r 0) ∨ MinOn (PL n) (fun l => ∃ r, r < k ∧ l.getD r 0 ≠ f.getD r 0) (fun l => fs (Cz t) l n) x.toInt) →
    ∃ v σ2, s_X3_secondBest_22 nf σ x (nI k) = some (v, σ2) ∧ keepD σ σ2 ∧ MinOn (PL n) (fun l => l ≠ f) (fun l => fs (Cz t) l n) v.toInt := by
  have hn := hV.2.2.2.2.1
  intro d
  induction d with
  | zero =>
    intro nf k x σ hs hfo hd hk hx
    obtain ⟨nf, rfl⟩ : ∃ q, nf = q + 1 := ⟨nf - 1, by omega⟩
    rw [s_X3_secondBest_22, if_pos (by rw [hs, hV.1, nle (by omega) (by omega)]; omega)]
    refine ⟨x, σ, rfl, ⟨keepC.refl _, rfl, rfl, rfl⟩, ?_⟩
    have heq : ∀ l, l ∈ PL n → ((∃ r, r < k ∧ l.getD r 0 ≠ f.getD r 0) ↔ l ≠ f) := by
      intro l hl
      constructor
      · rintro ⟨r, -, hr⟩ rfl
        exact hr rfl
      · intro h
        refine Classical.byContradiction (fun hno => h (PL_ext hl hf (fun r hr => ?_)))
        refine Classical.byContradiction (fun hne => hno ⟨r, by omega, hne⟩)
    rcases hx with ⟨-, hx⟩ | hx
    · obtain ⟨l, hl, e⟩ := used hn (i := 0) (by omega) (j := if f.getD 0 0 = 0 then 1 else 0) (by split <;> omega)
      exact absurd ⟨0, by omega, by rw [e]; split <;> omega⟩ (hx l hl)
    · exact hx.congr heq
  | succ d ih =>
    intro nf k x σ hs hfo hd hk hx
    obtain ⟨nf, rfl⟩ : ∃ q, nf = q + 1 := ⟨nf - 1, by omega⟩
    have hfk : f.getD k 0 < n := ent hn hf (by omega)
    obtain ⟨w, σ2, q1, q2, q3⟩ := c_leastWithCost (σ := σ) (n := n) (m := m) (i := k) (j := f.getD k 0) (v := 100000) (by rw [hs]; exact hV) (by omega) hfk (by decide)
    rw [hs] at q2
    have hw := without_min hV (i := k) (by omega) hfk h2 q2
    rw [s_X3_secondBest_22, if_neg (by rw [hs, hV.1, nle (by omega) (by omega)]; omega), if_pos (ib_ok (by omega) (by omega)), ncl (by omega), hfo k (by omega), q1, Option.bind_some, nsucc]
    have hor : ∀ l, l ∈ PL n → (((∃ r, r < k ∧ l.getD r 0 ≠ f.getD r 0) ∨ l.getD k 0 ≠ f.getD k 0) ↔ ∃ r, r < k + 1 ∧ l.getD r 0 ≠ f.getD r 0) := by
      intro l _
      constructor
      · rintro (⟨r, h1, h2⟩ | h)
        · exact ⟨r, by omega, h2⟩
        · exact ⟨k, by omega, h⟩
      · rintro ⟨r, h1, h2⟩
        by_cases hr : r = k
        · exact Or.inr (by rw [← hr]; exact h2)
        · exact Or.inl ⟨r, by omega, h2⟩
    have go : ∀ x' : Int32, MinOn (PL n) (fun l => ∃ r, r < k + 1 ∧ l.getD r 0 ≠ f.getD r 0) (fun l => fs (Cz t) l n) x'.toInt → ∃ v σ3, s_X3_secondBest_22 nf σ2 x' (nI (k + 1)) = some (v, σ3) ∧ keepD σ σ3 ∧ MinOn (PL n) (fun l => l ≠ f) (fun l => fs (Cz t) l n) v.toInt := by
      intro x' hx'
      obtain ⟨v, σ3, r1, r2, r3⟩ := ih nf (k + 1) x' σ2 (q3.1.1.trans hs) (fun i hi => by rw [q3.2.2.2]; exact hfo i hi) (by omega) (by omega) (Or.inr hx')
      exact ⟨v, σ3, r1, q3.trans r2, r3⟩
    obtain ⟨⟨l0, hl0, -, el0⟩, -⟩ := hw
    have hw := without_min hV (i := k) (by omega) hfk h2 q2
    have el1 : fs (Cz t) l0 n = w.toInt := el0
    have hb := t_sum hV hl0
    show ∃ v σ3, s_X3_secondBest_22 nf σ2 (if w < x then w else x) _ = _ ∧ _
    rcases hx with ⟨h1, hx⟩ | hx
    · rw [if_pos (by rw [h1, zz_lt, big_t]; omega)]
      exact go w ((MinOn.one hx hw).congr hor)
    · by_cases hlt : w < x
      · rw [if_pos hlt]
        rw [zz_lt] at hlt
        exact go w ((hx.or_ge hw (by omega)).congr hor)
      · rw [if_neg hlt]
        rw [zz_lt] at hlt
        exact go x ((hx.or_le hw (by omega)).congr hor)
theorem o_secondBest {σ : zC} {μ : zM} (h : Rel σ μ) : ∃ v σ2 μ2, s_X3_secondBest σ = some (v, σ2) ∧ s_X4_secondBest μ = some (v, μ2) ∧ Rel σ2 μ2 := by
  have h0 := h
  obtain ⟨a1, a2, ⟨n, m, hV, hE⟩, -⟩ := h
  have hn := hV.2.2.2.2.1
  have h1m := hV.2.2.1
  have hmn := hV.2.2.2.1
  obtain ⟨L, g1, g2⟩ := e_look_ (μ := μ) (by rw [a1]; exact hV)
  rw [a1] at g2
  unfold s_X4_secondBest s_X3_secondBest
  rw [g1, Option.bind_some]
  by_cases h1 : n = 1
  · have e1 : (wl μ L).1.1 = 1 := by
      show μ.1.1 = 1
      rw [a1, hV.1, h1]; rfl
    rw [if_pos e1, if_pos (by rw [hV.1, h1]; rfl)]
    exact ⟨_, _, _, rfl, rfl, h0.keep (keepC.refl _) ⟨rfl, rfl, rfl⟩⟩
  · have e1 : ¬ (wl μ L).1.1 = 1 := by
      show ¬ μ.1.1 = 1
      rw [a1, hV.1, n1, neq (by omega) (by omega)]
      exact h1
    rw [if_neg e1, if_neg (by rw [hV.1, n1, neq (by omega) (by omega)]; exact h1)]
    obtain ⟨σ2, f, q1, q2, q3, q4, -⟩ := c_findFirst hV
    rw [q1, Option.bind_some]
    obtain ⟨v, σ3, r1, r2, r3⟩ := second_loop (t := σ.1) q2.1 (by omega) hV n FU 0 100000 σ2 q4.1 q3 (by unfold FU; omega) (by omega) (Or.inl ⟨rfl, fun l _ ⟨r, h, _⟩ => by omega⟩)
    rw [show (0 : Int32) = nI 0 from rfl, r1]
    refine ⟨v, σ3, wl μ L, rfl, ?_, h0.keep (q4.trans r2.1) ⟨rfl, rfl, rfl⟩⟩
    obtain ⟨-, -, g, s1, -, s3⟩ := g2.least hn
    rw [s1.uniq q2] at s3
    have hv : MinOn (PL n) (fun l => l ≠ f) (fun l => fs (Cz σ.1) l n) L.2.2.2.2.2.2.1.toInt := by
      rcases s3 with ⟨s3, -⟩ | s3
      · obtain ⟨⟨l, hl, hlf, -⟩, -⟩ := r3
        have : l ∈ (PL n).filter (fun l => decide (l ≠ f)) := List.mem_filter.mpr ⟨hl, decide_eq_true hlf⟩
        rw [s3] at this
        exact nomatch this
      · exact (MinOn.of s3).congr (fun l _ => by simp)
    rw [zz_inj.mpr (r3.uniq hv)]
/-! the greatest sum of allowed assignments -/
def CB (t : zT) (k j a b : Nat) : Int := if nI b < t.2.1 ∧ ¬ t.2.2.2 (7 * a + b) = 0 ∧ (a < k ∨ (a = k ∧ b < j)) then -100000 else Cz t a b
theorem okC.congr {s : zS} {n : Nat} {C C' : Nat → Nat → Int} (h : okC s n C) (e : ∀ a b, a < n → b < n → C a b = C' a b) : okC s n C' := by
  refine ⟨h.1, fun a b ha hb => ?_⟩
  rw [← e a b ha hb]
  exact h.2 a b ha hb
theorem max_inner {t : zT} {n m i : Nat} (hV : Vt t n m) (hi : i < n) (k13 : zC → Int32 → Option (Int32 × zC)) : ∀ (d nf j : Nat) (σ : zC), σ.1 = t → d < nf → j + d = m → okC σ.2.2.1 n (CB t i j) →
    ∃ σ2, s_X3_maximum_26 k13 nf σ (nI i) (nI j) = k13 σ2 (nI (i + 1)) ∧ keepD σ σ2 ∧ okC σ2.2.2.1 n (CB t (i + 1) 0) := by
  have hn := hV.2.2.2.2.1
  have hmn := hV.2.2.2.1
  intro d
  induction d with
  | zero =>
    intro nf j σ hs hd hj hok
    obtain ⟨nf, rfl⟩ : ∃ q, nf = q + 1 := ⟨nf - 1, by omega⟩
    rw [s_X3_maximum_26, if_pos (by rw [hs, hV.2.1, nle (by omega) (by omega)]; omega), nsucc]
    refine ⟨σ, rfl, ⟨keepC.refl _, rfl, rfl, rfl⟩, hok.congr (fun a b ha hb => ?_)⟩
    unfold CB
    have e : (nI b < t.2.1 ∧ ¬ t.2.2.2 (7 * a + b) = 0 ∧ (a < i ∨ (a = i ∧ b < j))) ↔ (nI b < t.2.1 ∧ ¬ t.2.2.2 (7 * a + b) = 0 ∧ (a < i + 1 ∨ (a = i + 1 ∧ b < 0))) := by
      constructor
      · rintro ⟨h1, h2, h3⟩; exact ⟨h1, h2, by omega⟩
      · rintro ⟨h1, h2, h3⟩
        refine ⟨h1, h2, ?_⟩
        rw [hV.2.1, nlt (by omega) (by omega)] at h1
        omega
    simp only [e]
  | succ d ih =>
    intro nf j σ hs hd hj hok
    obtain ⟨nf, rfl⟩ : ∃ q, nf = q + 1 := ⟨nf - 1, by omega⟩
    rw [s_X3_maximum_26, if_neg (by rw [hs, hV.2.1, nle (by omega) (by omega)]; omega), hs, e_isForbidden hV (by omega) (by omega), Option.bind_some, nsucc]
    by_cases hz : t.2.2.2 (7 * i + j) = 0
    · rw [if_pos hz]
      refine ih nf (j + 1) σ hs (by omega) (by omega) (hok.congr (fun a b ha hb => ?_))
      unfold CB
      have e : (nI b < t.2.1 ∧ ¬ t.2.2.2 (7 * a + b) = 0 ∧ (a < i ∨ (a = i ∧ b < j))) ↔ (nI b < t.2.1 ∧ ¬ t.2.2.2 (7 * a + b) = 0 ∧ (a < i ∨ (a = i ∧ b < j + 1))) := by
        constructor
        · rintro ⟨h1, h2, h3⟩; exact ⟨h1, h2, by omega⟩
        · rintro ⟨h1, h2, h3⟩
          refine ⟨h1, h2, ?_⟩
          by_cases hab : a = i ∧ b = j
          · obtain ⟨rfl, rfl⟩ := hab
            exact absurd hz h2
          · omega
      simp only [e]
    · rw [if_neg hz, e_putCost _ (by omega) (by omega), Option.bind_some]
      obtain ⟨σ2, q1, q2, q3⟩ := ih nf (j + 1) (t, σ.2.1, (σ.2.2.1.1, upd σ.2.2.1.2.1 (7 * i + j) (-100000), σ.2.2.1.2.2.1, σ.2.2.1.2.2.2.1, σ.2.2.1.2.2.2.2), σ.2.2.2.1, σ.2.2.2.2.1, σ.2.2.2.2.2.1, σ.2.2.2.2.2.2) rfl (by omega) (by omega) ⟨hok.1, fun a b ha hb => by
        have h1 := hok.2 a b ha hb
        show (upd _ _ _ _).toInt = _ ∧ _
        unfold CB at h1 ⊢
        by_cases hab : a = i ∧ b = j
        · obtain ⟨rfl, rfl⟩ := hab
          rw [upd_same, if_pos ⟨by rw [hV.2.1, nlt (by omega) (by omega)]; omega, hz, by omega⟩]
          exact ⟨rfl, by decide, by decide⟩
        · rw [upd_ne (by omega)]
          have e : (nI b < t.2.1 ∧ ¬ t.2.2.2 (7 * a + b) = 0 ∧ (a < i ∨ (a = i ∧ b < j + 1))) ↔ (nI b < t.2.1 ∧ ¬ t.2.2.2 (7 * a + b) = 0 ∧ (a < i ∨ (a = i ∧ b < j))) := by
            constructor
            · rintro ⟨h1, h2, h3⟩; exact ⟨h1, h2, by omega⟩
            · rintro ⟨h1, h2, h3⟩; exact ⟨h1, h2, by omega⟩
          simp only [e]
          exact h1⟩
      refine ⟨σ2, q1, ⟨⟨q2.1.1.trans hs.symm, q2.1.2.1, q2.1.2.2⟩, q2.2⟩, q3⟩
theorem max_outer {t : zT} {n m : Nat} (hV : Vt t n m) : ∀ (d nf i : Nat) (σ : zC), σ.1 = t → d < nf → i + d = n → okC σ.2.2.1 n (CB t i 0) →
    ∃ g σ2, s_X3_maximum_13 nf σ (nI i) = some (if 0 ≤ g then g else -1, σ2) ∧ keepD σ σ2 ∧ IsMax (FS (CB t n 0) n) (Int32.toInt g) := by
  have hn := hV.2.2.2.2.1
  have hmn := hV.2.2.2.1
  intro d
  induction d with
  | zero =>
    intro nf i σ hs hd hj hok
    obtain ⟨nf, rfl⟩ : ∃ q, nf = q + 1 := ⟨nf - 1, by omega⟩
    have : i = n := by omega
    subst this
    obtain ⟨ga, q1, q2⟩ := e_greatestSum hn hok
    rw [s_X3_maximum_13, if_pos (by rw [hs, hV.1]; exact Int32.le_refl _), q1, Option.bind_some]
    have h3 := okG0 (q2 0 (two_pos i))
    show ∃ g σ2, (if 0 ≤ ga 0 then _ else _) = some _ ∧ _
    by_cases h4 : 0 ≤ ga 0
    · rw [if_pos h4]
      exact ⟨ga 0, (σ.1, σ.2.1, (σ.2.2.1.1, σ.2.2.1.2.1, σ.2.2.1.2.2.1, σ.2.2.1.2.2.2.1, ga), σ.2.2.2), by rw [if_pos h4], ⟨⟨rfl, rfl, rfl⟩, rfl, rfl, rfl⟩, h3⟩
    · rw [if_neg h4]
      exact ⟨ga 0, (σ.1, σ.2.1, (σ.2.2.1.1, σ.2.2.1.2.1, σ.2.2.1.2.2.1, σ.2.2.1.2.2.2.1, ga), σ.2.2.2), by rw [if_neg h4], ⟨⟨rfl, rfl, rfl⟩, rfl, rfl, rfl⟩, h3⟩
  | succ d ih =>
    intro nf i σ hs hd hj hok
    obtain ⟨nf, rfl⟩ : ∃ q, nf = q + 1 := ⟨nf - 1, by omega⟩
    rw [s_X3_maximum_13, if_neg (by rw [hs, hV.1, nle (by omega) (by omega)]; omega), show (0 : Int32) = nI 0 from rfl]
    obtain ⟨σ2, q1, q2, q3⟩ := max_inner hV (i := i) (by omega) (fun v0 v1 => s_X3_maximum_13 nf v0 v1) m FU 0 σ hs (by unfold FU; omega) (by omega) hok
    obtain ⟨g, σ3, r1, r2, r3⟩ := ih nf (i + 1) σ2 (q2.1.1.trans hs) (by omega) (by omega) q3
    rw [q1]
    exact ⟨g, σ3, r1, q2.trans r2, r3⟩
theorem cell_cases {t : zT} {n m : Nat} (hV : Vt t n m) {a b : Nat} (ha : a < n) (hb : b < n) : (CB t n 0 a b = Cz t a b ∧ 0 ≤ Cz t a b ∧ Cz t a b ≤ 99) ∨ (CB t n 0 a b = -100000 ∧ Cz t a b = 1000) := by
  have hn := hV.2.2.2.2.1
  unfold CB Cz cst
  by_cases h1 : nI b < t.2.1
  · rw [if_pos h1]
    by_cases h2 : t.2.2.2 (7 * a + b) = 0
    · rw [if_pos h2, if_neg (fun h => h.2.1 h2)]
      obtain ⟨v, hv, e⟩ := hV.2.2.2.2.2.1 (7 * a + b) (by omega)
      rw [e, nT (by omega)]
      exact Or.inl ⟨rfl, by omega, by omega⟩
    · rw [if_neg h2, if_pos ⟨h1, h2, Or.inl ha⟩]
      exact Or.inr ⟨rfl, rfl⟩
  · rw [if_neg h1, if_neg (fun h => h1 h.1)]
    exact Or.inl ⟨rfl, by decide, by decide⟩
theorem max_sums {t : zT} {n m : Nat} (hV : Vt t n m) {l : List Nat} (hl : l ∈ PL n) : ∀ i, i ≤ n → (fs (CB t n 0) l i = fs (Cz t) l i ∧ 0 ≤ fs (Cz t) l i ∧ fs (Cz t) l i ≤ 99 * i) ∨ (fs (CB t n 0) l i ≤ -100000 + 99 * i ∧ 1000 ≤ fs (Cz t) l i) := by
  have hn := hV.2.2.2.2.1
  intro i
  induction i with
  | zero => intro _; left; simp [fs]
  | succ i ih =>
    intro hi
    have h1 := cell_cases hV (a := i) (by omega) (ent hn hl (i := i) (by omega))
    have h2 := ih (by omega)
    rw [fs, fs]
    omega
theorem o_maximum {σ : zC} {μ : zM} (h : Rel σ μ) : ∃ v σ2 μ2, s_X3_maximum σ = some (v, σ2) ∧ s_X4_maximum μ = some (v, μ2) ∧ Rel σ2 μ2 := by
  have h0 := h
  obtain ⟨a1, a2, ⟨n, m, hV, hE⟩, -⟩ := h
  have hn := hV.2.2.2.2.1
  obtain ⟨L, g1, g2⟩ := e_look_ (μ := μ) (by rw [a1]; exact hV)
  rw [a1] at g2
  obtain ⟨s1, e1, e2⟩ := e_load2 σ.2.2.1 hV
  obtain ⟨g, σ2, q1, q2, q3⟩ := max_outer hV n FU 0 (σ.1, σ.2.1, s1, σ.2.2.2.1, σ.2.2.2.2.1, σ.2.2.2.2.2.1, σ.2.2.2.2.2.2) rfl (by unfold FU; omega) (by omega) (e2.congr (fun a b ha hb => by
    unfold CB
    rw [if_neg (fun h => by omega)]))
  unfold s_X4_maximum s_X3_maximum
  rw [g1, Option.bind_some, e1, Option.bind_some, show (0 : Int32) = nI 0 from rfl, q1]
  refine ⟨(if 0 ≤ g then g else -1), σ2, wl μ L, rfl, ?_, h0.keep q2.1 ⟨rfl, rfl, rfl⟩⟩
  have h7 : ∀ l, l ∈ PL n → _ := fun l hl => max_sums hV hl n (Nat.le_refl _)
  have e := max_block (F := fun l => fs (CB σ.1 n 0) l n) (G := fun l => fs (Cz σ.1) l n) (P := fun l => decide (fs (Cz σ.1) l n < 1000)) (L := PL n) (fun l hl hP => by
    have h1 := h7 l hl
    have h2 : fs (Cz σ.1) l n < 1000 := of_decide_eq_true hP
    show fs (CB σ.1 n 0) l n = fs (Cz σ.1) l n ∧ _
    omega) (fun l hl hP => by
    have h1 := h7 l hl
    have h2 : ¬ fs (Cz σ.1) l n < 1000 := of_decide_eq_false hP
    show fs (CB σ.1 n 0) l n < 0
    omega) q3 (y := L.2.2.2.2.2.2.2.1.toInt) (by
    rcases g2.1.2.2.1 with ⟨k1, k2⟩ | k1
    · exact Or.inl ⟨k1, by rw [k2]; rfl⟩
    · exact Or.inr k1)
  have e3 : (if 0 ≤ g then g else -1) = L.2.2.2.2.2.2.2.1 := by
    rw [zz_inj, ← e]
    by_cases h4 : 0 ≤ g.toInt
    · rw [if_pos h4, if_pos (by rw [zz_le]; exact h4)]
    · rw [if_neg h4, if_neg (by rw [zz_le]; exact h4)]; rfl
  show some ((wl μ L).2.2.1.2.2.2.2.2.2.2.1, wl μ L) = _
  rw [e3]
