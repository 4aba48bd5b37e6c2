/-! ===== more calls, both sides ===== -/
def MinOn (L : List (List Nat)) (P : List Nat → Prop) (F : List Nat → Int) (v : Int) : Prop := (∃ l, l ∈ L ∧ P l ∧ F l = v) ∧ ∀ l, l ∈ L → P l → v ≤ F l
theorem MinOn.of {L : List (List Nat)} {p : List Nat → Bool} {F : List Nat → Int} {v : Int} (h : IsMin ((L.filter p).map F) v) : MinOn L (fun l => p l = true) F v := by
  obtain ⟨h1, h2⟩ := h
  obtain ⟨l, hl, e⟩ := List.mem_map.mp h1
  obtain ⟨g1, g2⟩ := List.mem_filter.mp hl
  exact ⟨⟨l, g1, g2, e⟩, fun l hl hp => h2 _ (List.mem_map.mpr ⟨l, List.mem_filter.mpr ⟨hl, hp⟩, rfl⟩)⟩
theorem MinOn.congr {L : List (List Nat)} {P Q : List Nat → Prop} {F : List Nat → Int} {v : Int} (h : MinOn L P F v) (e : ∀ l, l ∈ L → (P l ↔ Q l)) : MinOn L Q F v := by
  obtain ⟨⟨l, h1, h2, h3⟩, h4⟩ := h
  exact ⟨⟨l, h1, (e l h1).mp h2, h3⟩, fun l hl hq => h4 l hl ((e l hl).mpr hq)⟩
theorem MinOn.uniq {L : List (List Nat)} {P : List Nat → Prop} {F : List Nat → Int} {v w : Int} (h : MinOn L P F v) (h2 : MinOn L P F w) : v = w := by
  obtain ⟨⟨l, a1, a2, a3⟩, a4⟩ := h
  obtain ⟨⟨l', b1, b2, b3⟩, b4⟩ := h2
  have := a4 l' b1 b2
  have := b4 l a1 a2
  omega
theorem MinOn.or_le {L : List (List Nat)} {P Q : List Nat → Prop} {F : List Nat → Int} {v w : Int} (h : MinOn L P F v) (h2 : MinOn L Q F w) (hle : v ≤ w) : MinOn L (fun l => P l ∨ Q l) F v := by
  obtain ⟨⟨l, a1, a2, a3⟩, a4⟩ := h
  refine ⟨⟨l, a1, Or.inl a2, a3⟩, fun l hl hpq => ?_⟩
  rcases hpq with h | h
  · exact a4 l hl h
  · have := h2.2 l hl h; omega
theorem MinOn.or_ge {L : List (List Nat)} {P Q : List Nat → Prop} {F : List Nat → Int} {v w : Int} (h : MinOn L P F v) (h2 : MinOn L Q F w) (hle : w ≤ v) : MinOn L (fun l => P l ∨ Q l) F w :=
  (h2.or_le h hle).congr (fun _ _ => Or.comm)
theorem MinOn.one {L : List (List Nat)} {P Q : List Nat → Prop} {F : List Nat → Int} {w : Int} (h : ∀ l, l ∈ L → ¬ P l) (h2 : MinOn L Q F w) : MinOn L (fun l => P l ∨ Q l) F w :=
  h2.congr (fun l hl => ⟨Or.inr, fun h' => h'.elim (fun hp => absurd hp (h l hl)) id⟩)
/-- blocking one cell: the least over the assignments without it -/
theorem without_min {t : zT} {n m i j : Nat} (h : Vt t n m) (hi : i < n) (hj : j < n) (h2 : 2 ≤ n) {x : Int} (hx : IsMin (FS (C1 (Cz t) i j 100000) n) x) : MinOn (PL n) (fun l => l.getD i 0 ≠ j) (fun l => fs (Cz t) l n) x := by
  have hn := h.2.2.2.2.1
  have hne : (PL n).filter (fun l => decide (l.getD i 0 ≠ j)) ≠ [] := by
    obtain ⟨l, hl, e⟩ := used hn hi (j := if j = 0 then 1 else 0) (by split <;> omega)
    intro he
    have : l ∈ (PL n).filter (fun l => decide (l.getD i 0 ≠ j)) := List.mem_filter.mpr ⟨hl, decide_eq_true (by rw [e]; split <;> omega)⟩
    rw [he] at this
    exact nomatch this
  obtain ⟨y, hy⟩ := IsMin_ex (F := fun l => fs (Cz t) l n) hne
  rw [without_eq h hi hj hx hy]
  exact (MinOn.of hy).congr (fun l _ => by simp)
theorem without_loop {t : zT} {n i j : Nat} {μ : zM} (hn : n < 8) (hM : μ.1.1 = nI n) (hi : i < n) (hL : LKt t n μ.2.2.1) : ∀ (d nf k : Nat) (x : Int32), d < nf → k + d = n → ((x = 1000000 ∧ ∀ l, l ∈ PL n → ¬ (l.getD i 0 < k ∧ l.getD i 0 ≠ j)) ∨ MinOn (PL n) (fun l => l.getD i 0 < k ∧ l.getD i 0 ≠ j) (fun l => fs (Cz t) l n) x.toInt) →
    (∀ l, l ∈ PL n → fs (Cz t) l n ≤ 7000) → j < n → 
    ∃ v, s_X4_without_6 nf μ (nI i) (nI j) x (nI k) = some v ∧ ((v = 1000000 ∧ ∀ l, l ∈ PL n → ¬ (l.getD i 0 ≠ j)) ∨ MinOn (PL n) (fun l => l.getD i 0 ≠ j) (fun l => fs (Cz t) l n) v.toInt) := by
  intro d
  induction d with
  | zero =>
    intro nf k x hd hk hx hb hj
    obtain ⟨nf, rfl⟩ : ∃ q, nf = q + 1 := ⟨nf - 1, by omega⟩
    rw [s_X4_without_6, if_pos (by rw [hM, nle (by omega) (by omega)]; omega)]
    refine ⟨x, rfl, ?_⟩
    rcases hx with ⟨h1, h2⟩ | h1
    · exact Or.inl ⟨h1, fun l hl h => h2 l hl ⟨by have := ent hn hl hi; omega, h⟩⟩
    · exact Or.inr (h1.congr (fun l hl => ⟨fun h => h.2, fun h => ⟨by have := ent hn hl hi; omega, h⟩⟩))
  | succ d ih =>
    intro nf k x hd hk hx hb hj
    obtain ⟨nf, rfl⟩ : ∃ q, nf = q + 1 := ⟨nf - 1, by omega⟩
    rw [s_X4_without_6, if_neg (by rw [hM, nle (by omega) (by omega)]; omega)]
    by_cases hkj : k = j
    · rw [if_pos (by rw [hkj]), nsucc]
      refine ih nf (k + 1) x (by omega) (by omega) ?_ hb hj
      rcases hx with ⟨h1, h2⟩ | h1
      · exact Or.inl ⟨h1, fun l hl h => h2 l hl ⟨by omega, h.2⟩⟩
      · exact Or.inr (h1.congr (fun l hl => by omega))
    · have hw := (MinOn.of (hL.wth hn hi (j := k) (by omega))).congr (Q := fun l => l.getD i 0 = k) (fun l _ => by simp)
      obtain ⟨⟨l0, hl0, -, el0⟩, -⟩ := hw
      have hw := (MinOn.of (hL.wth hn hi (j := k) (by omega))).congr (Q := fun l => l.getD i 0 = k) (fun l _ => by simp)
      have hb0 := hb l0 hl0
      have el1 : fs (Cz t) l0 n = (μ.2.2.1.2.1 (7 * i + k)).toInt := el0
      rw [if_neg (by rw [neq (by omega) (by omega)]; exact hkj), cell_eq2, if_pos (ib_ok (by omega) (by omega)), if_pos (ib_ok (by omega) (by omega)), ncl (by omega), nsucc]
      have hor : ∀ l, l ∈ PL n → (((l.getD i 0 < k ∧ l.getD i 0 ≠ j) ∨ l.getD i 0 = k) ↔ (l.getD i 0 < k + 1 ∧ l.getD i 0 ≠ j)) := fun l _ => by omega
      rcases hx with ⟨h1, h2⟩ | h1
      · rw [if_neg (by rw [h1, zz_le, far_t]; omega)]
        exact ih nf (k + 1) _ (by omega) (by omega) (Or.inr ((MinOn.one h2 hw).congr hor)) hb hj
      · by_cases hle : x ≤ μ.2.2.1.2.1 (7 * i + k)
        · rw [if_pos hle]
          rw [zz_le] at hle
          exact ih nf (k + 1) _ (by omega) (by omega) (Or.inr ((h1.or_le hw hle).congr hor)) hb hj
        · rw [if_neg hle]
          rw [zz_le] at hle
          exact ih nf (k + 1) _ (by omega) (by omega) (Or.inr ((h1.or_ge hw (by omega)).congr hor)) hb hj
theorem e_without {t : zT} {n m i j : Nat} {μ : zM} (h : Vt t n m) (hM : μ.1.1 = nI n) (hi : i < n) (hj : j < n) (hL : LKt t n μ.2.2.1) :
    ∃ v, s_X4_without μ (nI i) (nI j) = some v ∧ ((v = 1000000 ∧ ∀ l, l ∈ PL n → ¬ (l.getD i 0 ≠ j)) ∨ MinOn (PL n) (fun l => l.getD i 0 ≠ j) (fun l => fs (Cz t) l n) v.toInt) := by
  have hn := h.2.2.2.2.1
  exact without_loop hn hM hi hL n FU 0 _ (by unfold FU; omega) (by omega) (Or.inl ⟨rfl, fun l _ h => by omega⟩) (fun l hl => (t_sum h hl).2) hj
theorem e_without2 {t : zT} {n m i j : Nat} {μ : zM} (h : Vt t n m) (hM : μ.1.1 = nI n) (hi : i < n) (hj : j < n) (h2 : 2 ≤ n) (hL : LKt t n μ.2.2.1) :
    ∃ v, s_X4_without μ (nI i) (nI j) = some v ∧ MinOn (PL n) (fun l => l.getD i 0 ≠ j) (fun l => fs (Cz t) l n) v.toInt := by
  have hn := h.2.2.2.2.1
  obtain ⟨v, e1, ⟨-, e2⟩ | e2⟩ := e_without h hM hi hj hL
  · obtain ⟨l, hl, e⟩ := used hn hi (j := if j = 0 then 1 else 0) (by split <;> omega)
    exact absurd (by rw [e]; split <;> omega) (e2 l hl)
  · exact ⟨v, e1, e2⟩
theorem big_t : (100000 : Int32).toInt = 100000 := rfl
theorem c_minimumWithout {σ : zC} {n m i j : Nat} (h : Vt σ.1 n m) (hi : i < n) (hj : j < n) (h2 : 2 ≤ n) : ∃ w σ2, s_X3_minimumWithout σ (nI i) (nI j) = some (.inr w, σ2) ∧ MinOn (PL n) (fun l => l.getD i 0 ≠ j) (fun l => fs (Cz σ.1) l n) w.toInt ∧ keepD σ σ2 := by
  have hn := h.2.2.2.2.1
  unfold s_X3_minimumWithout
  rw [e_requireCell h.1 hn, if_pos ⟨⟨by rw [nT (by omega)]; omega, by rw [nT (by omega)]; omega⟩, ⟨by rw [nT (by omega)]; omega, by rw [nT (by omega)]; omega⟩⟩, Option.bind_some]
  show ∃ w σ2, (if σ.1.1 = 1 then _ else _) = some _ ∧ _
  rw [if_neg (by rw [h.1, n1, neq (by omega) (by omega)]; omega)]
  obtain ⟨w, σ2, q1, q2, q3⟩ := c_leastWithCost h hi hj (v := 100000) (by decide)
  rw [q1, Option.bind_some]
  exact ⟨w, σ2, rfl, without_min h hi hj h2 q2, q3⟩
theorem o_minimumWithout {σ : zC} {μ : zM} (h : Rel σ μ) (p q : Int32) : ∃ z σ2 b μ2, s_X3_minimumWithout σ p q = some (z, σ2) ∧ s_X4_minimumWithout μ p q = some (b, μ2) ∧ Rel σ2 μ2 ∧ TH [xO] z b μ2.2.2.2.2 := by
  have h0 := h
  obtain ⟨a1, a2, ⟨n, m, hV, hE⟩, -⟩ := h
  have hn := hV.2.2.2.2.1
  have hM : Vt μ.1 n m := by rw [a1]; exact hV
  unfold s_X4_minimumWithout s_X4_minimumWithout_17 s_X4_minimumWithout_22
  rw [m_cell hM]
  by_cases hp : inN p n ∧ inN q n
  · rw [if_pos hp]
    obtain ⟨i, hi, rfl, -⟩ := inN_n hp.1
    obtain ⟨j, hj, rfl, -⟩ := inN_n hp.2
    obtain ⟨L, g1, g2⟩ := e_look_ (μ := wt μ 0) hM
    rw [e_isWrong0, Option.bind_some, if_pos rfl, g1, Option.bind_some]
    by_cases h1 : n = 1
    · have e1 : (wl (wt μ 0) L).1.1 = 1 := by
        show μ.1.1 = 1
        rw [hM.1, h1]; rfl
      rw [if_pos e1]
      unfold s_X3_minimumWithout
      rw [e_requireCell hV.1 hn, Option.bind_some, if_pos hp]
      show ∃ z σ2 b μ2, (if σ.1.1 = 1 then _ else _) = some (z, σ2) ∧ _
      rw [if_pos (by rw [hV.1, h1]; rfl)]
      exact ⟨_, _, _, _, rfl, rfl, h0.keep (keepC.refl _) ⟨rfl, rfl, rfl⟩, TH_0⟩
    · have e1 : ¬ (wl (wt μ 0) L).1.1 = 1 := by
        show ¬ μ.1.1 = 1
        rw [hM.1, n1, neq (by omega) (by omega)]
        exact h1
      rw [if_neg e1]
      rw [show (wt μ 0).1 = σ.1 from a1] at g2
      obtain ⟨v, r1, r2⟩ := e_without2 (μ := wl (wt μ 0) L) hV hM.1 hi hj (by omega) g2
      obtain ⟨w, σ2, q1, q2, q3⟩ := c_minimumWithout hV hi hj (by omega)
      rw [r1, Option.bind_some, q1]
      refine ⟨_, _, _, _, rfl, rfl, h0.keep q3.1 ⟨rfl, rfl, rfl⟩, ?_⟩
      have e : w = v := zz_inj.mpr (q2.uniq r2)
      rw [e]
      exact TH_0
  · rw [if_neg hp, e_isWrong1 μ (by decide), Option.bind_some, if_neg one_ne]
    unfold s_X3_minimumWithout
    rw [e_requireCell hV.1 hn, Option.bind_some, if_neg hp]
    exact ⟨_, _, _, _, rfl, rfl, h0.keep (keepC.refl _) ⟨rfl, rfl, rfl⟩, TH_1⟩
/-! another cost in one cell -/
theorem e_lookL {μ : zM} {n : Nat} {C : Nat → Nat → Int} (hn : n < 8) (hn1 : 1 ≤ n) (hC : okN μ.2.2.1 n C) : ∃ L2 : zL, s_X4_look μ (nI n) = some (wl μ L2) ∧ IsMin (FS C n) L2.2.2.2.2.1.toInt := by
  obtain ⟨L2, q1, q2, -⟩ := e_look hn hn1 hC
  refine ⟨L2, q1, ?_⟩
  rcases q2.2.2.2 with ⟨h1, -⟩ | ⟨h1, -⟩
  · exact absurd h1 (PL_ne hn)
  · exact h1
theorem ifCost_ok {σ : zC} {μ : zM} {n m i j : Nat} {v : Int32} (hV : Vt σ.1 n m) (a1 : μ.1 = σ.1) (hi : i < n) (hj : j < n) (hv : 0 ≤ v.toInt ∧ v.toInt ≤ 1000) :
    ∃ w σ2 L, s_X3_leastWithCost σ (nI i) (nI j) v = some (w, σ2) ∧ s_X4_minimumIfCost_45 μ (nI i) (nI j) v 0 = some (w, wl (wt μ 0) L) ∧ keepC σ σ2 := by
  have hn := hV.2.2.2.2.1
  have hM : Vt μ.1 n m := by rw [a1]; exact hV
  obtain ⟨w, σ2, q1, q2, q3⟩ := c_leastWithCost hV hi hj (v := v) (by omega)
  obtain ⟨f, r1, r2⟩ := e_take (μ := wt μ 0) hM
  have hok : okN (wk (wt μ 0) (upd f (7 * i + j) v)).2.2.1 n (C1 (Cz σ.1) i j v.toInt) := by
    intro a b ha hb
    show (upd _ _ _ _).toInt = _ ∧ _
    unfold C1
    by_cases hab : a = i ∧ b = j
    · obtain ⟨rfl, rfl⟩ := hab
      rw [upd_same, if_pos ⟨rfl, rfl⟩]
      exact ⟨rfl, hv⟩
    · rw [upd_ne (by omega), if_neg hab, r2 a b ha hb, show (wt μ 0).1 = σ.1 from a1]
      exact ⟨rfl, t_bound hV ha hb⟩
  have := hV.2.2.1
  have := hV.2.2.2.1
  obtain ⟨L2, s1, s2⟩ := e_lookL hn (by omega) hok
  refine ⟨w, σ2, L2, q1, ?_, q3.1⟩
  unfold s_X4_minimumIfCost_45
  rw [e_isWrong0, Option.bind_some, if_pos rfl, r1, Option.bind_some, cell_eq2, if_pos (ib_ok (by omega) (by omega)), ncl (by omega), show (wk (wt μ 0) f).1.1 = nI n from hM.1]
  have e : w = L2.2.2.2.2.1 := zz_inj.mpr (q2.uniq s2)
  refine (congrArg (fun (o : Option zM) => o.bind fun z5 => some (z5.2.2.1.2.2.2.2.1, z5)) s1).trans ?_
  rw [Option.bind_some, e]
theorem ifCost_bad {μ : zM} (p q v : Int32) {k : Int32} (hk : k ≠ 0) : s_X4_minimumIfCost_45 μ p q v k = some (0, wt μ k) := by
  unfold s_X4_minimumIfCost_45
  rw [e_isWrong1 μ hk, Option.bind_some, if_neg one_ne]
theorem o_minimumIfCost {σ : zC} {μ : zM} (h : Rel σ μ) (p q v : Int32) : ∃ z σ2 b μ2, s_X3_minimumIfCost σ p q v = some (z, σ2) ∧ s_X4_minimumIfCost μ p q v = some (b, μ2) ∧ Rel σ2 μ2 ∧ TH [xO, xA] z b μ2.2.2.2.2 := by
  have h0 := h
  obtain ⟨a1, a2, ⟨n, m, hV, hE⟩, -⟩ := h
  have hn := hV.2.2.2.2.1
  have hmn := hV.2.2.2.1
  have hM : Vt μ.1 n m := by rw [a1]; exact hV
  unfold s_X4_minimumIfCost s_X4_minimumIfCost_17 s_X3_minimumIfCost
  rw [m_rcell hM, e_requireRealCell hV.1 hV.2.1 hn (by omega), Option.bind_some]
  by_cases hp : inN p n ∧ inN q m
  · rw [if_pos hp, if_pos hp]
    obtain ⟨i, hi, rfl, -⟩ := inN_n hp.1
    obtain ⟨j, hj, rfl, -⟩ := inN_n hp.2
    rw [e_isIn1 v 0 99 0 99 rfl rfl, Option.bind_some]
    show ∃ z σ2 b μ2, (if v < 0 then _ else _) = some (z, σ2) ∧ _
    have good : (0 ≤ v.toInt ∧ v.toInt ≤ 1000) → ∃ w σ2 L, s_X3_leastWithCost σ (nI i) (nI j) v = some (w, σ2) ∧ s_X4_minimumIfCost_45 μ (nI i) (nI j) v 0 = some (w, wl (wt μ 0) L) ∧ keepC σ σ2 := fun hv => ifCost_ok hV a1 hi (by omega) hv
    by_cases hv : v = 1000
    · obtain ⟨w, σ2, L, r1, r2, r3⟩ := good (by rw [hv]; decide)
      rw [if_neg (by rw [hv]; decide), if_neg (by rw [hv]; decide), if_pos hv, if_neg (c := inI v 0 99) (by rw [hv]; decide), if_pos rfl, if_pos hv, r1, r2, Option.bind_some]
      exact ⟨_, _, _, _, rfl, rfl, h0.keep r3 ⟨rfl, rfl, rfl⟩, TH_0⟩
    · have e99 : (99 : Int32).toInt = 99 := rfl
      by_cases h1 : v < 0
      · rw [if_pos h1, if_neg hv, if_neg (c := inI v 0 99) (by rw [p_neg] at h1; unfold inI; omega), if_pos rfl, if_neg hv, ifCost_bad _ _ _ (by decide)]
        exact ⟨_, _, _, _, rfl, rfl, h0.keep (keepC.refl _) ⟨rfl, rfl, rfl⟩, TH_2⟩
      · rw [if_neg h1]
        by_cases h2 : v ≤ 99
        · rw [p_neg] at h1
          obtain ⟨w, σ2, L, r1, r2, r3⟩ := good (by rw [zz_le, e99] at h2; omega)
          rw [if_pos h2, if_pos (c := inI v 0 99) (by rw [zz_le, e99] at h2; unfold inI; omega), if_neg one_ne, r1, r2, Option.bind_some]
          exact ⟨_, _, _, _, rfl, rfl, h0.keep r3 ⟨rfl, rfl, rfl⟩, TH_0⟩
        · rw [if_neg h2, if_neg hv, if_neg (c := inI v 0 99) (by rw [zz_le, e99] at h2; unfold inI; omega), if_pos rfl, if_neg hv, ifCost_bad _ _ _ (by decide)]
          exact ⟨_, _, _, _, rfl, rfl, h0.keep (keepC.refl _) ⟨rfl, rfl, rfl⟩, TH_2⟩
  · rw [if_neg hp, if_neg hp, ifCost_bad _ _ _ (by decide)]
    exact ⟨_, _, _, _, rfl, rfl, h0.keep (keepC.refl _) ⟨rfl, rfl, rfl⟩, TH_1⟩
