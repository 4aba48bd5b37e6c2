/-! ===== fits, countWithin ===== -/
def CL (t : zT) (lim : Int32) (k j a b : Nat) : Int := if a < k ∨ (a = k ∧ b < j) then (if cst t a b ≤ lim then 0 else 1) else Cz t a b
theorem fits_inner {t : zT} {n m i : Nat} {lim : Int32} (hV : Vt t n m) (hi : i < n) (k32 : zC → Int32 → Int32 → Option (Sum String Int32 × zC)) : ∀ (d nf j : Nat) (σ : zC), σ.1 = t → d < nf → j + d = n → okC σ.2.2.1 n (CL t lim i j) →
    ∃ σ2, s_X3_fits_45 k32 nf σ lim (nI i) (nI j) = k32 σ2 lim (nI (i + 1)) ∧ keepD σ σ2 ∧ okC σ2.2.2.1 n (CL t lim (i + 1) 0) := by
  have hn := hV.2.2.2.2.1
  intro d
  induction d with
  | zero =>
    intro nf j σ hs hd hj hok
    obtain ⟨nf, rfl⟩ : ∃ q, nf = q + 1 := ⟨nf - 1, by omega⟩
    rw [s_X3_fits_45, if_pos (by rw [hs, hV.1, nle (by omega) (by omega)]; omega), nsucc]
    refine ⟨σ, rfl, ⟨keepC.refl _, rfl, rfl, rfl⟩, hok.congr (fun a b ha hb => ?_)⟩
    unfold CL
    have e : (a < i ∨ (a = i ∧ b < j)) ↔ (a < i + 1 ∨ (a = i + 1 ∧ b < 0)) := by omega
    simp only [e]
  | succ d ih =>
    intro nf j σ hs hd hj hok
    obtain ⟨nf, rfl⟩ : ∃ q, nf = q + 1 := ⟨nf - 1, by omega⟩
    rw [s_X3_fits_45, if_neg (by rw [hs, hV.1, nle (by omega) (by omega)]; omega), hs, e_costOf hV (by omega) (by omega), Option.bind_some, nsucc]
    have go : ∀ v : Int32, v = (if cst t i j ≤ lim then 0 else 1) → ∃ σ2, s_X3_fits_45 k32 nf (t, σ.2.1, (σ.2.2.1.1, upd σ.2.2.1.2.1 (7 * i + j) v, σ.2.2.1.2.2.1, σ.2.2.1.2.2.2.1, σ.2.2.1.2.2.2.2), σ.2.2.2.1, σ.2.2.2.2.1, σ.2.2.2.2.2.1, σ.2.2.2.2.2.2) lim (nI i) (nI (j + 1)) = k32 σ2 lim (nI (i + 1)) ∧ keepD σ σ2 ∧ okC σ2.2.2.1 n (CL t lim (i + 1) 0) := by
      intro v hv
      obtain ⟨σ2, q1, q2, q3⟩ := ih nf (j + 1) (t, σ.2.1, (σ.2.2.1.1, upd σ.2.2.1.2.1 (7 * i + j) v, σ.2.2.1.2.2.1, σ.2.2.1.2.2.2.1, σ.2.2.1.2.2.2.2), σ.2.2.2.1, σ.2.2.2.2.1, σ.2.2.2.2.2.1, σ.2.2.2.2.2.2) rfl (by omega) (by omega) ⟨hok.1, fun a b ha hb => by
        have h1 := hok.2 a b ha hb
        show (upd _ _ _ _).toInt = _ ∧ _
        unfold CL at h1 ⊢
        by_cases hab : a = i ∧ b = j
        · obtain ⟨rfl, rfl⟩ := hab
          rw [upd_same, if_pos (by omega), hv]
          split <;> exact ⟨rfl, by decide, by decide⟩
        · rw [upd_ne (by omega)]
          have e : (a < i ∨ (a = i ∧ b < j + 1)) ↔ (a < i ∨ (a = i ∧ b < j)) := by omega
          simp only [e]
          exact h1⟩
      exact ⟨σ2, q1, ⟨⟨q2.1.1.trans hs.symm, q2.1.2.1, q2.1.2.2⟩, q2.2⟩, q3⟩
    by_cases hz : cst t i j ≤ lim
    · rw [if_pos hz, e_putCost _ (by omega) (by omega), Option.bind_some]
      exact go 0 (by rw [if_pos hz])
    · rw [if_neg hz, e_putCost _ (by omega) (by omega), Option.bind_some]
      exact go 1 (by rw [if_neg hz])
theorem fits_outer {t : zT} {n m : Nat} {lim : Int32} (hV : Vt t n m) : ∀ (d nf i : Nat) (σ : zC), σ.1 = t → d < nf → i + d = n → okC σ.2.2.1 n (CL t lim i 0) →
    ∃ (v : Int32) (σ2 : zC), s_X3_fits_32 nf σ lim (nI i) = some (.inr (if v = 0 then 1 else 0), σ2) ∧ keepD σ σ2 ∧ IsMin (FS (CL t lim n 0) n) v.toInt := by
  have hn := hV.2.2.2.2.1
  intro d
  induction d with
  | zero =>
    intro nf i σ hs hd hj hok
    obtain ⟨nf, rfl⟩ : ∃ q, nf = q + 1 := ⟨nf - 1, by omega⟩
    have : i = n := by omega
    subst this
    obtain ⟨v, s2, q1, q2⟩ := c_min hn hok
    rw [s_X3_fits_32, if_pos (by rw [hs, hV.1]; exact Int32.le_refl _), q1, Option.bind_some]
    refine ⟨v, (σ.1, σ.2.1, s2, σ.2.2.2), ?_, ⟨⟨rfl, rfl, rfl⟩, rfl, rfl, rfl⟩, q2⟩
    show (if v = 0 then _ else _) = _
    by_cases h4 : v = 0
    · rw [if_pos h4, if_pos h4]
    · rw [if_neg h4, if_neg h4]
  | succ d ih =>
    intro nf i σ hs hd hj hok
    obtain ⟨nf, rfl⟩ : ∃ q, nf = q + 1 := ⟨nf - 1, by omega⟩
    rw [s_X3_fits_32, if_neg (by rw [hs, hV.1, nle (by omega) (by omega)]; omega), show s_X3_fits_45 (fun v0 v1 v2 => s_X3_fits_32 nf v0 v1 v2) FU σ lim (nI i) (0 : Int32) = s_X3_fits_45 (fun v0 v1 v2 => s_X3_fits_32 nf v0 v1 v2) FU σ lim (nI i) (nI 0) from rfl]
    obtain ⟨σ2, q1, q2, q3⟩ := fits_inner hV (i := i) (by omega) (fun v0 v1 v2 => s_X3_fits_32 nf v0 v1 v2) n FU 0 σ hs (by unfold FU; omega) (by omega) hok
    obtain ⟨g, σ3, r1, r2, r3⟩ := ih nf (i + 1) σ2 (q2.1.1.trans hs) (by omega) (by omega) q3
    rw [q1]
    exact ⟨g, σ3, r1, q2.trans r2, r3⟩
theorem fits_sums {t : zT} {n m : Nat} {lim : Int32} (hV : Vt t n m) (hl0 : 0 ≤ lim.toInt) {l : List Nat} (hl : l ∈ PL n) : ∀ i, i ≤ n → 0 ≤ fs (CL t lim n 0) l i ∧ (fs (CL t lim n 0) l i = 0 ↔ fd (Cz t) l i ≤ lim.toInt) := by
  have hn := hV.2.2.2.2.1
  intro i
  induction i with
  | zero => intro _; refine ⟨Int.le_refl 0, fun _ => hl0, fun _ => rfl⟩
  | succ i ih =>
    intro hi
    have h2 := ih (by omega)
    have h1 : (CL t lim n 0 i (l.getD i 0) = 0 ∧ Cz t i (l.getD i 0) ≤ lim.toInt) ∨ (CL t lim n 0 i (l.getD i 0) = 1 ∧ ¬ Cz t i (l.getD i 0) ≤ lim.toInt) := by
      unfold CL Cz
      rw [if_pos (by omega)]
      by_cases h : cst t i (l.getD i 0) ≤ lim
      · rw [if_pos h]; rw [zz_le] at h; exact Or.inl ⟨rfl, h⟩
      · rw [if_neg h]; rw [zz_le] at h; exact Or.inr ⟨rfl, h⟩
    rw [fs, fd]
    omega
theorem c_fits {σ : zC} {n m : Nat} {lim : Int32} {nar : Int} (hV : Vt σ.1 n m) (h0 : 0 ≤ lim.toInt) (h1 : lim.toInt ≤ 1000) (hnar : IsMin ((PL n).map (fun l => fd (Cz σ.1) l n)) nar) :
    ∃ σ2, s_X3_fits σ lim = some (.inr (if nar ≤ lim.toInt then 1 else 0), σ2) ∧ keepD σ σ2 := by
  have hn := hV.2.2.2.2.1
  obtain ⟨s1, e1, e2⟩ := e_load2 σ.2.2.1 hV
  obtain ⟨v, σ2, q1, q2, q3⟩ := fits_outer (lim := lim) hV n FU 0 (σ.1, σ.2.1, s1, σ.2.2.2.1, σ.2.2.2.2.1, σ.2.2.2.2.2.1, σ.2.2.2.2.2.2) rfl (by unfold FU; omega) (by omega) (e2.congr (fun a b ha hb => by
    unfold CL
    rw [if_neg (fun h => by omega)]))
  unfold s_X3_fits
  rw [if_neg (by rw [p_neg]; omega), if_pos (by rw [zz_le]; exact h1), e1, Option.bind_some]
  refine ⟨σ2, ?_, q2⟩
  refine Eq.trans q1 ?_
  have e : (v = 0) ↔ nar ≤ lim.toInt := by
    rw [zz_inj]
    show v.toInt = 0 ↔ _
    constructor
    · intro hv
      obtain ⟨l, hl, e⟩ := List.mem_map.mp q3.1
      have h3 := (fits_sums (lim := lim) hV h0 hl n (Nat.le_refl _)).2.mp (by have : fs (CL σ.1 lim n 0) l n = v.toInt := e; omega)
      have h4 := hnar.2 _ (List.mem_map.mpr ⟨l, hl, rfl⟩)
      omega
    · intro hv
      obtain ⟨l, hl, e⟩ := List.mem_map.mp hnar.1
      have e' : fd (Cz σ.1) l n = nar := e
      have h3 := (fits_sums (lim := lim) hV h0 hl n (Nat.le_refl _)).2.mpr (by omega)
      have h4 := q3.2 _ (List.mem_map.mpr ⟨l, hl, rfl⟩)
      obtain ⟨l2, hl2, e2⟩ := List.mem_map.mp q3.1
      have e2' : fs (CL σ.1 lim n 0) l2 n = v.toInt := e2
      have h5 := (fits_sums (lim := lim) hV h0 hl2 n (Nat.le_refl _)).1
      omega
  by_cases hv : v = 0
  · rw [if_pos hv, if_pos (e.mp hv)]
  · rw [if_neg hv, if_neg (fun h => hv (e.mpr h))]
theorem m_fits {μ : zM} {n m : Nat} {lim : Int32} {nar : Int} (hV : Vt μ.1 n m) (h0 : 0 ≤ lim.toInt) (h1 : lim.toInt ≤ 1000) (hnar : IsMin ((PL n).map (fun l => fd (Cz μ.1) l n)) nar) :
    ∃ L, s_X4_fits μ lim = some (if nar ≤ lim.toInt then 1 else 0, wl (wt μ 0) L) ∧ LKt μ.1 n L := by
  have hn := hV.2.2.2.2.1
  obtain ⟨L, g1, g2⟩ := e_look_ (μ := wt μ 0) hV
  unfold s_X4_fits s_X4_fits_18
  rw [e_isIn1 lim 0 1000 0 1000 rfl rfl, Option.bind_some, if_pos (c := inI lim 0 1000) ⟨h0, h1⟩, if_neg one_ne, e_isWrong0, Option.bind_some, if_pos rfl, g1, Option.bind_some]
  refine ⟨L, ?_, g2⟩
  have e := hnar.uniq (g2.nar hn)
  by_cases h : nar ≤ lim.toInt
  · rw [if_pos h, if_neg (by rw [zz_lt]; show ¬ _ < L.2.2.2.2.2.2.2.2.1.toInt; omega)]
  · rw [if_neg h, if_pos (by rw [zz_lt]; show _ < L.2.2.2.2.2.2.2.2.1.toInt; omega)]
theorem PL_minfd (C : Nat → Nat → Int) {n : Nat} (hn : n < 8) : ∃ v, IsMin ((PL n).map (fun l => fd C l n)) v := IsMin_ex (PL_ne hn)
theorem o_fits {σ : zC} {μ : zM} (h : Rel σ μ) (p : Int32) : ∃ z σ2 b μ2, s_X3_fits σ p = some (z, σ2) ∧ s_X4_fits μ p = some (b, μ2) ∧ Rel σ2 μ2 ∧ TH [xA] z b μ2.2.2.2.2 := by
  have h0 := h
  obtain ⟨a1, a2, ⟨n, m, hV, hE⟩, -⟩ := h
  have hn := hV.2.2.2.2.1
  have hM : Vt μ.1 n m := by rw [a1]; exact hV
  by_cases hp : inI p 0 1000
  · obtain ⟨nar, hnar⟩ := PL_minfd (Cz σ.1) hn
    obtain ⟨σ2, q1, q2⟩ := c_fits hV hp.1 hp.2 hnar
    obtain ⟨L, r1, -⟩ := m_fits hM hp.1 hp.2 (by rw [a1]; exact hnar)
    rw [q1, r1]
    exact ⟨_, _, _, _, rfl, rfl, h0.keep q2.1 ⟨rfl, rfl, rfl⟩, TH_0⟩
  · have e1 : s_X3_fits σ p = some (.inl xA, σ) := by
      unfold s_X3_fits
      by_cases h1 : p < 0
      · rw [if_pos h1]
      · rw [if_neg h1, if_neg (by
          intro h2
          rw [zz_le] at h2
          rw [p_neg] at h1
          have e : (1000 : Int32).toInt = 1000 := rfl
          exact hp ⟨by omega, by omega⟩)]
    rw [e1]
    unfold s_X4_fits s_X4_fits_18
    rw [e_isIn1 p 0 1000 0 1000 rfl rfl, Option.bind_some, if_neg hp, if_pos rfl, e_isWrong1 μ (by decide), Option.bind_some, if_neg one_ne]
    exact ⟨_, _, _, _, rfl, rfl, h0.keep (keepC.refl _) ⟨rfl, rfl, rfl⟩, TH_1⟩
/-! counting -/
theorem count4_loop {n : Nat} {C : Nat → Nat → Int} {lim : Int32} (hn : n < 8) (hn1 : 1 ≤ n) : ∀ (R Q : List (List Nat)) (nf : Nat) (μ : zM), R.length < nf → PL n = Q ++ R → μ.1.1 = nI n → okN μ.2.2.1 n C → (∀ l r, R = l :: r → rp μ.2.2.1.2.2.1 l) →
    ∃ p', s_X4_countWithin_44 nf μ lim (nI ((Q.map (fun l => fs C l n)).countP (fun x => decide (x ≤ lim.toInt)))) (nI R.length) = some (nI ((FS C n).countP (fun x => decide (x ≤ lim.toInt))), wp μ p') := by
  intro R
  induction R with
  | nil =>
    intro Q nf μ hf hp hs hC hr
    obtain ⟨nf, rfl⟩ : ∃ q, nf = q + 1 := ⟨nf - 1, by omega⟩
    rw [s_X4_countWithin_44, if_pos (by decide)]
    rw [List.append_nil] at hp
    rw [← hp]
    exact ⟨μ.2.2.1.2.2.1, rfl⟩
  | cons l R ih =>
    intro Q nf μ hf hp hs hC hr
    obtain ⟨nf, rfl⟩ : ∃ q, nf = q + 1 := ⟨nf - 1, by omega⟩
    have hlen : (l :: R).length ≤ 5040 := by
      have h1 := PL_len hn
      have h2 : ∀ n, n < 8 → fact n ≤ 5040 := by decide
      have h3 := h2 n hn
      rw [hp, List.length_append] at h1
      omega
    have hmem : l ∈ PL n := by rw [hp]; exact List.mem_append_right _ List.mem_cons_self
    have hl : ∀ i, i < n → l.getD i 0 < n := fun i hi => ent hn hmem hi
    have hr1 := hr l R rfl
    obtain ⟨S, e1, e2⟩ := e_sum hn hC hr1 hl
    obtain ⟨l2, e6, e7⟩ := PL_next hn hn1 hp
    obtain ⟨p', e8, e9⟩ := e_goOn hn hn1 (μ := μ) (l := l) (l2 := l2) hr1 e6
    rw [List.length_cons, s_X4_countWithin_44, if_neg (by rw [n0, nle (by simp at hlen; omega) (by omega)]; omega), hs, e1, Option.bind_some, e8, Option.bind_some, npred (by omega), Nat.add_sub_cancel]
    obtain ⟨p2, q1⟩ := ih (Q ++ [l]) nf (wp μ p') (by simp at hf; omega) (by rw [hp, List.append_assoc]; rfl) hs hC (fun l r h => by rw [e7 l r h] at e9; exact e9)
    refine ⟨p2, ?_⟩
    rw [← show s_X4_countWithin_44 nf (wp μ p') lim _ _ = _ from q1, List.map_append, List.countP_append, List.map_cons, List.map_nil]
    by_cases hlt : lim < S
    · rw [if_pos hlt]
      rw [zz_lt, e2] at hlt
      rw [List.countP_cons_of_neg (by simp; omega), List.countP_nil, n0, nI_add]
    · rw [if_neg hlt]
      rw [zz_lt, e2] at hlt
      rw [List.countP_cons_of_pos (by simp; omega), List.countP_nil, n1, nI_add, Nat.zero_add, Option.bind_some]
theorem o_countWithin {σ : zC} {μ : zM} (h : Rel σ μ) (p : Int32) : ∃ z σ2 b μ2, s_X3_countWithin σ p = some (z, σ2) ∧ s_X4_countWithin μ p = some (b, μ2) ∧ Rel σ2 μ2 ∧ TH [xA] z b μ2.2.2.2.2 := by
  have h0 := h
  obtain ⟨a1, a2, ⟨n, m, hV, hE⟩, -⟩ := h
  have hn := hV.2.2.2.2.1
  have := hV.2.2.1
  have := hV.2.2.2.1
  have hM : Vt μ.1 n m := by rw [a1]; exact hV
  unfold s_X4_countWithin s_X4_countWithin_18
  rw [e_isIn1 p 0 7000 0 7000 rfl rfl, Option.bind_some]
  by_cases hp : inI p 0 7000
  · have e7 : (7000 : Int32).toInt = 7000 := rfl
    obtain ⟨f, r1, r2⟩ := e_take (μ := wt μ 0) hM
    obtain ⟨p1, r3, r4⟩ := e_begin (wk (wt μ 0) f)
    rw [if_pos hp, if_neg one_ne, e_isWrong0, Option.bind_some, if_pos rfl, r1, Option.bind_some, r3, Option.bind_some, show (wp (wk (wt μ 0) f) p1).1.1 = nI n from hM.1, e_factorial4 n hn, Option.bind_some, ← PL_len hn]
    have hf5 : (PL n).length < FU := by
      rw [PL_len hn]
      have h2 : ∀ n, n < 8 → fact n ≤ 5040 := by decide
      have := h2 n hn
      unfold FU; omega
    obtain ⟨p2, r5⟩ := count4_loop (C := Cz σ.1) (lim := p) hn (by omega) (PL n) [] FU (wp (wk (wt μ 0) f) p1) hf5 rfl hM.1 (by
      have := okN_of hM (L := (f, (wt μ 0).2.2.1.2)) r2
      rw [a1] at this
      exact this) (fun l r h => by
      have h1 := PL_head n hn (by omega)
      rw [h] at h1
      rw [Option.some.inj h1]
      exact r4)
    rw [show s_X4_countWithin_44 FU (wp (wk (wt μ 0) f) p1) p (0 : Int32) (nI (PL n).length) = _ from r5]
    obtain ⟨s1, e1, e2⟩ := e_load2 σ.2.2.1 hV
    obtain ⟨le, wa, e3, e4⟩ := e_leastSum hn e2
    obtain ⟨ga, e5, e6⟩ := e_greatestSum (s := (s1.1, s1.2.1, le, wa, s1.2.2.2.2)) hn e2
    have ec := e_countFrom (s := (s1.1, s1.2.1, le, wa, ga)) hn e2 e4 e6 n 12 0 p (by omega) (two_pos n) (by rw [pop_zero]; omega) (by have := hp.1; omega) (by have := hp.2; omega)
    rw [pop_zero, link_ss] at ec
    unfold s_X3_countWithin
    rw [if_neg (by rw [p_neg]; have := hp.1; omega), if_pos (by rw [zz_le, e7]; exact hp.2), e1, Option.bind_some, e3, Option.bind_some, e5, Option.bind_some]
    have ec2 : s_X0_countFrom 12 (s1.1, s1.2.1, le, wa, ga) (0 : Int32) (0 : Int32) p = _ := ec
    refine ⟨.inr (nI ((FS (Cz σ.1) n).countP (fun x => decide (x ≤ p.toInt)))), (σ.1, σ.2.1, (s1.1, s1.2.1, le, wa, ga), σ.2.2.2), _, _, ?_, rfl, h0.keep ⟨rfl, rfl, rfl⟩ ⟨rfl, rfl, rfl⟩, TH_0⟩
    refine (congrArg (fun (o : Option Int32) => o.bind fun z6 => some ((Sum.inr z6 : Sum String Int32), (σ.1, σ.2.1, (s1.1, s1.2.1, le, wa, ga), σ.2.2.2))) ec2).trans ?_
    rfl
  · have e1 : s_X3_countWithin σ p = some (.inl xA, σ) := by
      unfold s_X3_countWithin
      by_cases h1 : p < 0
      · rw [if_pos h1]
      · rw [if_neg h1, if_neg (by
          intro h2
          rw [zz_le] at h2
          rw [p_neg] at h1
          have e : (7000 : Int32).toInt = 7000 := rfl
          exact hp ⟨by omega, by omega⟩)]
    rw [e1, if_neg hp, if_pos rfl, e_isWrong1 μ (by decide), Option.bind_some, if_neg one_ne]
    exact ⟨_, _, _, _, rfl, rfl, h0.keep (keepC.refl _) ⟨rfl, rfl, rfl⟩, TH_1⟩
