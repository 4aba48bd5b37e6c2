/-! ===== the enumeration's calls ===== -/
theorem o_startEnumeration {σ : zC} {μ : zM} (h : Rel σ μ) : ∃ z σ2 b μ2, s_X3_startEnumeration σ = some (z, σ2) ∧ s_X4_startEnumeration μ = some (b, μ2) ∧ Rel σ2 μ2 ∧ TH [xS] z b μ2.2.2.2.2 := by
  have h0 := h
  obtain ⟨a1, a2, ⟨n, m, hV, hE⟩, hS⟩ := h
  have hn := hV.2.2.2.2.1
  unfold s_X3_startEnumeration s_X4_startEnumeration s_X4_startEnumeration_15
  rw [a1, hV.1, nlit 6]
  by_cases h6 : nI n ≤ nI 6
  · have hn6 : n ≤ 6 := (nle (by omega) (by omega)).mp h6
    obtain ⟨K', k1, k2, k3, k4, k5, k6⟩ := c_begin hV hn6 σ.2.2.2.2.2.2
    rw [if_pos h6, if_pos h6, k1, Option.bind_some, e_isWrong0, Option.bind_some, if_pos rfl]
    show ∃ z σ2 b μ2, _ ∧ ((s_X4_factorial 12 μ.1.1).bind _ = some (b, μ2)) ∧ _
    rw [a1, hV.1, e_factorial4 n hn, Option.bind_some, k5]
    refine ⟨_, _, _, _, rfl, rfl, ⟨rfl, a2, ⟨n, m, hV, Or.inr ⟨k2, hn6, k5, k6, 0, k3, rfl, ?_, Or.inl ⟨rfl, k4, rfl, rfl⟩⟩⟩, hS⟩, TH_0⟩
    show 0 = _
    rw [k4, eq_comm, List.countP_eq_zero]
    intro l hl
    have e : (-1 : Int32).toInt = -1 := rfl
    have hb := t_sum hV hl
    rw [key_kc, e]
    simp only [decide_eq_true_eq]
    omega
  · rw [if_neg h6, if_neg h6, e_isWrong1 μ (by decide), Option.bind_some, if_neg one_ne]
    exact ⟨_, _, _, _, rfl, rfl, h0.bad, TH_1⟩
theorem countP_one {L A B : List (List Nat)} {l0 : List Nat} {p q : List Nat → Bool} (hL : L = A ++ l0 :: B) (hA : ∀ l ∈ A, p l = q l) (hB : ∀ l ∈ B, p l = q l) (hp : p l0 = false) (hq : q l0 = true) : L.countP q = L.countP p + 1 := by
  rw [hL, List.countP_append, List.countP_append, List.countP_cons_of_pos hq, List.countP_cons_of_neg (by rw [hp]; decide), List.countP_congr (p := q) (q := p) (l := A) (fun l hl => by rw [hA l hl]), List.countP_congr (p := q) (q := p) (l := B) (fun l hl => by rw [hB l hl])]
  omega
theorem inc_drop : ∀ (q r : List Nat), inc (q ++ r) = true → inc r = true := by
  intro q
  induction q with
  | nil => intro r h; exact h
  | cons a q ih => intro r h; exact ih r (inc_head _ _ h).2
theorem PL_after {n : Nat} (hn : n < 8) (hn1 : 1 ≤ n) {A B : List (List Nat)} {l : List Nat} (h : PL n = A ++ l :: B) : l ∉ B := by
  intro hl
  have h1 := inc_all n hn hn1
  rw [h, List.map_append, List.map_cons] at h1
  have h2 := (inc_head _ _ (inc_drop _ _ h1)).1 _ (List.mem_map.mpr ⟨l, hl, rfl⟩)
  omega
theorem shr18 {x : Int32} (hx : 0 ≤ x.toInt) : (x >>> ((18 : Int32) &&& 31)).toInt = x.toInt / 262144 := by
  rw [Kit.i32_shr x ((18 : Int32) &&& 31) (k := 18) (by decide)]
  omega
theorem EK.vk {t : zT} {n m : Nat} {K : zK} {E : zE} {st : Nat} (h : (st = 0 ∧ K.2.2.1 = -1 ∧ E.2.1 = -1 ∧ E.2.2.1 = 0) ∨ (0 < st ∧ ∃ p l, (PL n)[p]? = some l ∧ K.2.2.1.toInt = key t n l ∧ E.2.1.toInt = fs (Cz t) l n ∧ E.2.2.1 = nI p ∧ ∀ i, i < n → E.2.2.2 i = nI (l.getD i 0))) (_hV : Vt t n m) : VK t n K.2.2.1.toInt E.2.1 E.2.2.1 := by
  rcases h with ⟨-, h1, h2, h3⟩ | ⟨-, p, l, h1, h2, h3, h4, -⟩
  · exact Or.inl ⟨by rw [h1]; rfl, h2, h3⟩
  · exact Or.inr ⟨p, l, h1, h2, h3, h4⟩
theorem o_nextSum {σ : zC} {μ : zM} (h : Rel σ μ) : ∃ z σ2 b μ2, s_X3_nextSum σ = some (z, σ2) ∧ s_X4_nextSum μ = some (b, μ2) ∧ Rel σ2 μ2 ∧ TH [xS, xN] z b μ2.2.2.2.2 := by
  have h0 := h
  obtain ⟨a1, a2, ⟨n, m, hV, hE⟩, hS⟩ := h
  have hn := hV.2.2.2.2.1
  have h1m := hV.2.2.1
  have hmn := hV.2.2.2.1
  have hM : Vt μ.1 n m := by rw [a1]; exact hV
  unfold s_X3_nextSum s_X4_nextSum
  rcases hE with ⟨k1, k2⟩ | ⟨k1, hn6, k3, k4, st, k5, k6, k7, k8⟩
  · rw [if_pos k1, k2, if_neg (by decide)]
    unfold s_X4_nextSum_31
    rw [e_isWrong1 μ (by decide), Option.bind_some, if_neg one_ne]
    exact ⟨_, _, _, _, rfl, rfl, h0.bad, TH_1⟩
  · have hf : fact n ≤ 720 := by
      have : ∀ n, n ≤ 6 → fact n ≤ 720 := by decide
      exact this n hn6
    have hst : st ≤ fact n := by
      rw [k7, ← PL_len hn]
      exact List.countP_le_length
    have h00 : 0 ≤ nI st := by rw [n0, nle (by omega) (by omega)]; omega
    rw [if_neg (by rw [k1]; exact one_ne), k5, k3, k6, if_pos h00, a1, hV.1, e_factorial4 n hn, Option.bind_some]
    by_cases hlt : st < fact n
    · have hltI : nI st < nI (fact n) := (nlt (by omega) (by omega)).mpr hlt
      have hneI : ¬ nI st = nI (fact n) := by rw [neq (by omega) (by omega)]; omega
      rw [if_pos hltI, if_neg hneI]
      -- a later one is there
      have hex : ∃ l, l ∈ PL n ∧ σ.2.2.2.2.2.2.2.2.1.toInt < key σ.1 n l := by
        refine Classical.byContradiction (fun hno => ?_)
        have : (PL n).countP (fun l => decide (key σ.1 n l ≤ σ.2.2.2.2.2.2.2.2.1.toInt)) = (PL n).length := by
          rw [List.countP_eq_length]
          intro l hl
          refine decide_eq_true (Classical.byContradiction (fun h => hno ⟨l, hl, by omega⟩))
        rw [← k7, PL_len hn] at this
        omega
      obtain ⟨l0, hl0, hlt0⟩ := hex
      have hf5 : (PL n).length < FU := by
        have := PL_len5 hn
        unfold FU; omega
      obtain ⟨y, y1, y2⟩ := adv_loop hV hn6 k3 k4 (PL n) [] FU 2147483647 hf5 rfl (Or.inl ⟨rfl, fun l hl => nomatch hl⟩)
      have y2 : MinOn (PL n) (fun l => σ.2.2.2.2.2.2.2.2.1.toInt < key σ.1 n l) (key σ.1 n) y.toInt := by
        rcases y2 with ⟨-, y2⟩ | y2
        · exact absurd hlt0 (y2 l0 hl0)
        · exact y2
      obtain ⟨f, r1, r2⟩ := e_take (μ := wt μ 0) hM
      obtain ⟨p1, r3, r4⟩ := e_begin (wk (wt μ 0) f)
      obtain ⟨L, b1, b2, cur, q1, q2⟩ := n54_loop (v := σ.2.2.2.2.2.2.2.2.1.toInt) hV hn6 (PL n) [] FU (wp (wk (wt μ 0) f) p1) 1000000 0 hf5 rfl a1 (EK.vk k8 hV) (by
        have := okN_of hM (L := (f, (wt μ 0).2.2.1.2)) r2
        rw [a1] at this
        exact this) (fun l r h => by
        have h1 := PL_head n hn (by omega)
        rw [h] at h1
        rw [Option.some.inj h1]
        exact r4) (Or.inl ⟨rfl, fun l hl => nomatch hl⟩)
      rcases q2 with ⟨-, q2⟩ | ⟨p, l, c1, c2, c3, c4, c5, c6, c7⟩
      · exact absurd hlt0 (q2 l0 hl0)
      have hl : l ∈ PL n := List.mem_of_getElem? c1
      have ey : y.toInt = key σ.1 n l := y2.uniq ⟨⟨l, hl, c3, rfl⟩, c7⟩
      have hb := t_sum hV hl
      have hk := kc_lt hn6 hl
      have eb : y >>> ((18 : Int32) &&& 31) = b1 := by
        rw [zz_inj, shr18 (by rw [ey, key_kc]; omega), ey, c4, key_kc]
        omega
      unfold s_X2_advance s_X2_visitedSum s_X4_nextSum_31
      rw [e_isWrong0, Option.bind_some, if_pos rfl, r1, Option.bind_some, r3, Option.bind_some, show s_X2_advance_5 FU σ.2.2.2.2.2.2 (2147483647 : Int32) (0 : Int32) = _ from y1, Option.bind_some, Option.bind_some]
      refine ⟨_, _, b1, _, rfl, q1, ⟨a1, a2, ⟨n, m, hV, Or.inr ⟨k1, hn6, k3, k4, st + 1, ?_, ?_, ?_, Or.inr ⟨by omega, p, l, c1, ey, c4, c5, c6⟩⟩⟩, hS⟩, ?_⟩
      · show σ.2.2.2.2.2.2.2.1 + 1 = _
        rw [k5, n1, nI_add]
      · show μ.2.2.2.1.1 + 1 = _
        rw [k6, n1, nI_add]
      · show st + 1 = (PL n).countP (fun l => decide (key σ.1 n l ≤ y.toInt))
        obtain ⟨A, B, hAB⟩ := List.append_of_mem hl
        have hnA := PL_new hn (by omega) hAB
        have hnB := PL_after hn (by omega) hAB
        have hsame : ∀ x, x ∈ PL n → x ≠ l → decide (key σ.1 n x ≤ σ.2.2.2.2.2.2.2.2.1.toInt) = decide (key σ.1 n x ≤ y.toInt) := by
          intro x hx hxl
          have hxk : key σ.1 n x ≠ key σ.1 n l := fun e => hxl (key_inj (by omega) hn6 hx hl e)
          congr 1
          rw [ey]
          refine propext ⟨fun h => by omega, fun h => ?_⟩
          refine Classical.byContradiction (fun h2 => ?_)
          have := c7 x hx (by omega)
          omega
        rw [countP_one hAB (p := fun l => decide (key σ.1 n l ≤ σ.2.2.2.2.2.2.2.2.1.toInt)) (fun x hx => hsame x (by rw [hAB]; exact List.mem_append_left _ hx) (fun e => hnA (by rw [← e]; exact hx))) (fun x hx => hsame x (by rw [hAB]; exact List.mem_append_right _ (List.mem_cons_of_mem _ hx)) (fun e => hnB (by rw [← e]; exact hx))) (by simp only [decide_eq_false_iff_not]; omega) (by simp only [decide_eq_true_eq]; omega), ← k7]
      · show TH [xS, xN] (.inr (y >>> ((18 : Int32) &&& 31))) b1 0
        rw [eb]
        exact TH_0
    · have : st = fact n := by omega
      have hltI : ¬ nI st < nI (fact n) := by rw [nlt (by omega) (by omega)]; exact hlt
      have heI : nI st = nI (fact n) := by rw [this]
      rw [if_neg hltI, if_pos heI]
      unfold s_X4_nextSum_31
      rw [e_isWrong1 μ (by decide), Option.bind_some, if_neg one_ne]
      exact ⟨_, _, _, _, rfl, rfl, h0.bad, TH_2⟩
/-! the column of the assignment visited last -/
theorem cd_digit {l : List Nat} : ∀ (i : Nat), (∀ j, j < i → l.getD j 0 < 8) → ∀ r, r < i → cdN l i / 8 ^ (i - 1 - r) % 8 = l.getD r 0 := by
  intro i
  induction i with
  | zero => intro _ r h; omega
  | succ i ih =>
    intro h r hr
    rw [cdN]
    have h8 := h i (by omega)
    by_cases hri : r = i
    · subst hri
      rw [show r + 1 - 1 - r = 0 by omega, Nat.pow_zero, Nat.div_one]
      omega
    · rw [show i + 1 - 1 - r = 1 + (i - 1 - r) by omega, Nat.pow_add, Nat.pow_one, ← Nat.div_div_eq_div_mul, show (8 * cdN l i + l.getD i 0) / 8 = cdN l i by omega]
      exact ih (fun j hj => h j (by omega)) r (by omega)
theorem key_digit {t : zT} {n m : Nat} (hV : Vt t n m) (hn6 : n ≤ 6) {l : List Nat} (hl : l ∈ PL n) {r : Nat} (hr : r < n) : ∃ a : Nat, key t n l = a ∧ a / 8 ^ (5 - r) % 8 = l.getD r 0 := by
  have hb := t_sum hV hl
  refine ⟨(fs (Cz t) l n).toNat * 262144 + kc n l, ?_, ?_⟩
  · rw [key_kc]; omega
  · have e1 : (262144 : Nat) = 8 ^ (r + 1) * 8 ^ (5 - r) := by
      rw [← Nat.pow_add, show r + 1 + (5 - r) = 6 by omega]
    have e2 : kc n l = cdN l n * 8 ^ (6 - n) := rfl
    have e3 : 8 ^ (5 - r) = 8 ^ (6 - n) * 8 ^ (n - 1 - r) := by
      rw [← Nat.pow_add, show 6 - n + (n - 1 - r) = 5 - r by omega]
    have hp1 : 0 < 8 ^ (5 - r) := Nat.pow_pos (by omega)
    have hp2 : 0 < 8 ^ (6 - n) := Nat.pow_pos (by omega)
    have e6 : ∀ A B w : Nat, 0 < w → (A * w + B) / w = A + B / w := fun A B w h => by rw [Nat.add_comm, Nat.add_mul_div_right _ _ h, Nat.add_comm]
    rw [e1, ← Nat.mul_assoc, e6 _ _ _ hp1]
    have e4 : kc n l / 8 ^ (5 - r) = cdN l n / 8 ^ (n - 1 - r) := by
      rw [e2, e3, ← Nat.div_div_eq_div_mul, Nat.mul_div_cancel _ hp2]
    rw [e4, Nat.pow_succ, ← Nat.mul_assoc]
    have e5 := cd_digit (l := l) n (fun j hj => by have := ent (by omega) hl hj; omega) r hr
    rw [Nat.add_mod, e5]
    have := ent (by omega) hl hr
    omega
theorem and7 {x : Int32} (hx : 0 ≤ x.toInt) : (x &&& 7).toInt = x.toInt % 8 := by
  have h1 : (x &&& 7).toBitVec.toNat = x.toBitVec.toNat % 8 := by
    show (x.toBitVec &&& 7#32).toNat = _
    rw [BitVec.toNat_and]
    exact Nat.and_two_pow_sub_one_eq_mod _ 3
  have h2 : x.toInt = (x.toBitVec.toNat : Int) := by
    have e : x.toInt = x.toBitVec.toInt := rfl
    rw [e] at hx ⊢
    rw [BitVec.toInt_eq_toNat_cond] at hx ⊢
    have := x.toBitVec.isLt
    split at hx
    · rw [if_pos (by assumption)]
    · omega
  have h3 : (x &&& 7).toInt = ((x &&& 7).toBitVec.toNat : Int) := by
    have e : (x &&& 7).toInt = (x &&& 7).toBitVec.toInt := rfl
    rw [e, BitVec.toInt_eq_toNat_cond, h1, if_pos (by omega)]
  rw [h3, h1, h2]
  omega
theorem sh_amt : ∀ r, r < 6 → ((((3 : Int32) * ((5 : Int32) - nI r)) &&& 31).toBitVec.smod 32).toNat = 3 * (5 - r) := by decide +kernel
theorem o_currentColumn {σ : zC} {μ : zM} (h : Rel σ μ) (p : Int32) : ∃ z b μ2, s_X3_currentColumn σ p = some z ∧ s_X4_currentColumn μ p = some (b, μ2) ∧ Rel σ μ2 ∧ TH [xO, xS] z b μ2.2.2.2.2 := by
  have h0 := h
  obtain ⟨a1, a2, ⟨n, m, hV, hE⟩, hS⟩ := h
  have hn := hV.2.2.2.2.1
  have hM : Vt μ.1 n m := by rw [a1]; exact hV
  unfold s_X3_currentColumn s_X4_currentColumn
  rw [e_requireRow hV.1 hn, Option.bind_some, m_row hM]
  by_cases hp : inN p n
  · rw [if_pos hp, if_pos hp, zsel_r]
    rcases hE with ⟨k1, k2⟩ | ⟨k1, hn6, k3, k4, st, k5, k6, k7, k8⟩
    · rw [if_pos k1, k2, if_neg (by decide), e_isWrong1 μ (by decide), Option.bind_some, if_neg one_ne]
      exact ⟨_, _, _, rfl, rfl, h0.bad, TH_2⟩
    · have hf : fact n ≤ 720 := by
        have : ∀ n, n ≤ 6 → fact n ≤ 720 := by decide
        exact this n hn6
      have hst : st ≤ fact n := by
        rw [k7, ← PL_len hn]
        exact List.countP_le_length
      rw [if_neg (by rw [k1]; exact one_ne), k5, k6]
      rcases k8 with ⟨rfl, -⟩ | ⟨hpos, q, l, c1, c2, -, -, c6⟩
      · rw [if_pos (show nI 0 = 0 from rfl), if_neg (by decide), e_isWrong1 μ (by decide), Option.bind_some, if_neg one_ne]
        exact ⟨_, _, _, rfl, rfl, h0.bad, TH_2⟩
      · obtain ⟨i, hi, rfl, -⟩ := inN_n hp
        have hl := List.mem_of_getElem? c1
        obtain ⟨a, e1, e2⟩ := key_digit hV hn6 hl hi
        have hle := ent hn hl hi
        rw [if_neg (by rw [n0, neq (by omega) (by omega)]; omega), if_pos (by rw [n1, nle (by omega) (by omega)]; omega), e_isWrong0, Option.bind_some, if_pos rfl, if_pos (ib_ok (by omega) (by omega)), ncl (by omega)]
        unfold s_X2_visitedColumn s_X2_shiftOf
        rw [Option.bind_some, Option.bind_some]
        refine ⟨_, _, _, rfl, rfl, h0.bad, ?_⟩
        have e3 : (σ.2.2.2.2.2.2.2.2.1 >>> (((3 : Int32) * ((5 : Int32) - nI i)) &&& 31)).toInt = ((a / 8 ^ (5 - i) : Nat) : Int) := by
          rw [Kit.i32_shr _ _ (sh_amt i (by omega)), c2, e1, Int.pow_mul, Int.natCast_ediv, Int.natCast_pow]
          rfl
        have e4 : (σ.2.2.2.2.2.2.2.2.1 >>> (((3 : Int32) * ((5 : Int32) - nI i)) &&& 31)) &&& 7 = nI (l.getD i 0) := by
          rw [zz_inj, and7 (by rw [e3]; exact Int.natCast_nonneg _), e3, nT (by omega), ← e2]
          omega
        rw [e4]
        show TH [xO, xS] (.inr (nI (l.getD i 0))) (μ.2.2.2.1.2.2.2 i) 0
        rw [c6 i hi]
        exact TH_0
  · rw [if_neg hp, if_neg hp, zsel_l, e_isWrong1 μ (by decide), Option.bind_some, if_neg one_ne]
    exact ⟨_, _, _, rfl, rfl, h0.bad, TH_1⟩
