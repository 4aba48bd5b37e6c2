/-! ===== counting with a limit ===== -/
theorem e_factorial : ∀ k, k < 8 → s_X3_factorial (nI k) = some (nI (fact k)) := by decide +kernel
theorem cp_all {S : List Int} {v : Int} (h : ∀ x ∈ S, x ≤ v) : S.countP (fun x => decide (x ≤ v)) = S.length := by
  rw [List.countP_eq_length]
  intro x hx
  exact decide_eq_true (h x hx)
theorem cp_none {S : List Int} {v : Int} (h : ∀ x ∈ S, v < x) : S.countP (fun x => decide (x ≤ v)) = 0 := by
  rw [List.countP_eq_zero]
  intro x hx
  have := h x hx
  simp
  omega
theorem cp_map (S : List Int) (a v : Int) : (S.map (fun x => a + x)).countP (fun x => decide (x ≤ v)) = S.countP (fun x => decide (x ≤ v - a)) := by
  rw [List.countP_map]
  congr 1
  funext x
  show decide (a + x ≤ v) = decide (x ≤ v - a)
  congr 1
  exact propext ⟨fun h => by omega, fun h => by omega⟩
theorem SS_len (C : Nat → Nat → Int) (n r k U : Nat) (hn : n < 8) (hU : U < 2 ^ n) (hp : pop U + k = n) : (SS C n r k U).length = fact k := by
  unfold SS
  rw [List.length_map, cps_len n hn k U hU hp]
theorem count_inner {s : zS} {n U k : Nat} {C : Nat → Nat → Int} (hn : n < 8) (hU : U < 2 ^ n) (hs : okC s n C) (hp : pop U + (k + 1) = n) (rec : zS → Int32 → Int32 → Int32 → Option Int32) {lim : Int32} (hlim : -10000000 ≤ lim.toInt ∧ lim.toInt ≤ 10000000)
    (hrec : ∀ c, c < n → U.testBit c = false → ∀ lim2 : Int32, lim2.toInt = lim.toInt - C (pop U) c → rec s (nI (pop U + 1)) (nI (U ||| 2 ^ c)) lim2 = some (nI ((SS C n (pop U + 1) k (U ||| 2 ^ c)).countP (fun x => decide (x ≤ lim2.toInt))))) :
    ∀ (d nf j : Nat) (cnt : Int32), d < nf → j + d = n → cnt = nI ((SJ C n (pop U) k U j).countP (fun x => decide (x ≤ lim.toInt))) →
      s_X0_countFrom_46 rec nf s (nI (pop U)) (nI U) lim cnt (nI j) = some (nI ((SS C n (pop U) (k + 1) U).countP (fun x => decide (x ≤ lim.toInt)))) := by
  have hU2 : U < 128 := Nat.lt_of_lt_of_le hU (two_pow_le hn)
  intro d
  induction d with
  | zero =>
    intro nf j cnt hd hj hinv
    obtain ⟨nf, rfl⟩ : ∃ q, nf = q + 1 := ⟨nf - 1, by omega⟩
    have hjn : j = n := by omega
    subst hjn
    rw [s_X0_countFrom_46, if_pos (by rw [hs.1]; exact Int32.le_refl _), hinv, SJ_full]
  | succ d ih =>
    intro nf j cnt hd hj hinv
    obtain ⟨nf, rfl⟩ : ∃ q, nf = q + 1 := ⟨nf - 1, by omega⟩
    rw [s_X0_countFrom_46, if_neg (by rw [hs.1, nle (by omega) (by omega)]; omega), e_isFree hU2 (by omega), Option.bind_some]
    cases hf : U.testBit j with
    | true =>
      rw [if_pos rfl, if_pos rfl, nsucc]
      refine ih nf (j + 1) cnt (by omega) (by omega) ?_
      rw [SJ_used C n _ _ U j hf]
      exact hinv
    | false =>
      have hc := hs.2 (pop U) j (by omega) (by omega)
      rw [if_neg (by decide), e_cellIndex, Option.bind_some, if_pos (ib_ok (by omega) (by omega)), or_eq U hU2 j (by omega), ncl (by omega)]
      have hl2 : (lim - s.2.1 (7 * pop U + j)).toInt = lim.toInt - C (pop U) j := by rw [zz_sub (by omega) (by omega), hc.1]
      rw [show nI (pop U) + 1 = nI (pop U + 1) from nsucc _, hrec j (by omega) hf _ hl2, Option.bind_some, nsucc]
      refine ih nf (j + 1) _ (by omega) (by omega) ?_
      rw [hinv, SJ_free C n _ _ U j hf, List.countP_append, cp_map, nI_add, hl2]
theorem e_countFrom {s : zS} {n : Nat} {C : Nat → Nat → Int} (hn : n < 8) (hs : okC s n C) (hl : ∀ V, V < 2 ^ n → okL C n V (s.2.2.1 V) (s.2.2.2.1 V)) (hg : ∀ V, V < 2 ^ n → okG C n V (s.2.2.2.2 V)) :
    ∀ (k d U : Nat) (lim : Int32), k < d → U < 2 ^ n → pop U + k = n → -(1000000 + 100000 * (n - k : Nat)) ≤ lim.toInt → lim.toInt ≤ 1000000 + 100000 * (n - k : Nat) →
      s_X0_countFrom d s (nI (pop U)) (nI U) lim = some (nI ((SS C n (pop U) k U).countP (fun x => decide (x ≤ lim.toInt)))) := by
  intro k
  induction k with
  | zero =>
    intro d U lim hd hU hp hb1 hb2
    obtain ⟨d, rfl⟩ : ∃ q, d = q + 1 := ⟨d - 1, by omega⟩
    have hU2 : U < 128 := Nat.lt_of_lt_of_le hU (two_pow_le hn)
    rw [s_X0_countFrom, s_X0_countFrom_step, if_pos (ib_ok hU2 (by omega)), ncl (by omega)]
    have h := (hl U hU).1
    rw [show n - pop U = 0 by omega, SS_zero] at h
    have h0 := List.mem_singleton.mp h.1
    rw [SS_zero]
    by_cases hle : s.2.2.1 U ≤ lim
    · rw [if_pos hle, if_pos (by rw [hs.1, nle (by omega) (by omega)]; omega), hs.1, show nI n - nI (pop U) = nI 0 by rw [pk_sub (by omega)]; congr 1; omega, e_factorial 0 (by omega), Option.bind_some]
      rw [zz_le, h0] at hle
      rw [cp_all (fun x hx => by rw [List.mem_singleton.mp hx]; exact hle)]
      rfl
    · rw [if_neg hle]
      rw [zz_le, h0] at hle
      rw [cp_none (fun x hx => by rw [List.mem_singleton.mp hx]; omega)]
      rfl
  | succ k ih =>
    intro d U lim hd hU hp hb1 hb2
    obtain ⟨d, rfl⟩ : ∃ q, d = q + 1 := ⟨d - 1, by omega⟩
    have hU2 : U < 128 := Nat.lt_of_lt_of_le hU (two_pow_le hn)
    rw [s_X0_countFrom, s_X0_countFrom_step, if_pos (ib_ok hU2 (by omega)), ncl (by omega)]
    have h := (hl U hU).1
    have hG := hg U hU
    unfold okG at hG
    rw [show n - pop U = k + 1 by omega] at h hG
    by_cases hle : s.2.2.1 U ≤ lim
    · rw [if_pos hle, if_neg (by rw [hs.1, nle (by omega) (by omega)]; omega), if_pos (ib_ok hU2 (by omega))]
      by_cases hlg : lim < s.2.2.2.2 U
      · rw [if_pos hlg, show (0 : Int32) = nI 0 from rfl]
        refine count_inner hn hU hs hp (s_X0_countFrom d) (by omega) (fun c hc hf lim2 he => ?_) n FU 0 _ (by unfold FU; omega) (by omega) ?_
        · have hpo := pop_or U hU2 c (by omega) hf
          have hb := hs.2 (pop U) c (by omega) hc
          have h3 := ih d (U ||| 2 ^ c) lim2 (by omega) (or_lt n hn U hU c hc) (by omega) (by omega) (by omega)
          rw [hpo.1] at h3
          exact h3
        · rw [SJ_zero]; rfl
      · rw [if_neg hlg, hs.1, pk_sub (by omega), e_factorial _ (by omega), Option.bind_some]
        rw [zz_lt] at hlg
        rw [cp_all (fun x hx => by have := hG.2 x hx; omega), SS_len C n _ _ U hn hU (by omega), show n - pop U = k + 1 by omega]
    · rw [if_neg hle]
      rw [zz_le] at hle
      rw [cp_none (fun x hx => by have := h.2 x hx; omega)]
      rfl
/-! ===== tables ===== -/
def cst (t : zT) (i j : Nat) : Int32 := if nI j < t.2.1 then (if t.2.2.2 (7 * i + j) = 0 then t.2.2.1 (7 * i + j) else 1000) else 0
def Cz (t : zT) (i j : Nat) : Int := (cst t i j).toInt
def Vt (t : zT) (n m : Nat) : Prop := t.1 = nI n ∧ t.2.1 = nI m ∧ 1 ≤ m ∧ m ≤ n ∧ n < 8 ∧ (∀ k, k < 49 → ∃ v, v < 100 ∧ t.2.2.1 k = nI v) ∧ ∀ k, k < 49 → t.2.2.2 k = 0 ∨ t.2.2.2 k = 1
theorem Vt.bit {t : zT} {n m : Nat} (h : Vt t n m) {k : Nat} (hk : k < 49) : t.2.2.2 k &&& 1 = t.2.2.2 k := by
  rcases h.2.2.2.2.2.2 k hk with h | h <;> rw [h] <;> decide
theorem e_isForbidden {t : zT} {n m : Nat} (h : Vt t n m) {i j : Nat} (hi : i < 7) (hj : j < 7) : s_X1_isForbidden t (nI i) (nI j) = some (t.2.2.2 (7 * i + j)) := by
  unfold s_X1_isForbidden
  rw [e_cellIndex, Option.bind_some, if_pos (ib_ok (by omega) (by omega)), ncl (by omega), if_pos (h.bit (by omega))]
theorem e_numberAt (t : zT) {i j : Nat} (hi : i < 7) (hj : j < 7) : s_X1_numberAt t (nI i) (nI j) = some (t.2.2.1 (7 * i + j)) := by
  unfold s_X1_numberAt
  rw [e_cellIndex, Option.bind_some, if_pos (ib_ok (by omega) (by omega)), ncl (by omega)]
theorem e_costOf {t : zT} {n m : Nat} (h : Vt t n m) {i j : Nat} (hi : i < 7) (hj : j < 7) : s_X1_costOf t (nI i) (nI j) = some (cst t i j) := by
  unfold s_X1_costOf cst
  by_cases h1 : nI j < t.2.1
  · rw [if_pos h1, if_pos h1, e_isForbidden h hi hj, Option.bind_some]
    by_cases h2 : t.2.2.2 (7 * i + j) = 0
    · rw [if_pos h2, if_pos h2, e_numberAt t hi hj]; rfl
    · rw [if_neg h2, if_neg h2]
  · rw [if_neg h1, if_neg h1]
theorem e_putNumber (t : zT) {i j : Nat} (hi : i < 7) (hj : j < 7) (v : Int32) : s_X1_putNumber t (nI i) (nI j) v = some (t.1, t.2.1, upd t.2.2.1 (7 * i + j) v, t.2.2.2) := by
  unfold s_X1_putNumber
  rw [e_cellIndex, Option.bind_some, if_pos (ib_ok (by omega) (by omega)), ncl (by omega)]
theorem e_putForbidden (t : zT) {i j : Nat} (hi : i < 7) (hj : j < 7) (v : Int32) : s_X1_putForbidden t (nI i) (nI j) v = some (t.1, t.2.1, t.2.2.1, upd t.2.2.2 (7 * i + j) (v &&& 1)) := by
  unfold s_X1_putForbidden
  rw [e_cellIndex, Option.bind_some, if_pos (ib_ok (by omega) (by omega)), ncl (by omega)]
theorem cst_bound {t : zT} {n m : Nat} (h : Vt t n m) {i j : Nat} (hi : i < 7) (hj : j < 7) : 0 ≤ Cz t i j ∧ Cz t i j ≤ 1000 := by
  unfold Cz cst
  by_cases h1 : nI j < t.2.1
  · rw [if_pos h1]
    by_cases h2 : t.2.2.2 (7 * i + j) = 0
    · rw [if_pos h2]
      obtain ⟨v, hv, e⟩ := h.2.2.2.2.2.1 (7 * i + j) (by omega)
      rw [e, nT (by omega)]
      omega
    · rw [if_neg h2]; decide
  · rw [if_neg h1]; decide
theorem e_putCost (s : zS) {i j : Nat} (hi : i < 7) (hj : j < 7) (v : Int32) : s_X0_putCost s (nI i) (nI j) v = some (s.1, upd s.2.1 (7 * i + j) v, s.2.2.1, s.2.2.2.1, s.2.2.2.2) := by
  unfold s_X0_putCost
  rw [e_cellIndex, Option.bind_some, if_pos (ib_ok (by omega) (by omega)), ncl (by omega)]
theorem load_inner {t : zT} {n m i : Nat} (h : Vt t n m) (hi : i < n) (k10 : zS → zT → Int32 → Option zS) :
    ∀ (d nf j : Nat) (s : zS), s.1 = nI n → d < nf → j + d = n → ∃ f : zF, s_X0_load_20 k10 nf s t (nI i) (nI j) = k10 (s.1, f, s.2.2.1, s.2.2.2.1, s.2.2.2.2) t (nI (i + 1)) ∧ (∀ q, j ≤ q → q < n → f (7 * i + q) = cst t i q) ∧ ∀ q, (q < 7 * i + j ∨ 7 * i + n ≤ q) → f q = s.2.1 q := by
  have hn := h.2.2.2.2.1
  intro d
  induction d with
  | zero =>
    intro nf j s hs hd hj
    obtain ⟨nf, rfl⟩ : ∃ q, nf = q + 1 := ⟨nf - 1, by omega⟩
    refine ⟨s.2.1, ?_, fun q h1 h2 => by omega, fun q _ => rfl⟩
    rw [s_X0_load_20, if_pos (by rw [hs, nle (by omega) (by omega)]; omega), nsucc]
  | succ d ih =>
    intro nf j s hs hd hj
    obtain ⟨nf, rfl⟩ : ∃ q, nf = q + 1 := ⟨nf - 1, by omega⟩
    rw [s_X0_load_20, if_neg (by rw [hs, nle (by omega) (by omega)]; omega), e_costOf h (by omega) (by omega), Option.bind_some, e_putCost s (by omega) (by omega), Option.bind_some, nsucc]
    obtain ⟨f, e1, e2, e3⟩ := ih nf (j + 1) (s.1, upd s.2.1 (7 * i + j) (cst t i j), s.2.2.1, s.2.2.2.1, s.2.2.2.2) hs (by omega) (by omega)
    refine ⟨f, e1, fun q h1 h2 => ?_, fun q hq => ?_⟩
    · by_cases hqj : q = j
      · subst hqj
        rw [e3 _ (Or.inl (by omega))]
        exact upd_same _ _ _
      · exact e2 q (by omega) h2
    · rw [e3 q (by omega)]
      exact upd_ne (by omega)
theorem load_outer {t : zT} {n m : Nat} (h : Vt t n m) :
    ∀ (d nf i : Nat) (s : zS), s.1 = nI n → d < nf → i + d = n → ∃ f : zF, s_X0_load_10 nf s t (nI i) = some (s.1, f, s.2.2.1, s.2.2.2.1, s.2.2.2.2) ∧ (∀ a b, i ≤ a → a < n → b < n → f (7 * a + b) = cst t a b) ∧ ∀ q, q < 7 * i → f q = s.2.1 q := by
  have hn := h.2.2.2.2.1
  intro d
  induction d with
  | zero =>
    intro nf i s hs hd hj
    obtain ⟨nf, rfl⟩ : ∃ q, nf = q + 1 := ⟨nf - 1, by omega⟩
    refine ⟨s.2.1, ?_, fun a b h1 h2 => by omega, fun q _ => rfl⟩
    rw [s_X0_load_10, if_pos (by rw [hs, nle (by omega) (by omega)]; omega)]
  | succ d ih =>
    intro nf i s hs hd hj
    obtain ⟨nf, rfl⟩ : ∃ q, nf = q + 1 := ⟨nf - 1, by omega⟩
    rw [s_X0_load_10, if_neg (by rw [hs, nle (by omega) (by omega)]; omega), show (0 : Int32) = nI 0 from rfl]
    obtain ⟨g, g1, g2, g3⟩ := load_inner h (i := i) (by omega) (fun v0 v1 v2 => s_X0_load_10 nf v0 v1 v2) n FU 0 s hs (by unfold FU; omega) (by omega)
    rw [g1]
    obtain ⟨f, e1, e2, e3⟩ := ih nf (i + 1) (s.1, g, s.2.2.1, s.2.2.2.1, s.2.2.2.2) hs (by omega) (by omega)
    refine ⟨f, e1, fun a b h1 h2 h3 => ?_, fun q hq => ?_⟩
    · by_cases ha : a = i
      · subst ha
        rw [e3 _ (by omega)]
        exact g2 b (Nat.zero_le _) h3
      · exact e2 a b (by omega) h2 h3
    · rw [e3 q (by omega)]
      exact g3 q (Or.inl (by omega))
/-- the solver with the table's costs -/
theorem e_load (s : zS) {t : zT} {n m : Nat} (h : Vt t n m) : ∃ f : zF, s_X0_load s t = some (t.1, f, s.2.2.1, s.2.2.2.1, s.2.2.2.2) ∧ ∀ a b, a < n → b < n → f (7 * a + b) = cst t a b := by
  have hn := h.2.2.2.2.1
  obtain ⟨f, e1, e2, -⟩ := load_outer h n FU 0 (t.1, s.2.1, s.2.2.1, s.2.2.2.1, s.2.2.2.2) h.1 (by unfold FU; omega) (by omega)
  exact ⟨f, e1, fun a b h1 h2 => e2 a b (Nat.zero_le _) h1 h2⟩
