/-! ===== the order of the enumeration ===== -/
def kc (n : Nat) (l : List Nat) : Nat := cdN l n * 8 ^ (6 - n)
theorem key_kc (t : zT) (n : Nat) (l : List Nat) : key t n l = fs (Cz t) l n * 262144 + (kc n l : Nat) := by
  unfold key kc
  rw [Int.natCast_mul, Int.natCast_pow]
  rfl
theorem cdN_lt {l : List Nat} : ∀ i, (∀ j, j < i → l.getD j 0 < 8) → cdN l i < 8 ^ i := by
  intro i
  induction i with
  | zero => intro _; exact Nat.one_pos
  | succ i ih =>
    intro h
    have h1 := ih (fun j hj => h j (by omega))
    have h2 := h i (by omega)
    rw [cdN, Nat.pow_succ]
    omega
theorem kc_lt {n : Nat} (hn6 : n ≤ 6) {l : List Nat} (hl : l ∈ PL n) : kc n l < 262144 := by
  have h1 := cdN_lt (l := l) n (fun j hj => by have := ent (by omega) hl hj; omega)
  have h2 : 8 ^ n * 8 ^ (6 - n) = 262144 := by
    rw [← Nat.pow_add, show n + (6 - n) = 6 by omega]
  unfold kc
  rw [← h2]
  exact Nat.mul_lt_mul_of_pos_right h1 (Nat.pow_pos (by omega))
theorem inc_get : ∀ (L : List Nat), inc L = true → ∀ (p q a b : Nat), L[p]? = some a → L[q]? = some b → p < q → a < b := by
  intro L
  induction L with
  | nil => intro _ p q a b h; simp at h
  | cons x L ih =>
    intro h p q a b hp hq hpq
    obtain ⟨h1, h2⟩ := inc_head _ _ h
    obtain ⟨q, rfl⟩ : ∃ q', q = q' + 1 := ⟨q - 1, by omega⟩
    rw [List.getElem?_cons_succ] at hq
    cases p with
    | zero =>
      rw [List.getElem?_cons_zero] at hp
      rw [← Option.some.inj hp]
      exact h1 b (List.mem_of_getElem? hq)
    | succ p =>
      rw [List.getElem?_cons_succ] at hp
      exact ih h2 p q a b hp hq (by omega)
theorem kc_lt_of {n : Nat} (hn : n < 8) (hn1 : 1 ≤ n) {p q : Nat} {l l' : List Nat} (hp : (PL n)[p]? = some l) (hq : (PL n)[q]? = some l') (h : p < q) : kc n l < kc n l' := by
  have h1 := inc_get _ (inc_all n hn hn1) p q (cdN l n) (cdN l' n) (by rw [List.getElem?_map, hp]; rfl) (by rw [List.getElem?_map, hq]; rfl) h
  unfold kc
  exact Nat.mul_lt_mul_of_pos_right h1 (Nat.pow_pos (by omega))
theorem kc_place {n : Nat} (hn : n < 8) (hn1 : 1 ≤ n) {p q : Nat} {l l' : List Nat} (hp : (PL n)[p]? = some l) (hq : (PL n)[q]? = some l') : (p < q ↔ kc n l < kc n l') ∧ (p = q ↔ kc n l = kc n l') := by
  rcases Nat.lt_trichotomy p q with h | h | h
  · have := kc_lt_of hn hn1 hp hq h
    omega
  · subst h
    rw [hp] at hq
    rw [Option.some.inj hq]
    omega
  · have := kc_lt_of hn hn1 hq hp h
    omega
theorem key_inj {t : zT} {n : Nat} (hn1 : 1 ≤ n) (hn6 : n ≤ 6) {l l' : List Nat} (hl : l ∈ PL n) (hl' : l' ∈ PL n) (h : key t n l = key t n l') : l = l' := by
  obtain ⟨p, hp⟩ := List.getElem?_of_mem hl
  obtain ⟨q, hq⟩ := List.getElem?_of_mem hl'
  have h1 := kc_lt hn6 hl
  have h2 := kc_lt hn6 hl'
  have h3 := kc_place (by omega) hn1 hp hq
  rw [key_kc, key_kc] at h
  have h4 : p = q := h3.2.mpr (by omega)
  subst h4
  rw [hp] at hq
  exact Option.some.inj hq
/-- what was visited last -/
def VK (t : zT) (n : Nat) (v : Int) (ls lp : Int32) : Prop := (v = -1 ∧ ls = -1 ∧ lp = 0) ∨ ∃ p l, (PL n)[p]? = some l ∧ v = key t n l ∧ ls.toInt = fs (Cz t) l n ∧ lp = nI p
theorem PL_len5 {n : Nat} (hn : n < 8) : (PL n).length ≤ 5040 := by
  have h1 := PL_len hn
  have h2 : ∀ n, n < 8 → fact n ≤ 5040 := by decide
  have h3 := h2 n hn
  omega
theorem later {t : zT} {n m : Nat} {v : Int} {ls lp S : Int32} (hV : Vt t n m) (hn6 : n ≤ 6) (h : VK t n v ls lp) {q : Nat} {l : List Nat} (hq : (PL n)[q]? = some l) (hS : S.toInt = fs (Cz t) l n) : (v < key t n l ↔ (ls < S ∨ (S = ls ∧ ¬ nI q ≤ lp))) := by
  have h1m := hV.2.2.1
  have hmn := hV.2.2.2.1
  have hl := List.mem_of_getElem? hq
  have hb := t_sum hV hl
  have hql := (List.getElem?_eq_some_iff.mp hq).1
  have h5 := PL_len5 (n := n) (by omega)
  rw [key_kc]
  rcases h with ⟨rfl, rfl, rfl⟩ | ⟨p, l', hp, rfl, h2, rfl⟩
  · have e : (-1 : Int32).toInt = -1 := rfl
    have : (-1 : Int32) < S := by rw [zz_lt, e]; omega
    constructor
    · intro _; exact Or.inl this
    · intro _; omega
  · have hpl := (List.getElem?_eq_some_iff.mp hp).1
    have h3 := kc_place (by omega) (by omega) hp hq
    have k1 := kc_lt hn6 hl
    have k2 := kc_lt hn6 (List.mem_of_getElem? hp)
    rw [key_kc, zz_lt, zz_inj, nle (by omega) (by omega)]
    omega
/-! the reference's search -/
abbrev wc (μ : zM) (cur : zF) : zM := (μ.1, μ.2.1, μ.2.2.1, (μ.2.2.2.1.1, μ.2.2.2.1.2.1, μ.2.2.2.1.2.2.1, cur), μ.2.2.2.2)
theorem n127_loop {n : Nat} {l : List Nat} (hn : n < 8) (k54 : zM → Int32 → Int32 → Int32 → Option (Int32 × zM)) (x1 x2 : Int32) (q : Nat) : ∀ (d nf j : Nat) (μ : zM), μ.1.1 = nI n → rp μ.2.2.1.2.2.1 l → d < nf → j + d = n → (∀ i, i < j → μ.2.2.2.1.2.2.2 i = nI (l.getD i 0)) →
    ∃ cur : zF, s_X4_nextSum_127 k54 nf μ x1 x2 (nI q) (nI j) = ((s_X4_goOn (wc μ cur) (nI n)).bind fun z2 => k54 z2 x1 x2 (nI (q + 1))) ∧ ∀ i, i < n → cur i = nI (l.getD i 0) := by
  intro d
  induction d with
  | zero =>
    intro nf j μ hs hr hd hj hc
    obtain ⟨nf, rfl⟩ : ∃ q, nf = q + 1 := ⟨nf - 1, by omega⟩
    have : j = n := by omega
    subst this
    rw [s_X4_nextSum_127, hs, if_pos (Int32.le_refl _), n1, nI_add]
    exact ⟨μ.2.2.2.1.2.2.2, rfl, hc⟩
  | succ d ih =>
    intro nf j μ hs hr hd hj hc
    obtain ⟨nf, rfl⟩ : ∃ q, nf = q + 1 := ⟨nf - 1, by omega⟩
    have i1 : ib (nI j) 7 = true := ib_ok (by omega) (by omega)
    rw [s_X4_nextSum_127, if_neg (by rw [hs, nle (by omega) (by omega)]; omega), if_pos i1, if_pos i1, ncl (by omega), nsucc]
    obtain ⟨cur, e1, e2⟩ := ih nf (j + 1) (wc μ (upd μ.2.2.2.1.2.2.2 j (μ.2.2.1.2.2.1 j))) hs hr (by omega) (by omega) (fun i hi => by
      show upd _ _ _ i = _
      by_cases h : i = j
      · subst h; rw [upd_same]; exact hr.2.2 i (by omega)
      · rw [upd_ne h]; exact hc i (by omega))
    exact ⟨cur, e1, e2⟩
def BEST (t : zT) (n : Nat) (v : Int) (Q : List (List Nat)) (x1 x2 : Int32) (cur : zF) : Prop :=
  (x1 = 1000000 ∧ ∀ l, l ∈ Q → ¬ v < key t n l) ∨
  ∃ p l, (PL n)[p]? = some l ∧ p < Q.length ∧ v < key t n l ∧ x1.toInt = fs (Cz t) l n ∧ x2 = nI p ∧ (∀ i, i < n → cur i = nI (l.getD i 0)) ∧ ∀ l', l' ∈ Q → v < key t n l' → key t n l ≤ key t n l'
theorem n54_loop {t : zT} {n m : Nat} {v : Int} (hV : Vt t n m) (hn6 : n ≤ 6) : ∀ (R Q : List (List Nat)) (nf : Nat) (μ : zM) (x1 x2 : Int32), R.length < nf → PL n = Q ++ R → μ.1 = t → VK t n v μ.2.2.2.1.2.1 μ.2.2.2.1.2.2.1 → okN μ.2.2.1 n (Cz t) → (∀ l r, R = l :: r → rp μ.2.2.1.2.2.1 l) → BEST t n v Q x1 x2 μ.2.2.2.1.2.2.2 →
    ∃ (L : zL) (y1 y2 : Int32) (cur : zF), s_X4_nextSum_54 nf μ x1 x2 (nI Q.length) = some (y1, (μ.1, μ.2.1, L, (μ.2.2.2.1.1 + 1, y1, y2, cur), μ.2.2.2.2)) ∧ BEST t n v (PL n) y1 y2 cur := by
  have hn : n < 8 := by omega
  have h1m := hV.2.2.1
  have hmn := hV.2.2.2.1
  intro R
  induction R with
  | nil =>
    intro Q nf μ x1 x2 hf hp hs hvk hC hr hb
    obtain ⟨nf, rfl⟩ : ∃ q, nf = q + 1 := ⟨nf - 1, by omega⟩
    rw [List.append_nil] at hp
    rw [s_X4_nextSum_54, hs, hV.1, e_factorial4 n hn, Option.bind_some, ← hp, PL_len hn, if_pos (Int32.le_refl _)]
    refine ⟨μ.2.2.1, x1, x2, μ.2.2.2.1.2.2.2, rfl, ?_⟩
    rw [hp]; exact hb
  | cons l R ih =>
    intro Q nf μ x1 x2 hf hp hs hvk hC hr hb
    obtain ⟨nf, rfl⟩ : ∃ q, nf = q + 1 := ⟨nf - 1, by omega⟩
    have h5 := PL_len5 hn
    have hlen : Q.length < (PL n).length := by rw [hp, List.length_append, List.length_cons]; omega
    have hmem : l ∈ PL n := by rw [hp]; exact List.mem_append_right _ List.mem_cons_self
    have hat : (PL n)[Q.length]? = some l := by rw [hp, List.getElem?_append_right (Nat.le_refl _), Nat.sub_self]; rfl
    have hl : ∀ i, i < n → l.getD i 0 < n := fun i hi => ent hn hmem hi
    have hr1 := hr l R rfl
    obtain ⟨S, e1, e2⟩ := e_sum hn hC hr1 hl
    have hbd := t_sum hV hmem
    obtain ⟨l2, e6, e7⟩ := PL_next hn (by omega) hp
    have hlat := later hV hn6 hvk hat e2
    have hQl : (Q ++ [l]).length = Q.length + 1 := by rw [List.length_append]; rfl
    -- not taken: the best stays
    have stay : BEST t n v (Q ++ [l]) x1 x2 μ.2.2.2.1.2.2.2 → ∃ (L : zL) (y1 y2 : Int32) (cur : zF), ((s_X4_goOn μ μ.1.1).bind fun z2 => s_X4_nextSum_54 nf z2 x1 x2 (nI Q.length + 1)) = some (y1, (μ.1, μ.2.1, L, (μ.2.2.2.1.1 + 1, y1, y2, cur), μ.2.2.2.2)) ∧ BEST t n v (PL n) y1 y2 cur := by
      intro hb2
      obtain ⟨p', e8, e9⟩ := e_goOn hn (by omega) (μ := μ) (l := l) (l2 := l2) hr1 e6
      rw [hs, hV.1, e8, Option.bind_some, nsucc]
      obtain ⟨L, y1, y2, cur, q1, q2⟩ := ih (Q ++ [l]) nf (wp μ p') x1 x2 (by simp at hf; omega) (by rw [hp, List.append_assoc]; rfl) hs hvk hC (fun l r h => by rw [e7 l r h] at e9; exact e9) hb2
      rw [hQl] at q1
      refine ⟨L, y1, y2, cur, ?_, q2⟩
      rw [← hs]
      exact q1
    have s106_0 : BEST t n v (Q ++ [l]) x1 x2 μ.2.2.2.1.2.2.2 → ∃ (L : zL) (y1 y2 : Int32) (cur : zF), s_X4_nextSum_106 (fun v0 v1 v2 v3 => s_X4_nextSum_54 nf v0 v1 v2 v3) μ x1 x2 (nI Q.length) S 0 = some (y1, (μ.1, μ.2.1, L, (μ.2.2.2.1.1 + 1, y1, y2, cur), μ.2.2.2.2)) ∧ BEST t n v (PL n) y1 y2 cur := by
      intro hb2
      unfold s_X4_nextSum_106
      rw [if_pos rfl]
      exact stay hb2
    have s101 : v < key t n l → ∃ (L : zL) (y1 y2 : Int32) (cur : zF), s_X4_nextSum_101 (fun v0 v1 v2 v3 => s_X4_nextSum_54 nf v0 v1 v2 v3) μ x1 x2 (nI Q.length) S = some (y1, (μ.1, μ.2.1, L, (μ.2.2.2.1.1 + 1, y1, y2, cur), μ.2.2.2.2)) ∧ BEST t n v (PL n) y1 y2 cur := by
      intro hlt
      unfold s_X4_nextSum_101 s_X4_nextSum_106
      rw [if_neg one_ne]
      by_cases hle : x1 ≤ S
      · rw [if_pos hle]
        refine stay ?_
        rw [zz_le, e2] at hle
        rcases hb with ⟨rfl, -⟩ | ⟨p, lb, b1, b2, b3, b4, b5, b6, b7⟩
        · rw [far_t] at hle; omega
        · refine Or.inr ⟨p, lb, b1, by rw [hQl]; omega, b3, b4, b5, b6, fun l' hl' hv' => ?_⟩
          rcases List.mem_append.mp hl' with h | h
          · exact b7 l' h hv'
          · rw [List.mem_singleton.mp h, key_kc, key_kc]
            have h3 := (kc_place hn (by omega) b1 hat).1.mp b2
            omega
      · rw [if_neg hle]
        rw [zz_le, e2] at hle
        obtain ⟨cur, c1, c2⟩ := n127_loop (n := n) (l := l) hn (fun v0 v1 v2 v3 => s_X4_nextSum_54 nf v0 v1 v2 v3) S (nI Q.length) Q.length n FU 0 μ (by rw [hs]; exact hV.1) hr1 (by unfold FU; omega) (by omega) (fun i h => by omega)
        rw [n0, c1]
        obtain ⟨p', e8, e9⟩ := e_goOn hn (by omega) (μ := wc μ cur) (l := l) (l2 := l2) hr1 e6
        rw [e8, Option.bind_some]
        have hb2 : BEST t n v (Q ++ [l]) S (nI Q.length) cur := by
          refine Or.inr ⟨Q.length, l, hat, by rw [hQl]; omega, hlt, e2, rfl, c2, fun l' hl' hv' => ?_⟩
          rcases List.mem_append.mp hl' with h | h
          · rcases hb with ⟨-, hno⟩ | ⟨p, lb, b1, b2, b3, b4, b5, b6, b7⟩
            · exact absurd hv' (hno l' h)
            · have h8 := b7 l' h hv'
              have k1 := kc_lt hn6 hmem
              rw [key_kc] at h8 ⊢
              omega
          · rw [List.mem_singleton.mp h]; exact Int.le_refl _
        obtain ⟨L, y1, y2, cur2, q1, q2⟩ := ih (Q ++ [l]) nf (wp (wc μ cur) p') S (nI Q.length) (by simp at hf; omega) (by rw [hp, List.append_assoc]; rfl) hs hvk hC (fun l r h => by rw [e7 l r h] at e9; exact e9) hb2
        rw [hQl] at q1
        exact ⟨L, y1, y2, cur2, q1, q2⟩
    have keep : ¬ v < key t n l → BEST t n v (Q ++ [l]) x1 x2 μ.2.2.2.1.2.2.2 := by
      intro hno
      rcases hb with ⟨h1, h2⟩ | ⟨p, lb, b1, b2, b3, b4, b5, b6, b7⟩
      · refine Or.inl ⟨h1, fun l' hl' => ?_⟩
        rcases List.mem_append.mp hl' with h | h
        · exact h2 l' h
        · rw [List.mem_singleton.mp h]; exact hno
      · refine Or.inr ⟨p, lb, b1, by rw [hQl]; omega, b3, b4, b5, b6, fun l' hl' hv' => ?_⟩
        rcases List.mem_append.mp hl' with h | h
        · exact b7 l' h hv'
        · rw [List.mem_singleton.mp h] at hv'; exact absurd hv' hno
    have hfl : fact n = (PL n).length := (PL_len hn).symm
    have hsn : μ.1.1 = nI n := by rw [hs]; exact hV.1
    rw [s_X4_nextSum_54, hsn, e_factorial4 n hn, Option.bind_some, if_neg (by rw [hfl, nle (by omega) (by omega)]; omega), e1, Option.bind_some]
    by_cases h1 : μ.2.2.2.1.2.1 < S
    · rw [if_pos h1]
      exact s101 (hlat.mpr (Or.inl h1))
    · rw [if_neg h1]
      by_cases h2 : S = μ.2.2.2.1.2.1
      · rw [if_pos h2]
        by_cases h3 : nI Q.length ≤ μ.2.2.2.1.2.2.1
        · rw [if_pos h3]
          refine s106_0 (keep (fun h => ?_))
          rcases hlat.mp h with h | h
          · exact h1 h
          · exact h.2 h3
        · rw [if_neg h3]
          exact s101 (hlat.mpr (Or.inr ⟨h2, h3⟩))
      · rw [if_neg h2]
        refine s106_0 (keep (fun h => ?_))
        rcases hlat.mp h with h | h
        · exact h1 h
        · exact h2 h.1
/-! the class's search -/
theorem adv_loop {t : zT} {n m : Nat} (hV : Vt t n m) (hn6 : n ≤ 6) {K : zK} (hk : K.2.2.2.1 = nI (fact n)) (hkeys : ∀ (k : Nat) (l : List Nat), (PL n)[k]? = some l → (K.2.2.2.2 k).toInt = key t n l) : ∀ (R Q : List (List Nat)) (nf : Nat) (x : Int32), R.length < nf → PL n = Q ++ R →
    ((x = 2147483647 ∧ ∀ l, l ∈ Q → ¬ K.2.2.1.toInt < key t n l) ∨ MinOn Q (fun l => K.2.2.1.toInt < key t n l) (key t n) x.toInt) →
    ∃ y : Int32, s_X2_advance_5 nf K x (nI Q.length) = some (K.1, K.2.1 + 1, y, K.2.2.2.1, K.2.2.2.2) ∧ ((y = 2147483647 ∧ ∀ l, l ∈ PL n → ¬ K.2.2.1.toInt < key t n l) ∨ MinOn (PL n) (fun l => K.2.2.1.toInt < key t n l) (key t n) y.toInt) := by
  have hn : n < 8 := by omega
  have emax : (2147483647 : Int32).toInt = 2147483647 := rfl
  intro R
  induction R with
  | nil =>
    intro Q nf x hf hp hx
    obtain ⟨nf, rfl⟩ : ∃ q, nf = q + 1 := ⟨nf - 1, by omega⟩
    rw [List.append_nil] at hp
    rw [s_X2_advance_5, hk, ← hp, PL_len hn, if_pos (Int32.le_refl _)]
    refine ⟨x, rfl, ?_⟩
    rw [hp]; exact hx
  | cons l R ih =>
    intro Q nf x hf hp hx
    obtain ⟨nf, rfl⟩ : ∃ q, nf = q + 1 := ⟨nf - 1, by omega⟩
    have h5 : fact n ≤ 720 := by
      have : ∀ n, n ≤ 6 → fact n ≤ 720 := by decide
      exact this n hn6
    have hfl : fact n = (PL n).length := (PL_len hn).symm
    have hlen : Q.length < (PL n).length := by rw [hp, List.length_append, List.length_cons]; omega
    have hat : (PL n)[Q.length]? = some l := by rw [hp, List.getElem?_append_right (Nat.le_refl _), Nat.sub_self]; rfl
    have hkl := hkeys _ _ hat
    have hQl : (Q ++ [l]).length = Q.length + 1 := by rw [List.length_append]; rfl
    have h7 : PL n = (Q ++ [l]) ++ R := by rw [hp, List.append_assoc]; rfl
    have go := fun (y : Int32) hy => ih (Q ++ [l]) nf y (by simp at hf; omega) h7 hy
    rw [hQl] at go
    have hmap : ∀ P : List Nat → Prop, ∀ w : Int, MinOn Q P (key t n) w → (P l → w ≤ key t n l) → MinOn (Q ++ [l]) P (key t n) w := by
      intro P w hw hl
      obtain ⟨⟨a, b1, b2, b3⟩, b4⟩ := hw
      refine ⟨⟨a, List.mem_append_left _ b1, b2, b3⟩, fun l' hl' hP => ?_⟩
      rcases List.mem_append.mp hl' with h | h
      · exact b4 l' h hP
      · rw [List.mem_singleton.mp h] at hP ⊢; exact hl hP
    rw [s_X2_advance_5, hk, if_neg (by rw [hfl, nle (by omega) (by omega)]; omega), if_pos (ib_ok (by omega) (by omega)), ncl (by omega), nsucc, ← hk]
    by_cases h1 : K.2.2.2.2 Q.length ≤ K.2.2.1
    · rw [if_pos h1]
      rw [zz_le, hkl] at h1
      refine go x ?_
      rcases hx with ⟨a, b⟩ | hx
      · refine Or.inl ⟨a, fun l' hl' => ?_⟩
        rcases List.mem_append.mp hl' with h | h
        · exact b l' h
        · rw [List.mem_singleton.mp h]; omega
      · exact Or.inr (hmap _ _ hx (fun h => by omega))
    · rw [if_neg h1]
      rw [zz_le, hkl] at h1
      by_cases h2 : x ≤ K.2.2.2.2 Q.length
      · rw [if_pos h2]
        rw [zz_le, hkl] at h2
        refine go x ?_
        rcases hx with ⟨rfl, b⟩ | hx
        · rw [emax, ← hkl] at h2
          have h9 := zz_rng (K.2.2.2.2 Q.length)
          exact Or.inr ⟨⟨l, List.mem_append_right _ List.mem_cons_self, by omega, by rw [emax]; omega⟩, fun l' hl' hP => by
            rcases List.mem_append.mp hl' with h | h
            · exact absurd hP (b l' h)
            · rw [List.mem_singleton.mp h, emax]; omega⟩
        · exact Or.inr (hmap _ _ hx (fun _ => h2))
      · rw [if_neg h2]
        rw [zz_le, hkl] at h2
        refine go _ (Or.inr ⟨⟨l, List.mem_append_right _ List.mem_cons_self, by omega, hkl.symm⟩, fun l' hl' hP => ?_⟩)
        rw [hkl]
        rcases List.mem_append.mp hl' with h | h
        · rcases hx with ⟨rfl, b⟩ | hx
          · exact absurd hP (b l' h)
          · have := hx.2 l' h hP
            omega
        · rw [List.mem_singleton.mp h]; exact Int.le_refl _
