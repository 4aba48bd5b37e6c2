/-! ===== greatest sums, peaks, the first best, counts ===== -/
def okG (C : Nat → Nat → Int) (n V : Nat) (g : Int32) : Prop := IsMax (SS C n (pop V) (n - pop V) V) g.toInt
theorem greatest_loop {s : zS} {n U : Nat} {C : Nat → Nat → Int} (hn : n < 8) (hU : U < 2 ^ n) (hp : pop U < n) (hs : okC s n C) (k16 : zS → Int32 → Option (Int32 × zS))
    (hok : ∀ V, V < 2 ^ n → U < V → okG C n V (s.2.2.2.2 V)) :
    ∀ (d nf j : Nat) (b : Int32), d < nf → j + d = n →
      ((SJ C n (pop U) (n - pop U - 1) U j = [] ∧ b = -2147483648) ∨ IsMax (SJ C n (pop U) (n - pop U - 1) U j) b.toInt) →
      ∃ g, okG C n U g ∧ s_X0_greatestSum_32 k16 nf s (nI U) (nI (pop U)) b (nI j) = k16 (s.1, s.2.1, s.2.2.1, s.2.2.2.1, upd s.2.2.2.2 U g) (nI U + (-1)) := by
  have hU2 : U < 128 := Nat.lt_of_lt_of_le hU (two_pow_le hn)
  have hCb : ∀ i j, i < n → j < n → -100000 ≤ C i j ∧ C i j ≤ 100000 := fun i j hi hj => (hs.2 i j hi hj).2
  intro d
  induction d with
  | zero =>
    intro nf j b hd hj hinv
    obtain ⟨nf, rfl⟩ : ∃ q, nf = q + 1 := ⟨nf - 1, by omega⟩
    have hjn : j = n := by omega
    subst hjn
    rw [s_X0_greatestSum_32, if_pos (by rw [hs.1]; exact Int32.le_refl _), if_pos (ib_ok hU2 (by omega)), ncl (by omega)]
    rw [SJ_full, show j - pop U - 1 + 1 = j - pop U by omega] at hinv
    rcases hinv with ⟨h1, -⟩ | h
    · exact absurd h1 (SS_ne C j hn _ _ U hU (by omega))
    · exact ⟨b, h, rfl⟩
  | succ d ih =>
    intro nf j b hd hj hinv
    obtain ⟨nf, rfl⟩ : ∃ q, nf = q + 1 := ⟨nf - 1, by omega⟩
    rw [s_X0_greatestSum_32, if_neg (by rw [hs.1, nle (by omega) (by omega)]; omega), e_isFree hU2 (by omega), Option.bind_some]
    cases hf : U.testBit j with
    | true =>
      rw [if_pos rfl, if_pos rfl, nsucc]
      refine ih nf (j + 1) b (by omega) (by omega) ?_
      rw [SJ_used C n _ _ U j hf]
      exact hinv
    | false =>
      have hpo := pop_or U hU2 j (by omega) hf
      have hV := or_lt n hn U hU j (by omega)
      have hV2 : U ||| 2 ^ j < 128 := Nat.lt_of_lt_of_le hV (two_pow_le hn)
      have hk := hok _ hV hpo.2
      have hcell : 7 * pop U + j < 49 := by omega
      rw [if_neg (by decide), e_cellIndex, Option.bind_some, if_pos (ib_ok hcell (by omega)), or_eq U hU2 j (by omega), if_pos (ib_ok hV2 (by omega)), ncl (by omega), ncl (by omega), nsucc]
      unfold okG at hk
      rw [hpo.1, show n - (pop U + 1) = n - pop U - 1 by omega] at hk
      have hb := SS_bound C 100000 (by omega) n hCb (n - pop U - 1) (pop U + 1) (U ||| 2 ^ j) (by omega) _ hk.1
      have h7 : ((n - pop U - 1 : Nat) : Int) ≤ 7 := by omega
      have hc := hs.2 (pop U) j hp (by omega)
      generalize hV9 : U ||| 2 ^ j = V at *
      have hsum : (s.2.1 (7 * pop U + j) + s.2.2.2.2 V).toInt = C (pop U) j + (s.2.2.2.2 V).toInt := by
        rw [zz_add (by omega) (by omega), hc.1]
      generalize s.2.1 (7 * pop U + j) + s.2.2.2.2 V = x at *
      have hT := hk.map_add (C (pop U) j)
      rw [← hsum] at hT
      have hSJ := SJ_free C n (pop U) (n - pop U - 1) U j hf
      rw [hV9] at hSJ
      generalize (SS C n (pop U + 1) (n - pop U - 1) V).map (fun x => C (pop U) j + x) = T at *
      refine ih nf (j + 1) _ (by omega) (by omega) (Or.inr ?_)
      rw [hSJ]
      by_cases hbx : b < x
      · rw [if_pos hbx]
        rw [zz_lt] at hbx
        rcases hinv with ⟨h1, -⟩ | h1
        · rw [h1, List.nil_append]; exact hT
        · exact h1.app_gt hT hbx
      · rw [if_neg hbx]
        rw [zz_lt] at hbx
        rcases hinv with ⟨-, rfl⟩ | h1
        · exact absurd (show (-2147483648 : Int32).toInt < x.toInt by rw [show (-2147483648 : Int32).toInt = -2147483648 from rfl]; omega) hbx
        · exact h1.app_ge hT (by omega)
theorem greatestSum_loop {n : Nat} {C : Nat → Nat → Int} (hn : n < 8) : ∀ (u nf : Nat) (s : zS), u < nf → u ≤ 2 ^ n - 1 → okC s n C → (∀ V, V < 2 ^ n → u ≤ V → okG C n V (s.2.2.2.2 V)) →
    ∃ ga : zF, s_X0_greatestSum_16 nf s (nI u + (-1)) = some (ga 0, (s.1, s.2.1, s.2.2.1, s.2.2.2.1, ga)) ∧ ∀ V, V < 2 ^ n → okG C n V (ga V) := by
  intro u
  induction u with
  | zero =>
    intro nf s hf _ hs hok
    obtain ⟨nf, rfl⟩ : ∃ q, nf = q + 1 := ⟨nf - 1, by omega⟩
    refine ⟨s.2.2.2.2, ?_, fun V hV => hok V hV (Nat.zero_le V)⟩
    rw [s_X0_greatestSum_16, if_pos n_neg0, if_pos (by decide)]
    rfl
  | succ u ih =>
    intro nf s hf hu hs hok
    have h2 := two_pow_le hn
    obtain ⟨nf, rfl⟩ : ∃ q, nf = q + 1 := ⟨nf - 1, by omega⟩
    rw [npred (by omega), Nat.add_sub_cancel, s_X0_greatestSum_16, if_neg (n_not_neg (by omega)), e_bitCount u (by omega), Option.bind_some]
    obtain ⟨g, h1, h3⟩ := greatest_loop hn (U := u) (by omega) (pop_lt n hn u (by omega)) hs (fun v0 v1 => s_X0_greatestSum_16 nf v0 v1) (fun V hV hl => hok V hV hl) n FU 0 (-2147483648) (by unfold FU; omega) (by omega) (Or.inl ⟨SJ_zero _ _ _ _ _, rfl⟩)
    rw [show (0 : Int32) = nI 0 from rfl, h3]
    exact ih nf (s.1, s.2.1, s.2.2.1, s.2.2.2.1, upd s.2.2.2.2 u g) (by omega) (by omega) hs (fun V hV hl => by
      by_cases hVu : V = u
      · subst hVu
        show okG C n V (upd _ _ _ _)
        rw [upd_same]
        exact h1
      · show okG C n V (upd _ _ _ _)
        rw [upd_ne hVu]
        exact hok V hV (by omega))
theorem sub_one (x : Int32) : x - 1 = x + (-1) := by rw [Int32.sub_eq_add_neg]
theorem e_greatestSum {s : zS} {n : Nat} {C : Nat → Nat → Int} (hn : n < 8) (hs : okC s n C) : ∃ ga : zF, s_X0_greatestSum s = some (ga 0, (s.1, s.2.1, s.2.2.1, s.2.2.2.1, ga)) ∧ ∀ V, V < 2 ^ n → okG C n V (ga V) := by
  have h2 := two_pow_le hn
  have h3 : 0 < 2 ^ n := Nat.pow_pos (by omega)
  unfold s_X0_greatestSum
  rw [e_allColumns hn hs.1, Option.bind_some, if_pos (ib_ok (by omega) (by omega)), ncl (by omega), sub_one]
  refine greatestSum_loop hn (2 ^ n - 1) FU (s.1, s.2.1, s.2.2.1, s.2.2.2.1, upd s.2.2.2.2 (2 ^ n - 1) 0) (by unfold FU; omega) (Nat.le_refl _) hs (fun V hV hl => ?_)
  have : V = 2 ^ n - 1 := by omega
  subst this
  show okG C n _ (upd _ _ _ _)
  rw [upd_same]
  unfold okG
  rw [pop_full n hn, Nat.sub_self, SS_zero]
  exact IsMax.one 0
/-! peaks -/
def pk (C : Nat → Nat → Int) : Nat → List Nat → Int
  | _, [] => 0
  | r, c :: p => max (C r c) (pk C (r + 1) p)
def PP (C : Nat → Nat → Int) (n r k U : Nat) : List Int := (cps n k U).map (pk C r)
theorem PP_zero (C : Nat → Nat → Int) (n r U : Nat) : PP C n r 0 U = [0] := rfl
theorem PP_succ (C : Nat → Nat → Int) (n r k U : Nat) : PP C n r (k + 1) U = (fr n U).flatMap (fun c => (PP C n (r + 1) k (U ||| 2 ^ c)).map (fun x => max (C r c) x)) := by
  unfold PP
  rw [cps, List.map_flatMap]
  congr 1
  funext c
  rw [List.map_map, List.map_map]
  rfl
def PJ (C : Nat → Nat → Int) (n r k U j : Nat) : List Int := ((List.range j).filter (fun c => !U.testBit c)).flatMap (fun c => (PP C n (r + 1) k (U ||| 2 ^ c)).map (fun x => max (C r c) x))
theorem PJ_zero (C : Nat → Nat → Int) (n r k U : Nat) : PJ C n r k U 0 = [] := rfl
theorem PJ_full (C : Nat → Nat → Int) (n r k U : Nat) : PJ C n r k U n = PP C n r (k + 1) U := (PP_succ C n r k U).symm
theorem PJ_free (C : Nat → Nat → Int) (n r k U j : Nat) (h : U.testBit j = false) : PJ C n r k U (j + 1) = PJ C n r k U j ++ (PP C n (r + 1) k (U ||| 2 ^ j)).map (fun x => max (C r j) x) := by
  unfold PJ
  rw [List.range_succ, List.filter_append, List.flatMap_append]
  simp [h]
theorem PJ_used (C : Nat → Nat → Int) (n r k U j : Nat) (h : U.testBit j = true) : PJ C n r k U (j + 1) = PJ C n r k U j := by
  unfold PJ
  rw [List.range_succ, List.filter_append, List.flatMap_append]
  simp [h]
theorem PP_ne (C : Nat → Nat → Int) (n : Nat) (hn : n < 8) (k r U : Nat) (hU : U < 2 ^ n) (hp : pop U + k = n) : PP C n r k U ≠ [] := by
  intro h
  have h2 := SS_ne C n hn k r U hU hp
  unfold PP at h
  unfold SS at h2
  rw [List.map_eq_nil_iff] at h
  rw [h] at h2
  exact h2 rfl
theorem IsMin.map_max {S : List Int} {v : Int} (h : IsMin S v) (a : Int) : IsMin (S.map (fun x => max a x)) (max a v) := by
  refine ⟨List.mem_map.mpr ⟨v, h.1, rfl⟩, fun x hx => ?_⟩
  obtain ⟨y, hy, rfl⟩ := List.mem_map.mp hx
  have := h.2 y hy
  omega
theorem PP_bound (C : Nat → Nat → Int) (n : Nat) (hC : ∀ i j, i < n → j < n → -100000 ≤ C i j ∧ C i j ≤ 100000) : ∀ (k r U : Nat), r + k ≤ n → ∀ x ∈ PP C n r k U, 0 ≤ x ∧ x ≤ 100000 := by
  intro k
  induction k with
  | zero => intro r U _ x hx; rw [PP_zero] at hx; rw [List.mem_singleton.mp hx]; omega
  | succ k ih =>
    intro r U hr x hx
    rw [PP_succ] at hx
    obtain ⟨c, hc, hx⟩ := List.mem_flatMap.mp hx
    obtain ⟨y, hy, rfl⟩ := List.mem_map.mp hx
    have h1 := ih (r + 1) _ (by omega) y hy
    have h2 := hC r c (by omega) (mem_fr.mp hc).1
    omega
def okP (C : Nat → Nat → Int) (n V : Nat) (g : Int32) : Prop := IsMin (PP C n (pop V) (n - pop V) V) g.toInt
theorem peak_loop {s : zS} {n U : Nat} {C : Nat → Nat → Int} (hn : n < 8) (hU : U < 2 ^ n) (hp : pop U < n) (hs : okC s n C) (k16 : zS → Int32 → Option (Int32 × zS))
    (hok : ∀ V, V < 2 ^ n → U < V → okP C n V (s.2.2.1 V)) :
    ∀ (d nf j : Nat) (b : Int32), d < nf → j + d = n →
      ((PJ C n (pop U) (n - pop U - 1) U j = [] ∧ b = 2147483647) ∨ IsMin (PJ C n (pop U) (n - pop U - 1) U j) b.toInt) →
      ∃ g, okP C n U g ∧ s_X0_leastPeak_32 k16 nf s (nI U) (nI (pop U)) b (nI j) = k16 (s.1, s.2.1, upd s.2.2.1 U g, s.2.2.2.1, s.2.2.2.2) (nI U + (-1)) := by
  have hU2 : U < 128 := Nat.lt_of_lt_of_le hU (two_pow_le hn)
  have hCb : ∀ i j, i < n → j < n → -100000 ≤ C i j ∧ C i j ≤ 100000 := fun i j hi hj => (hs.2 i j hi hj).2
  intro d
  induction d with
  | zero =>
    intro nf j b hd hj hinv
    obtain ⟨nf, rfl⟩ : ∃ q, nf = q + 1 := ⟨nf - 1, by omega⟩
    have hjn : j = n := by omega
    subst hjn
    rw [s_X0_leastPeak_32, if_pos (by rw [hs.1]; exact Int32.le_refl _), if_pos (ib_ok hU2 (by omega)), ncl (by omega)]
    rw [PJ_full, show j - pop U - 1 + 1 = j - pop U by omega] at hinv
    rcases hinv with ⟨h1, -⟩ | h
    · exact absurd h1 (PP_ne C j hn _ _ U hU (by omega))
    · exact ⟨b, h, rfl⟩
  | succ d ih =>
    intro nf j b hd hj hinv
    obtain ⟨nf, rfl⟩ : ∃ q, nf = q + 1 := ⟨nf - 1, by omega⟩
    rw [s_X0_leastPeak_32, if_neg (by rw [hs.1, nle (by omega) (by omega)]; omega), e_isFree hU2 (by omega), Option.bind_some]
    cases hf : U.testBit j with
    | true =>
      rw [if_pos rfl, if_pos rfl, nsucc]
      refine ih nf (j + 1) b (by omega) (by omega) ?_
      rw [PJ_used C n _ _ U j hf]
      exact hinv
    | false =>
      have hpo := pop_or U hU2 j (by omega) hf
      have hV := or_lt n hn U hU j (by omega)
      have hV2 : U ||| 2 ^ j < 128 := Nat.lt_of_lt_of_le hV (two_pow_le hn)
      have hk := hok _ hV hpo.2
      have hcell : 7 * pop U + j < 49 := by omega
      rw [if_neg (by decide), e_cellIndex, Option.bind_some, if_pos (ib_ok hcell (by omega)), or_eq U hU2 j (by omega), if_pos (ib_ok hV2 (by omega)), ncl (by omega), ncl (by omega), nsucc]
      unfold okP at hk
      rw [hpo.1, show n - (pop U + 1) = n - pop U - 1 by omega] at hk
      have hb := PP_bound C n hCb (n - pop U - 1) (pop U + 1) (U ||| 2 ^ j) (by omega) _ hk.1
      have hc := hs.2 (pop U) j hp (by omega)
      generalize hV9 : U ||| 2 ^ j = V at *
      have hsum : (if s.2.1 (7 * pop U + j) < s.2.2.1 V then s.2.2.1 V else s.2.1 (7 * pop U + j)).toInt = max (C (pop U) j) (s.2.2.1 V).toInt := by
        by_cases h : s.2.1 (7 * pop U + j) < s.2.2.1 V
        · rw [if_pos h]; rw [zz_lt] at h; omega
        · rw [if_neg h]; rw [zz_lt] at h; omega
      generalize (if s.2.1 (7 * pop U + j) < s.2.2.1 V then s.2.2.1 V else s.2.1 (7 * pop U + j)) = x at *
      have hT := hk.map_max (C (pop U) j)
      rw [← hsum] at hT
      have hSJ := PJ_free C n (pop U) (n - pop U - 1) U j hf
      rw [hV9] at hSJ
      generalize (PP C n (pop U + 1) (n - pop U - 1) V).map (fun x => max (C (pop U) j) x) = T at *
      refine ih nf (j + 1) _ (by omega) (by omega) (Or.inr ?_)
      rw [hSJ]
      by_cases hbx : x < b
      · rw [if_pos hbx]
        rw [zz_lt] at hbx
        rcases hinv with ⟨h1, -⟩ | h1
        · rw [h1, List.nil_append]; exact hT
        · exact h1.app_lt hT hbx
      · rw [if_neg hbx]
        rw [zz_lt] at hbx
        rcases hinv with ⟨-, rfl⟩ | h1
        · exact absurd (show x.toInt < (2147483647 : Int32).toInt by rw [show (2147483647 : Int32).toInt = 2147483647 from rfl]; omega) hbx
        · exact h1.app_le hT (by omega)
theorem leastPeak_loop {n : Nat} {C : Nat → Nat → Int} (hn : n < 8) : ∀ (u nf : Nat) (s : zS), u < nf → u ≤ 2 ^ n - 1 → okC s n C → (∀ V, V < 2 ^ n → u ≤ V → okP C n V (s.2.2.1 V)) →
    ∃ ga : zF, s_X0_leastPeak_16 nf s (nI u + (-1)) = some (ga 0, (s.1, s.2.1, ga, s.2.2.2.1, s.2.2.2.2)) ∧ ∀ V, V < 2 ^ n → okP C n V (ga V) := by
  intro u
  induction u with
  | zero =>
    intro nf s hf _ hs hok
    obtain ⟨nf, rfl⟩ : ∃ q, nf = q + 1 := ⟨nf - 1, by omega⟩
    refine ⟨s.2.2.1, ?_, fun V hV => hok V hV (Nat.zero_le V)⟩
    rw [s_X0_leastPeak_16, if_pos n_neg0, if_pos (by decide)]
    rfl
  | succ u ih =>
    intro nf s hf hu hs hok
    have h2 := two_pow_le hn
    obtain ⟨nf, rfl⟩ : ∃ q, nf = q + 1 := ⟨nf - 1, by omega⟩
    rw [npred (by omega), Nat.add_sub_cancel, s_X0_leastPeak_16, if_neg (n_not_neg (by omega)), e_bitCount u (by omega), Option.bind_some]
    obtain ⟨g, h1, h3⟩ := peak_loop hn (U := u) (by omega) (pop_lt n hn u (by omega)) hs (fun v0 v1 => s_X0_leastPeak_16 nf v0 v1) (fun V hV hl => hok V hV hl) n FU 0 2147483647 (by unfold FU; omega) (by omega) (Or.inl ⟨PJ_zero _ _ _ _ _, rfl⟩)
    rw [show (0 : Int32) = nI 0 from rfl, h3]
    exact ih nf (s.1, s.2.1, upd s.2.2.1 u g, s.2.2.2.1, s.2.2.2.2) (by omega) (by omega) hs (fun V hV hl => by
      by_cases hVu : V = u
      · subst hVu
        show okP C n V (upd _ _ _ _)
        rw [upd_same]
        exact h1
      · show okP C n V (upd _ _ _ _)
        rw [upd_ne hVu]
        exact hok V hV (by omega))
theorem e_leastPeak {s : zS} {n : Nat} {C : Nat → Nat → Int} (hn : n < 8) (hs : okC s n C) : ∃ ga : zF, s_X0_leastPeak s = some (ga 0, (s.1, s.2.1, ga, s.2.2.2.1, s.2.2.2.2)) ∧ ∀ V, V < 2 ^ n → okP C n V (ga V) := by
  have h2 := two_pow_le hn
  have h3 : 0 < 2 ^ n := Nat.pow_pos (by omega)
  unfold s_X0_leastPeak
  rw [e_allColumns hn hs.1, Option.bind_some, if_pos (ib_ok (by omega) (by omega)), ncl (by omega), sub_one]
  refine leastPeak_loop hn (2 ^ n - 1) FU (s.1, s.2.1, upd s.2.2.1 (2 ^ n - 1) 0, s.2.2.2.1, s.2.2.2.2) (by unfold FU; omega) (Nat.le_refl _) hs (fun V hV hl => ?_)
  have : V = 2 ^ n - 1 := by omega
  subst this
  show okP C n _ (upd _ _ _ _)
  rw [upd_same]
  unfold okP
  rw [pop_full n hn, Nat.sub_self, PP_zero]
  exact IsMin.one 0
/-! the first best -/
def ft (C : Nat → Nat → Int) (n r k U : Nat) (v : Int) : Option (List Nat) := (cps n k U).find? (fun p => decide (sm C r p = v))
theorem fr_split {n U c : Nat} (hc : c < n) (hf : U.testBit c = false) : ∃ l2, fr n U = (List.range c).filter (fun c => !U.testBit c) ++ c :: l2 := by
  obtain ⟨b, rfl⟩ : ∃ b, n = c + (b + 1) := ⟨n - c - 1, by omega⟩
  unfold fr
  rw [List.range_add, List.filter_append, List.range_succ_eq_map, List.map_cons, List.filter_cons]
  simp only [Nat.add_zero, hf, Bool.not_false, if_true]
  exact ⟨_, rfl⟩
theorem ft_first {C : Nat → Nat → Int} {n r k U c : Nat} {v lv : Int} {p : List Nat} (hc : c < n) (hf : U.testBit c = false) (hv : C r c + lv = v) (hsub : ft C n (r + 1) k (U ||| 2 ^ c) lv = some p)
    (hb : ∀ c', c' < c → U.testBit c' = false → ∀ x ∈ SS C n (r + 1) k (U ||| 2 ^ c'), C r c' + x ≠ v) : ft C n r (k + 1) U v = some (c :: p) := by
  obtain ⟨l2, hl⟩ := fr_split hc hf
  unfold ft at *
  rw [cps, List.find?_flatMap, List.findSome?_eq_some_iff]
  refine ⟨_, c, l2, hl, ?_, fun c' hc' => ?_⟩
  · rw [List.find?_map]
    have e : ((fun p => decide (sm C r p = v)) ∘ fun p => c :: p) = fun p => decide (sm C (r + 1) p = lv) := by
      funext q
      show decide (C r c + sm C (r + 1) q = v) = _
      congr 1
      exact propext ⟨fun h => by omega, fun h => by omega⟩
    rw [e, hsub]
    rfl
  · rw [List.find?_map, Option.map_eq_none_iff, List.find?_eq_none]
    intro q hq
    simp only [List.mem_filter, List.mem_range] at hc'
    have := hb c' hc'.1 (by simpa using hc'.2) (sm C (r + 1) q) (List.mem_map.mpr ⟨q, hq, rfl⟩)
    show ¬ (decide (C r c' + sm C (r + 1) q = v) = true)
    simpa using this
theorem e_isOnLeast {s : zS} {n U j : Nat} {C : Nat → Nat → Int} (hn : n < 8) (hU : U < 2 ^ n) (hs : okC s n C) (hp : pop U < n) (hj : j < n) (hf : U.testBit j = false) (hl : ∀ V, V < 2 ^ n → okL C n V (s.2.2.1 V) (s.2.2.2.1 V)) :
    s_X0_isOnLeast s (nI (pop U)) (nI j) (nI U) = some (if C (pop U) j + (s.2.2.1 (U ||| 2 ^ j)).toInt = (s.2.2.1 U).toInt then 1 else 0) := by
  have hU2 : U < 128 := Nat.lt_of_lt_of_le hU (two_pow_le hn)
  have hV := or_lt n hn U hU j hj
  have hpo := pop_or U hU2 j (by omega) hf
  have hV2 : U ||| 2 ^ j < 128 := Nat.lt_of_lt_of_le hV (two_pow_le hn)
  have hCb : ∀ i j, i < n → j < n → -100000 ≤ C i j ∧ C i j ≤ 100000 := fun i j hi hj => (hs.2 i j hi hj).2
  have b1 := okL_bound hn hCb (by omega) (hl _ hV).1
  have hc := hs.2 (pop U) j hp hj
  unfold s_X0_isOnLeast
  rw [e_cellIndex, Option.bind_some, if_pos (ib_ok (by omega) (by omega)), or_eq U hU2 j (by omega), if_pos (ib_ok hV2 (by omega)), if_pos (ib_ok hU2 (by omega)), ncl (by omega), ncl (by omega), ncl (by omega)]
  generalize U ||| 2 ^ j = V at *
  by_cases h : C (pop U) j + (s.2.2.1 V).toInt = (s.2.2.1 U).toInt
  · rw [if_pos (by rw [zz_inj, zz_add (by omega) (by omega), hc.1]; exact h), if_pos h]
  · rw [if_neg (by rw [zz_inj, zz_add (by omega) (by omega), hc.1]; exact h), if_neg h]
/-- the inner loop finds the first column on a best way -/
theorem trace_inner {s : zS} {n U : Nat} {C : Nat → Nat → Int} (hn : n < 8) (hU : U < 2 ^ n) (hs : okC s n C) (hp : pop U < n) (hl : ∀ V, V < 2 ^ n → okL C n V (s.2.2.1 V) (s.2.2.2.1 V)) (k4 : zS → zF → Int32 → Int32 → Option zF) (f : zF) :
    ∀ (d nf j : Nat), d < nf → j + d = n → (∃ c, j ≤ c ∧ c < n ∧ U.testBit c = false ∧ C (pop U) c + (s.2.2.1 (U ||| 2 ^ c)).toInt = (s.2.2.1 U).toInt) →
      ∃ c, j ≤ c ∧ c < n ∧ U.testBit c = false ∧ C (pop U) c + (s.2.2.1 (U ||| 2 ^ c)).toInt = (s.2.2.1 U).toInt ∧ (∀ c', j ≤ c' → c' < c → U.testBit c' = false → C (pop U) c' + (s.2.2.1 (U ||| 2 ^ c')).toInt ≠ (s.2.2.1 U).toInt) ∧
        s_X0_traceLeast_15 k4 nf s f (nI U) (nI (pop U)) (nI j) = k4 s (upd f (pop U) (nI c)) (nI (U ||| 2 ^ c)) (nI (pop U + 1)) := by
  have hU2 : U < 128 := Nat.lt_of_lt_of_le hU (two_pow_le hn)
  intro d
  induction d with
  | zero =>
    intro nf j hd hj hex
    obtain ⟨c, h1, h2, -⟩ := hex
    omega
  | succ d ih =>
    intro nf j hd hj hex
    obtain ⟨nf, rfl⟩ : ∃ q, nf = q + 1 := ⟨nf - 1, by omega⟩
    rw [s_X0_traceLeast_15, if_neg (by rw [hs.1, nle (by omega) (by omega)]; omega), e_isFree hU2 (by omega), Option.bind_some]
    have step : (U.testBit j = false → C (pop U) j + (s.2.2.1 (U ||| 2 ^ j)).toInt ≠ (s.2.2.1 U).toInt) → ∃ c, j ≤ c ∧ c < n ∧ U.testBit c = false ∧ C (pop U) c + (s.2.2.1 (U ||| 2 ^ c)).toInt = (s.2.2.1 U).toInt ∧ (∀ c', j ≤ c' → c' < c → U.testBit c' = false → C (pop U) c' + (s.2.2.1 (U ||| 2 ^ c')).toInt ≠ (s.2.2.1 U).toInt) ∧
        s_X0_traceLeast_15 k4 nf s f (nI U) (nI (pop U)) (nI (j + 1)) = k4 s (upd f (pop U) (nI c)) (nI (U ||| 2 ^ c)) (nI (pop U + 1)) := fun hno => by
      obtain ⟨c0, g1, g2, g3, g4⟩ := hex
      have hne : c0 ≠ j := fun h => by subst h; exact hno g3 g4
      obtain ⟨c, h1, h2, h3, h4, h5, h6⟩ := ih nf (j + 1) (by omega) (by omega) ⟨c0, by omega, g2, g3, g4⟩
      refine ⟨c, by omega, h2, h3, h4, fun c' q1 q2 q3 => ?_, h6⟩
      by_cases hcj : c' = j
      · subst hcj; exact hno q3
      · exact h5 c' (by omega) q2 q3
    cases hf : U.testBit j with
    | true =>
      rw [if_pos rfl, if_pos rfl, nsucc]
      exact step (fun h => by rw [hf] at h; cases h)
    | false =>
      rw [if_neg (by decide), e_isOnLeast hn hU hs hp (by omega) hf hl, Option.bind_some]
      by_cases he : C (pop U) j + (s.2.2.1 (U ||| 2 ^ j)).toInt = (s.2.2.1 U).toInt
      · rw [if_pos he, if_neg (by decide), if_pos (ib_ok (by omega) (by omega)), or_eq U hU2 j (by omega), ncl (by omega), nsucc]
        exact ⟨j, Nat.le_refl _, by omega, hf, he, fun c' q1 q2 => by omega, rfl⟩
      · rw [if_neg he, if_pos rfl, nsucc]
        exact step (fun _ => he)
theorem trace_loop {s : zS} {n : Nat} {C : Nat → Nat → Int} (hn : n < 8) (hs : okC s n C) (hl : ∀ V, V < 2 ^ n → okL C n V (s.2.2.1 V) (s.2.2.2.1 V)) :
    ∀ (k nf U : Nat) (f : zF), k < nf → U < 2 ^ n → pop U + k = n → ∃ (p : List Nat) (f2 : zF), ft C n (pop U) k U (s.2.2.1 U).toInt = some p ∧ s_X0_traceLeast_4 nf s f (nI U) (nI (pop U)) = some f2 ∧
      (∀ i, i < k → f2 (pop U + i) = nI (p.getD i 0)) ∧ ∀ i, i < pop U → f2 i = f i := by
  intro k
  induction k with
  | zero =>
    intro nf U f hf hU hp
    obtain ⟨nf, rfl⟩ : ∃ q, nf = q + 1 := ⟨nf - 1, by omega⟩
    refine ⟨[], f, ?_, ?_, fun i h => by omega, fun i _ => rfl⟩
    · have h := (hl U hU).1.1
      rw [show n - pop U = 0 by omega, SS_zero] at h
      rw [List.mem_singleton.mp h]
      rfl
    · rw [s_X0_traceLeast_4, if_pos (by rw [hs.1, nle (by omega) (by omega)]; omega)]
  | succ k ih =>
    intro nf U f hf hU hp
    obtain ⟨nf, rfl⟩ : ∃ q, nf = q + 1 := ⟨nf - 1, by omega⟩
    have hU2 : U < 128 := Nat.lt_of_lt_of_le hU (two_pow_le hn)
    rw [s_X0_traceLeast_4, if_neg (by rw [hs.1, nle (by omega) (by omega)]; omega), n0]
    have hmin := (hl U hU).1
    rw [show n - pop U = k + 1 by omega, SS_succ] at hmin
    obtain ⟨hm1, hm2⟩ := hmin
    have sub : ∀ c, c < n → U.testBit c = false → IsMin (SS C n (pop U + 1) k (U ||| 2 ^ c)) (s.2.2.1 (U ||| 2 ^ c)).toInt := fun c hc hf => by
      have h := (hl _ (or_lt n hn U hU c hc)).1
      rw [(pop_or U hU2 c (by omega) hf).1, show n - (pop U + 1) = k by omega] at h
      exact h
    have ge : ∀ c, c < n → U.testBit c = false → ∀ x ∈ SS C n (pop U + 1) k (U ||| 2 ^ c), (s.2.2.1 U).toInt ≤ C (pop U) c + x := fun c hc hf x hx =>
      hm2 _ (List.mem_flatMap.mpr ⟨c, mem_fr.mpr ⟨hc, hf⟩, List.mem_map.mpr ⟨x, hx, rfl⟩⟩)
    obtain ⟨c0, hc0, hx0⟩ := List.mem_flatMap.mp hm1
    obtain ⟨x0, hx0, he0⟩ := List.mem_map.mp hx0
    obtain ⟨hc0, hf0⟩ := mem_fr.mp hc0
    have hex : ∃ c, 0 ≤ c ∧ c < n ∧ U.testBit c = false ∧ C (pop U) c + (s.2.2.1 (U ||| 2 ^ c)).toInt = (s.2.2.1 U).toInt := by
      refine ⟨c0, Nat.zero_le _, hc0, hf0, ?_⟩
      have h1 := (sub c0 hc0 hf0).2 x0 hx0
      have h2 := ge c0 hc0 hf0 _ (sub c0 hc0 hf0).1
      omega
    obtain ⟨c, -, h2, h3, h4, h5, h6⟩ := trace_inner hn hU hs (by omega) hl (fun v0 v1 v2 v3 => s_X0_traceLeast_4 nf v0 v1 v2 v3) f n FU 0 (by unfold FU; omega) (by omega) hex
    rw [h6]
    have hpo := (pop_or U hU2 c (by omega) h3).1
    obtain ⟨p, f2, i1, i2, i3, i4⟩ := ih nf (U ||| 2 ^ c) (upd f (pop U) (nI c)) (by omega) (or_lt n hn U hU c h2) (by omega)
    rw [hpo] at i1 i2 i3 i4
    refine ⟨c :: p, f2, ?_, i2, fun i hi => ?_, fun i hi => ?_⟩
    · refine ft_first h2 h3 h4 i1 (fun c' hc' hf' x hx => ?_)
      have g1 := h5 c' (Nat.zero_le _) hc' hf'
      have g2 := ge c' (by omega) hf' _ (sub c' (by omega) hf').1
      have g3 := (sub c' (by omega) hf').2 x hx
      omega
    · cases i with
      | zero =>
        rw [Nat.add_zero, i4 (pop U) (by omega), upd_same]
        rfl
      | succ i =>
        rw [show pop U + (i + 1) = pop U + 1 + i by omega, i3 i (by omega)]
        rfl
    · rw [i4 i (by omega), upd_ne (by omega)]
theorem e_traceLeast {s : zS} {n : Nat} {C : Nat → Nat → Int} (hn : n < 8) (hs : okC s n C) (hl : ∀ V, V < 2 ^ n → okL C n V (s.2.2.1 V) (s.2.2.2.1 V)) (f : zF) :
    ∃ (p : List Nat) (f2 : zF), ft C n 0 n 0 (s.2.2.1 0).toInt = some p ∧ s_X0_traceLeast s f = some f2 ∧ ∀ i, i < n → f2 i = nI (p.getD i 0) := by
  obtain ⟨p, f2, h1, h2, h3, -⟩ := trace_loop hn hs hl n FU 0 f (by unfold FU; omega) (Nat.pow_pos (by omega)) (by rw [pop_zero]; omega)
  rw [pop_zero] at h1 h2 h3
  refine ⟨p, f2, h1, h2, fun i hi => ?_⟩
  have := h3 i hi
  rwa [Nat.zero_add] at this
