/-! ===== goOn on arrays is nx on lists ===== -/
def rp (p : zF) (l : List Nat) : Prop := l.length = 7 ∧ (∀ k, k < 7 → l.getD k 0 < 7) ∧ ∀ k, k < 7 → p k = nI (l.getD k 0)
abbrev wp (μ : zM) (p : zF) : zM := (μ.1, μ.2.1, (μ.2.2.1.1, μ.2.2.1.2.1, p, μ.2.2.1.2.2.2), μ.2.2.2.1, μ.2.2.2.2)
theorem getD_set {l : List Nat} {a : Nat} (h : a < l.length) (x k : Nat) : (l.set a x).getD k 0 = if k = a then x else l.getD k 0 := by
  rw [List.getD_eq_getElem?_getD, List.getElem?_set]
  by_cases hk : a = k
  · subst hk
    simp [h]
  · rw [if_neg hk, if_neg (fun h => hk h.symm), List.getD_eq_getElem?_getD]
theorem rp_xch {p : zF} {l : List Nat} {a b : Nat} (h : rp p l) (ha : a < 7) (hb : b < 7) : rp (upd (upd p a (p b)) b (p a)) (xch l a b) := by
  obtain ⟨h1, h2, h3⟩ := h
  unfold xch
  have e : ∀ k, k < 7 → ((l.set a (l.getD b 0)).set b (l.getD a 0)).getD k 0 = if k = b then l.getD a 0 else if k = a then l.getD b 0 else l.getD k 0 := fun k _ => by
    rw [getD_set (by rw [List.length_set]; omega), getD_set (by omega)]
  refine ⟨by simp [h1], fun k hk => ?_, fun k hk => ?_⟩
  · rw [e k hk]
    split
    · exact h2 a ha
    · split
      · exact h2 b hb
      · exact h2 k hk
  · rw [e k hk]
    by_cases hkb : k = b
    · subst hkb
      rw [upd_same, if_pos rfl, h3 a ha]
    · rw [upd_ne hkb, if_neg hkb]
      by_cases hka : k = a
      · subst hka
        rw [upd_same, if_pos rfl, h3 b hb]
      · rw [upd_ne hka, if_neg hka, h3 k hk]
theorem e_exchange (μ : zM) {a b : Nat} (ha : a < 7) (hb : b < 7) : s_X4_exchange μ (nI a) (nI b) = some (wp μ (upd (upd μ.2.2.1.2.2.1 a (μ.2.2.1.2.2.1 b)) b (μ.2.2.1.2.2.1 a))) := by
  unfold s_X4_exchange
  rw [if_pos (ib_ok ha (by omega)), if_pos (ib_ok hb (by omega)), if_pos (ib_ok ha (by omega)), if_pos (ib_ok hb (by omega)), ncl (by omega), ncl (by omega)]
theorem goOn77 : ∀ (f nf lo hi : Nat) (μ : zM) (l : List Nat), f < nf → hi - lo ≤ f → lo ≤ 7 → hi < 7 → rp μ.2.2.1.2.2.1 l → ∃ p', s_X4_goOn_77 nf μ (nI lo) (nI hi) = some (wp μ p') ∧ rp p' (g77 f l lo hi) := by
  intro f
  induction f with
  | zero =>
    intro nf lo hi μ l hf hd hlo hhi hr
    obtain ⟨nf, rfl⟩ : ∃ q, nf = q + 1 := ⟨nf - 1, by omega⟩
    refine ⟨μ.2.2.1.2.2.1, ?_, hr⟩
    rw [s_X4_goOn_77, if_pos (by rw [nle (by omega) (by omega)]; omega)]
  | succ f ih =>
    intro nf lo hi μ l hf hd hlo hhi hr
    obtain ⟨nf, rfl⟩ : ∃ q, nf = q + 1 := ⟨nf - 1, by omega⟩
    rw [g77]
    by_cases h : hi ≤ lo
    · rw [if_pos h]
      refine ⟨μ.2.2.1.2.2.1, ?_, hr⟩
      rw [s_X4_goOn_77, if_pos (by rw [nle (by omega) (by omega)]; exact h)]
    · rw [if_neg h, s_X4_goOn_77, if_neg (by rw [nle (by omega) (by omega)]; exact h), e_exchange μ (by omega) (by omega), Option.bind_some, nsucc, npred (by omega)]
      obtain ⟨p', e1, e2⟩ := ih nf (lo + 1) (hi - 1) (wp μ (upd (upd μ.2.2.1.2.2.1 lo (μ.2.2.1.2.2.1 hi)) hi (μ.2.2.1.2.2.1 lo))) (xch l lo hi) (by omega) (by omega) (by omega) (by omega) (rp_xch hr (by omega) (by omega))
      exact ⟨p', e1, e2⟩
theorem goOn40 {n q : Nat} (hn : n < 8) (hn1 : 1 ≤ n) (hq : q + 1 < n) : ∀ (w nf : Nat) (μ : zM) (l : List Nat) (w2 : Nat), w < nf → w < 7 → rp μ.2.2.1.2.2.1 l → g40 l q w = some w2 → ∃ p', s_X4_goOn_40 nf μ (nI n) (nI q) (nI w) = some (wp μ p') ∧ rp p' (g77 7 (xch l q w2) (q + 1) (n - 1)) := by
  intro w
  induction w with
  | zero => intro nf μ l w2 _ _ _ h; rw [g40] at h; cases h
  | succ w ih =>
    intro nf μ l w2 hf hw hr h
    obtain ⟨nf, rfl⟩ : ∃ q, nf = q + 1 := ⟨nf - 1, by omega⟩
    have hr2 := hr
    obtain ⟨h1, h2, h3⟩ := hr2
    have b1 := h2 q (by omega)
    have b2 := h2 (w + 1) hw
    rw [g40] at h
    rw [s_X4_goOn_40, if_pos (ib_ok hw (by omega)), if_pos (ib_ok (by omega) (by omega)), ncl (by omega), ncl (by omega), h3 q (by omega), h3 (w + 1) hw]
    by_cases hc : l.getD q 0 ≤ l.getD (w + 1) 0
    · rw [if_pos hc] at h
      obtain rfl := Option.some.inj h
      rw [if_pos (by rw [nle (by omega) (by omega)]; exact hc), e_exchange μ (by omega) hw, Option.bind_some, nsucc, sub_one, npred (by omega)]
      obtain ⟨p', e1, e2⟩ := goOn77 7 FU (q + 1) (n - 1) (wp μ (upd (upd μ.2.2.1.2.2.1 q (μ.2.2.1.2.2.1 (w + 1))) (w + 1) (μ.2.2.1.2.2.1 q))) (xch l q (w + 1)) (by unfold FU; omega) (by omega) (by omega) (by omega) (rp_xch hr (by omega) hw)
      exact ⟨p', e1, e2⟩
    · rw [if_neg hc] at h
      rw [if_neg (by rw [nle (by omega) (by omega)]; exact hc), npred (by omega), Nat.add_sub_cancel]
      exact ih nf μ l w2 (by omega) (by omega) hr h
theorem goOn4 {n : Nat} (hn : n < 8) (hn1 : 1 ≤ n) : ∀ (a nf : Nat) (μ : zM) (l l2 : List Nat), a < nf → a < n → rp μ.2.2.1.2.2.1 l → (match g4 l a with
      | none => some l
      | some q => match g40 l q (n - 1) with
        | none => none
        | some w => some (g77 7 (xch l q w) (q + 1) (n - 1))) = some l2 → ∃ p', s_X4_goOn_4 nf μ (nI n) (nI a + (-1)) = some (wp μ p') ∧ rp p' l2 := by
  intro a
  induction a with
  | zero =>
    intro nf μ l l2 hf ha hr h
    obtain ⟨nf, rfl⟩ : ∃ q, nf = q + 1 := ⟨nf - 1, by omega⟩
    rw [g4] at h
    obtain rfl := Option.some.inj h
    exact ⟨μ.2.2.1.2.2.1, by rw [s_X4_goOn_4, if_pos n_neg0, if_neg (by decide)], hr⟩
  | succ a ih =>
    intro nf μ l l2 hf ha hr h
    obtain ⟨nf, rfl⟩ : ∃ q, nf = q + 1 := ⟨nf - 1, by omega⟩
    have hr2 := hr
    obtain ⟨h1, h2, h3⟩ := hr2
    have b1 := h2 a (by omega)
    have b2 := h2 (a + 1) (by omega)
    rw [g4] at h
    rw [npred (by omega), Nat.add_sub_cancel, s_X4_goOn_4, if_neg (n_not_neg (by omega)), if_pos (ib_ok (by omega) (by omega)), nsucc, if_pos (ib_ok (by omega) (by omega)), ncl (by omega), ncl (by omega), h3 a (by omega), h3 (a + 1) (by omega)]
    by_cases hc : l.getD a 0 ≤ l.getD (a + 1) 0
    · rw [if_pos hc] at h
      rw [if_pos (by rw [nle (by omega) (by omega)]; exact hc), if_pos (by rw [n0, nle (by omega) (by omega)]; omega), sub_one, npred (by omega)]
      cases h40 : g40 l a (n - 1) with
      | none => simp only [h40] at h; cases h
      | some w =>
        simp only [h40] at h
        obtain rfl := Option.some.inj h
        exact goOn40 hn hn1 ha (n - 1) FU μ l w (by unfold FU; omega) (by omega) hr h40
    · rw [if_neg hc] at h
      rw [if_neg (by rw [nle (by omega) (by omega)]; exact hc)]
      exact ih nf μ l l2 (by omega) (by omega) hr h
theorem e_goOn {n : Nat} (hn : n < 8) (hn1 : 1 ≤ n) {μ : zM} {l l2 : List Nat} (hr : rp μ.2.2.1.2.2.1 l) (h : nx n l = some l2) : ∃ p', s_X4_goOn μ (nI n) = some (wp μ p') ∧ rp p' l2 := by
  unfold s_X4_goOn
  have e : nI n - 2 = nI (n - 1) + (-1) := by
    have : ∀ n, n < 8 → 1 ≤ n → nI n - 2 = nI (n - 1) + (-1) := by decide +kernel
    exact this n hn hn1
  rw [e]
  exact goOn4 hn hn1 (n - 1) FU μ l l2 (by unfold FU; omega) (by omega) hr h
theorem chk_all : ∀ n, 1 ≤ n → n < 8 → chk n (PL n) = true := by
  intro n h1 h2
  rcases (by omega : n = 1 ∨ n = 2 ∨ n = 3 ∨ n = 4 ∨ n = 5 ∨ n = 6 ∨ n = 7) with rfl | rfl | rfl | rfl | rfl | rfl | rfl
  · exact chk_1
  · exact chk_2
  · exact chk_3
  · exact chk_4
  · exact chk_5
  · exact chk_6
  · exact chk_7
theorem okp_mem {n : Nat} (hn : n < 8) {l : List Nat} (h : l ∈ PL n) : l.length = 7 ∧ ∀ k, k < 7 → l.getD k 0 < 7 := by
  have h1 := List.all_eq_true.mp (okp_all n hn) l h
  unfold okp at h1
  simp only [Bool.and_eq_true, beq_iff_eq, List.all_eq_true, decide_eq_true_eq] at h1
  refine ⟨h1.1, fun k hk => ?_⟩
  rw [List.getD_eq_getElem?_getD, List.getElem?_eq_getElem (by omega)]
  exact h1.2 _ (List.getElem_mem _)
/-! begin -/
theorem begin_loop : ∀ (d nf k : Nat) (μ : zM), d < nf → k + d = 7 → (∀ j, j < k → μ.2.2.1.2.2.1 j = nI j) → ∃ p' : zF, s_X4_begin_2 nf μ (nI k) = some (wp μ p') ∧ ∀ j, j < 7 → p' j = nI j := by
  intro d
  induction d with
  | zero =>
    intro nf k μ hf hk hj
    obtain ⟨nf, rfl⟩ : ∃ q, nf = q + 1 := ⟨nf - 1, by omega⟩
    exact ⟨μ.2.2.1.2.2.1, by rw [s_X4_begin_2, if_pos (by rw [nlit 7, nle (by omega) (by omega)]; omega)], fun j h => hj j (by omega)⟩
  | succ d ih =>
    intro nf k μ hf hk hj
    obtain ⟨nf, rfl⟩ : ∃ q, nf = q + 1 := ⟨nf - 1, by omega⟩
    rw [s_X4_begin_2, if_neg (by rw [nlit 7, nle (by omega) (by omega)]; omega), if_pos (ib_ok (by omega) (by omega)), ncl (by omega), nsucc]
    obtain ⟨p', e1, e2⟩ := ih nf (k + 1) (wp μ (upd μ.2.2.1.2.2.1 k (nI k))) (by omega) (by omega) (fun j h => by
      show upd _ _ _ j = _
      by_cases hjk : j = k
      · subst hjk; exact upd_same _ _ _
      · rw [upd_ne hjk]; exact hj j (by omega))
    exact ⟨p', e1, e2⟩
theorem e_begin (μ : zM) : ∃ p' : zF, s_X4_begin μ = some (wp μ p') ∧ rp p' (List.range 7) := by
  obtain ⟨p', e1, e2⟩ := begin_loop 7 FU 0 μ (by unfold FU; omega) (by omega) (fun j h => by omega)
  refine ⟨p', e1, by decide, by decide, fun k hk => ?_⟩
  have : ∀ k, k < 7 → (List.range 7).getD k 0 = k := by decide
  rw [this k hk]
  exact e2 k hk
theorem PL_head : ∀ n, n < 8 → 1 ≤ n → (PL n).head? = some (List.range 7) := by decide +kernel
theorem PL_len {n : Nat} (hn : n < 8) : (PL n).length = fact n := by
  unfold PL
  rw [List.length_map]
  exact cps_len n hn n 0 (Nat.pow_pos (by omega)) (by rw [pop_zero]; omega)
theorem e_factorial4 : ∀ n, n < 8 → s_X4_factorial 12 (nI n) = some (nI (fact n)) := by decide +kernel
/-! sums -/
def fs (C : Nat → Nat → Int) (l : List Nat) : Nat → Int
  | 0 => 0
  | i + 1 => fs C l i + C i (l.getD i 0)
def fd (C : Nat → Nat → Int) (l : List Nat) : Nat → Int
  | 0 => 0
  | i + 1 => max (fd C l i) (C i (l.getD i 0))
def okM (L : zL) (n : Nat) (C : Nat → Nat → Int) : Prop := ∀ i j, i < n → j < 7 → (j < n → (L.1 (7 * i + j)).toInt = C i j ∧ 0 ≤ C i j ∧ C i j ≤ 1000)
theorem fs_bound {C : Nat → Nat → Int} {n : Nat} {l : List Nat} (hC : ∀ i j, i < n → j < n → 0 ≤ C i j ∧ C i j ≤ 1000) (hl : ∀ i, i < n → l.getD i 0 < n) : ∀ i, i ≤ n → 0 ≤ fs C l i ∧ fs C l i ≤ 1000 * i := by
  intro i
  induction i with
  | zero => intro _; simp [fs]
  | succ i ih =>
    intro h
    have h1 := ih (by omega)
    have h2 := hC i _ (by omega) (hl i (by omega))
    rw [fs]
    omega
theorem sum_loop {n : Nat} {C : Nat → Nat → Int} {μ : zM} {l : List Nat} (hn : n < 8) (hC : ∀ i j, i < n → j < n → (μ.2.2.1.1 (7 * i + j)).toInt = C i j ∧ 0 ≤ C i j ∧ C i j ≤ 1000) (hr : rp μ.2.2.1.2.2.1 l) (hl : ∀ i, i < n → l.getD i 0 < n) :
    ∀ (d nf i : Nat) (s : Int32), d < nf → i + d = n → s.toInt = fs C l i → ∃ S : Int32, s_X4_sum_4 nf μ (nI n) s (nI i) = some S ∧ S.toInt = fs C l n := by
  intro d
  induction d with
  | zero =>
    intro nf i s hf hi hs
    obtain ⟨nf, rfl⟩ : ∃ q, nf = q + 1 := ⟨nf - 1, by omega⟩
    have : i = n := by omega
    subst this
    exact ⟨s, by rw [s_X4_sum_4, if_pos (Int32.le_refl _)], hs⟩
  | succ d ih =>
    intro nf i s hf hi hs
    obtain ⟨nf, rfl⟩ : ∃ q, nf = q + 1 := ⟨nf - 1, by omega⟩
    have hli := hl i (by omega)
    have hc := hC i _ (by omega) hli
    have hb := fs_bound (fun i j h1 h2 => (hC i j h1 h2).2) hl i (by omega)
    rw [s_X4_sum_4, if_neg (by rw [nle (by omega) (by omega)]; omega), if_pos (ib_ok (by omega) (by omega)), ncl (by omega), hr.2.2 i (by omega), cell_eq2, if_pos (ib_ok (by omega) (by omega)), ncl (by omega), nsucc]
    refine ih nf (i + 1) _ (by omega) (by omega) ?_
    rw [zz_add (by omega) (by omega), hs, hc.1, fs]
theorem e_sum {n : Nat} {C : Nat → Nat → Int} {μ : zM} {l : List Nat} (hn : n < 8) (hC : ∀ i j, i < n → j < n → (μ.2.2.1.1 (7 * i + j)).toInt = C i j ∧ 0 ≤ C i j ∧ C i j ≤ 1000) (hr : rp μ.2.2.1.2.2.1 l) (hl : ∀ i, i < n → l.getD i 0 < n) :
    ∃ S : Int32, s_X4_sum μ (nI n) = some S ∧ S.toInt = fs C l n := sum_loop hn hC hr hl n FU 0 0 (by unfold FU; omega) (by omega) rfl
