/-! ===== best sums over sets of columns ===== -/
def okL (C : Nat → Nat → Int) (n V : Nat) (l w : Int32) : Prop :=
  IsMin (SS C n (pop V) (n - pop V) V) l.toInt ∧ w = nI ((SS C n (pop V) (n - pop V) V).count l.toInt)
def okC (s : zS) (n : Nat) (C : Nat → Nat → Int) : Prop := s.1 = nI n ∧ ∀ i j, i < n → j < n → (s.2.1 (7 * i + j)).toInt = C i j ∧ -100000 ≤ C i j ∧ C i j ≤ 100000
theorem okL_bound {C : Nat → Nat → Int} {n V : Nat} {l : Int32} (hn : n < 8) (hC : ∀ i j, i < n → j < n → -100000 ≤ C i j ∧ C i j ≤ 100000) (hV : pop V ≤ n) (h : IsMin (SS C n (pop V) (n - pop V) V) l.toInt) : -700000 ≤ l.toInt ∧ l.toInt ≤ 700000 := by
  have h1 := SS_bound C 100000 (by omega) n hC (n - pop V) (pop V) V (by omega) _ h.1
  have h2 : ((n - pop V : Nat) : Int) ≤ 7 := by omega
  omega
theorem findLeast_loop {s : zS} {n U : Nat} {C : Nat → Nat → Int} (hn : n < 8) (hU : U < 2 ^ n) (hp : pop U < n) (hs : okC s n C)
    (hok : ∀ V, V < 2 ^ n → U < V → okL C n V (s.2.2.1 V) (s.2.2.2.1 V)) :
    ∀ (d nf j : Nat) (b cnt : Int32), d < nf → j + d = n →
      ((SJ C n (pop U) (n - pop U - 1) U j = [] ∧ b = 2147483647 ∧ cnt = 0) ∨ (IsMin (SJ C n (pop U) (n - pop U - 1) U j) b.toInt ∧ cnt = nI ((SJ C n (pop U) (n - pop U - 1) U j).count b.toInt))) →
      ∃ l w, okL C n U l w ∧ s_X0_findLeast_14 nf s (nI U) (nI (pop U)) b cnt (nI j) = some (s.1, s.2.1, upd s.2.2.1 U l, upd s.2.2.2.1 U w, s.2.2.2.2) := by
  have hU2 : U < 128 := Nat.lt_of_lt_of_le hU (two_pow_le hn)
  have hCb : ∀ i j, i < n → j < n → -100000 ≤ C i j ∧ C i j ≤ 100000 := fun i j hi hj => (hs.2 i j hi hj).2
  intro d
  induction d with
  | zero =>
    intro nf j b cnt hd hj hinv
    obtain ⟨nf, rfl⟩ : ∃ q, nf = q + 1 := ⟨nf - 1, by omega⟩
    have hjn : j = n := by omega
    subst hjn
    rw [s_X0_findLeast_14, if_pos (by rw [hs.1]; exact Int32.le_refl _), if_pos (ib_ok hU2 (by omega)), if_pos (ib_ok hU2 (by omega)), ncl (by omega)]
    rw [SJ_full, show j - pop U - 1 + 1 = j - pop U by omega] at hinv
    rcases hinv with ⟨h1, -, -⟩ | h
    · exact absurd h1 (SS_ne C j hn _ _ U hU (by omega))
    · exact ⟨b, cnt, h, rfl⟩
  | succ d ih =>
    intro nf j b cnt hd hj hinv
    obtain ⟨nf, rfl⟩ : ∃ q, nf = q + 1 := ⟨nf - 1, by omega⟩
    rw [s_X0_findLeast_14, if_neg (by rw [hs.1, nle (by omega) (by omega)]; omega), e_isFree hU2 (by omega), Option.bind_some]
    cases hf : U.testBit j with
    | true =>
      rw [if_pos rfl, if_pos rfl, nsucc]
      refine ih nf (j + 1) b cnt (by omega) (by omega) ?_
      rw [SJ_used C n _ _ U j hf]
      exact hinv
    | false =>
      have hpo := pop_or U hU2 j (by omega) hf
      have hV := or_lt n hn U hU j (by omega)
      have hV2 : U ||| 2 ^ j < 128 := Nat.lt_of_lt_of_le hV (two_pow_le hn)
      have hk := hok _ hV hpo.2
      have hcell : 7 * pop U + j < 49 := by omega
      rw [if_neg (by decide), e_cellIndex, Option.bind_some, if_pos (ib_ok hcell (by omega)), or_eq U hU2 j (by omega), if_pos (ib_ok hV2 (by omega)), ncl (by omega), ncl (by omega)]
      unfold okL at hk
      rw [hpo.1, show n - (pop U + 1) = n - pop U - 1 by omega] at hk
      obtain ⟨hk1, hk2⟩ := hk
      have hb := SS_bound C 100000 (by omega) n hCb (n - pop U - 1) (pop U + 1) (U ||| 2 ^ j) (by omega) _ hk1.1
      have h7 : ((n - pop U - 1 : Nat) : Int) ≤ 7 := by omega
      have hc := hs.2 (pop U) j hp (by omega)
      generalize hV9 : U ||| 2 ^ j = V at *
      have hsum : (s.2.1 (7 * pop U + j) + s.2.2.1 V).toInt = C (pop U) j + (s.2.2.1 V).toInt := by
        rw [zz_add (by omega) (by omega), hc.1]
      generalize s.2.1 (7 * pop U + j) + s.2.2.1 V = x at *
      have hT := hk1.map_add (C (pop U) j)
      have hTc := cnt_add (SS C n (pop U + 1) (n - pop U - 1) V) (C (pop U) j) (s.2.2.1 V).toInt
      rw [← hsum] at hT hTc
      have hSJ := SJ_free C n (pop U) (n - pop U - 1) U j hf
      rw [hV9] at hSJ
      generalize (SS C n (pop U + 1) (n - pop U - 1) V).map (fun x => C (pop U) j + x) = T at *
      have hxb : x.toInt < 2147483647 := by omega
      by_cases hbx : b ≤ x
      · rw [if_pos hbx, s_X0_findLeast_73]
        rw [zz_le] at hbx
        rcases hinv with ⟨-, rfl, -⟩ | ⟨h1, h2⟩
        · exact absurd hbx (by rw [show (2147483647 : Int32).toInt = 2147483647 from rfl]; omega)
        · by_cases hxe : x = b
          · rw [if_pos hxe, if_pos (ib_ok hV2 (by omega)), ncl (by omega), nsucc]
            subst hxe
            refine ih nf (j + 1) x _ (by omega) (by omega) (Or.inr ?_)
            rw [hSJ]
            refine ⟨h1.app_le hT (Int.le_refl _), ?_⟩
            rw [h2, hk2, nI_add, List.count_append, hTc]
          · rw [if_neg hxe, nsucc]
            refine ih nf (j + 1) b cnt (by omega) (by omega) (Or.inr ?_)
            rw [hSJ]
            refine ⟨h1.app_le hT hbx, ?_⟩
            have hne : ¬ x.toInt = b.toInt := fun h => hxe (zz_inj.mpr h)
            rw [h2, List.count_append, cnt_lt hT (by omega), Nat.add_zero]
      · rw [if_neg hbx, s_X0_findLeast_73, if_pos rfl, if_pos (ib_ok hV2 (by omega)), ncl (by omega), nsucc]
        rw [zz_le] at hbx
        refine ih nf (j + 1) x _ (by omega) (by omega) (Or.inr ?_)
        rw [hSJ]
        have e0 : (0 : Int32) + s.2.2.2.1 V = s.2.2.2.1 V := by rw [Int32.zero_add]
        rcases hinv with ⟨h1, -, -⟩ | ⟨h1, h2⟩
        · rw [h1, List.nil_append]
          exact ⟨hT, by rw [e0, hk2, hTc]⟩
        · refine ⟨h1.app_lt hT (by omega), ?_⟩
          rw [e0, hk2, List.count_append, cnt_lt h1 (by omega), Nat.zero_add, hTc]
theorem e_findLeast {s : zS} {n U : Nat} {C : Nat → Nat → Int} (hn : n < 8) (hU : U < 2 ^ n) (hp : pop U < n) (hs : okC s n C)
    (hok : ∀ V, V < 2 ^ n → U < V → okL C n V (s.2.2.1 V) (s.2.2.2.1 V)) :
    ∃ l w, okL C n U l w ∧ s_X0_findLeast s (nI U) = some (s.1, s.2.1, upd s.2.2.1 U l, upd s.2.2.2.1 U w, s.2.2.2.2) := by
  have hU2 : U < 128 := Nat.lt_of_lt_of_le hU (two_pow_le hn)
  unfold s_X0_findLeast
  rw [e_bitCount U hU2, Option.bind_some]
  exact findLeast_loop hn hU hp hs hok n FU 0 _ _ (by unfold FU; omega) (by omega) (Or.inl ⟨SJ_zero _ _ _ _ _, rfl, rfl⟩)
theorem upd_same (f : Nat → Int32) (k : Nat) (x : Int32) : upd f k x k = x := by simp [upd]
theorem upd_ne {f : Nat → Int32} {k j : Nat} {x : Int32} (h : j ≠ k) : upd f k x j = f j := by simp [upd, h]
theorem leastSum_loop {n : Nat} {C : Nat → Nat → Int} (hn : n < 8) : ∀ (u nf : Nat) (s : zS), u < nf → u ≤ 2 ^ n - 1 → okC s n C → (∀ V, V < 2 ^ n → u ≤ V → okL C n V (s.2.2.1 V) (s.2.2.2.1 V)) →
    ∃ le wa : zF, s_X0_leastSum_23 nf s (nI u + (-1)) = some (le 0, (s.1, s.2.1, le, wa, s.2.2.2.2)) ∧ ∀ V, V < 2 ^ n → okL C n V (le V) (wa V) := by
  intro u
  induction u with
  | zero =>
    intro nf s hf _ hs hok
    obtain ⟨nf, rfl⟩ : ∃ q, nf = q + 1 := ⟨nf - 1, by omega⟩
    refine ⟨s.2.2.1, s.2.2.2.1, ?_, fun V hV => hok V hV (Nat.zero_le V)⟩
    rw [s_X0_leastSum_23, if_pos n_neg0, if_pos (by decide)]
    rfl
  | succ u ih =>
    intro nf s hf hu hs hok
    have h2 := two_pow_le hn
    obtain ⟨nf, rfl⟩ : ∃ q, nf = q + 1 := ⟨nf - 1, by omega⟩
    rw [npred (by omega), Nat.add_sub_cancel, s_X0_leastSum_23, if_neg (n_not_neg (by omega))]
    obtain ⟨l, w, h1, h3⟩ := e_findLeast hn (U := u) (by omega) (pop_lt n hn u (by omega)) hs (fun V hV hl => hok V hV hl)
    rw [h3, Option.bind_some]
    obtain ⟨le, wa, e1, e2⟩ := ih nf (s.1, s.2.1, upd s.2.2.1 u l, upd s.2.2.2.1 u w, s.2.2.2.2) (by omega) (by omega) hs (fun V hV hl => by
      by_cases hVu : V = u
      · subst hVu
        show okL C n V (upd _ _ _ _) (upd _ _ _ _)
        rw [upd_same, upd_same]
        exact h1
      · show okL C n V (upd _ _ _ _) (upd _ _ _ _)
        rw [upd_ne hVu, upd_ne hVu]
        exact hok V hV (by omega))
    exact ⟨le, wa, e1, e2⟩
theorem e_allColumns {s : zS} {n : Nat} (hn : n < 8) (h : s.1 = nI n) : s_X0_allColumns s = some (nI (2 ^ n - 1)) := by
  unfold s_X0_allColumns
  rw [h, all_eq n hn]
theorem ok_full (C : Nat → Nat → Int) {n : Nat} (hn : n < 8) : okL C n (2 ^ n - 1) 0 1 := by
  unfold okL
  rw [pop_full n hn, Nat.sub_self, SS_zero]
  exact ⟨IsMin.one 0, by decide⟩
theorem e_leastSum {s : zS} {n : Nat} {C : Nat → Nat → Int} (hn : n < 8) (hs : okC s n C) : ∃ le wa : zF, s_X0_leastSum s = some (le 0, (s.1, s.2.1, le, wa, s.2.2.2.2)) ∧ ∀ V, V < 2 ^ n → okL C n V (le V) (wa V) := by
  have h2 := two_pow_le hn
  have h3 : 0 < 2 ^ n := Nat.pow_pos (by omega)
  unfold s_X0_leastSum
  rw [e_allColumns hn hs.1, Option.bind_some, if_pos (ib_ok (by omega) (by omega)), if_pos (ib_ok (by omega) (by omega)), ncl (by omega)]
  have e : nI (2 ^ n - 1) - 1 = nI (2 ^ n - 1) + (-1) := by
    rw [Int32.sub_eq_add_neg]
  rw [e]
  refine leastSum_loop hn (2 ^ n - 1) FU (s.1, s.2.1, upd s.2.2.1 (2 ^ n - 1) 0, upd s.2.2.2.1 (2 ^ n - 1) 1, s.2.2.2.2) (by unfold FU; omega) (Nat.le_refl _) hs (fun V hV hl => ?_)
  have : V = 2 ^ n - 1 := by omega
  subst this
  show okL C n _ (upd _ _ _ _) (upd _ _ _ _)
  rw [upd_same, upd_same]
  exact ok_full C hn
