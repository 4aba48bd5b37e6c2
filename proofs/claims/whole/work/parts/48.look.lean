/-! ===== the look over all assignments ===== -/
theorem inc_head : ∀ (l : List Nat) (a : Nat), inc (a :: l) = true → (∀ x ∈ l, a < x) ∧ inc l = true := by
  intro l
  induction l with
  | nil => intro a _; exact ⟨fun x h => (nomatch h), rfl⟩
  | cons b l ih =>
    intro a h
    rw [inc] at h
    simp only [Bool.and_eq_true, decide_eq_true_eq] at h
    refine ⟨fun x hx => ?_, h.2⟩
    rcases List.mem_cons.mp hx with rfl | hx
    · exact h.1
    · have := (ih b h.2).1 x hx
      omega
theorem inc_app : ∀ (q r : List Nat) (a : Nat), inc (q ++ a :: r) = true → ∀ x ∈ q, x < a := by
  intro q
  induction q with
  | nil => intro r a _ x h; exact (nomatch h)
  | cons b q ih =>
    intro r a h x hx
    obtain ⟨h1, h2⟩ := inc_head _ _ h
    rcases List.mem_cons.mp hx with rfl | hx
    · exact h1 a (List.mem_append_right _ List.mem_cons_self)
    · exact ih r a h2 x hx
theorem ent {n : Nat} (hn : n < 8) {l : List Nat} (h : l ∈ PL n) {i : Nat} (hi : i < n) : l.getD i 0 < n := by
  have h1 := List.all_eq_true.mp (ent_all n hn) l h
  have h2 := List.all_eq_true.mp h1 i (List.mem_range.mpr hi)
  exact of_decide_eq_true h2
theorem PL_new {n : Nat} (hn : n < 8) (hn1 : 1 ≤ n) {Q R : List (List Nat)} {l : List Nat} (h : PL n = Q ++ l :: R) : l ∉ Q := by
  intro hl
  have h1 := inc_all n hn hn1
  rw [h, List.map_append, List.map_cons] at h1
  have := inc_app _ _ _ h1 _ (List.mem_map.mpr ⟨l, hl, rfl⟩)
  omega
theorem chk_drop (n : Nat) : ∀ (Q R : List (List Nat)), chk n (Q ++ R) = true → chk n R = true := by
  intro Q
  induction Q with
  | nil => intro R h; exact h
  | cons a Q ih =>
    intro R h
    refine ih R ?_
    cases hq : Q ++ R with
    | nil => rfl
    | cons b r =>
      rw [List.cons_append, hq, chk] at h
      simp only [Bool.and_eq_true] at h
      exact h.2
theorem PL_next {n : Nat} (hn : n < 8) (hn1 : 1 ≤ n) {Q R : List (List Nat)} {l : List Nat} (h : PL n = Q ++ l :: R) : ∃ l2, nx n l = some l2 ∧ ∀ b r, R = b :: r → l2 = b := by
  cases R with
  | nil =>
    have h1 := last_ok n hn hn1
    rw [h, List.getLast?_concat] at h1
    obtain ⟨l2, h2⟩ := Option.isSome_iff_exists.mp h1
    exact ⟨l2, h2, fun b r e => nomatch e⟩
  | cons b r =>
    have h1 := chk_all n hn1 hn
    rw [h] at h1
    have h2 := chk_drop n _ _ h1
    rw [chk] at h2
    simp only [Bool.and_eq_true, decide_eq_true_eq] at h2
    exact ⟨b, h2.1, fun b' r' e => by cases e; rfl⟩
/-- what the look's numbers say of the assignments seen -/
def LK (n : Nat) (C : Nat → Nat → Int) (Q : List (List Nat)) (L : zL) : Prop :=
  (∀ a j, a < n → j < n → (Q.filter (fun l => decide (l.getD a 0 = j)) = [] ∧ L.2.1 (7 * a + j) = 1000000) ∨ IsMin ((Q.filter (fun l => decide (l.getD a 0 = j))).map (fun l => fs C l n)) (L.2.1 (7 * a + j)).toInt) ∧
  ((Q = [] ∧ L.2.2.2.2.2.2.2.2.1 = 1000000) ∨ IsMin (Q.map (fun l => fd C l n)) L.2.2.2.2.2.2.2.2.1.toInt) ∧
  ((Q.filter (fun l => decide (fs C l n < 1000)) = [] ∧ L.2.2.2.2.2.2.2.1 = -1) ∨ IsMax ((Q.filter (fun l => decide (fs C l n < 1000))).map (fun l => fs C l n)) L.2.2.2.2.2.2.2.1.toInt) ∧
  ((Q = [] ∧ L.2.2.2.2.1 = 1000000 ∧ L.2.2.2.2.2.1 = 0 ∧ L.2.2.2.2.2.2.1 = 1000000) ∨
    (IsMin (Q.map (fun l => fs C l n)) L.2.2.2.2.1.toInt ∧ L.2.2.2.2.2.1 = nI ((Q.map (fun l => fs C l n)).count L.2.2.2.2.1.toInt) ∧
      ∃ f, Q.find? (fun l => decide (fs C l n = L.2.2.2.2.1.toInt)) = some f ∧ (∀ j, j < n → L.2.2.2.1 j = nI (f.getD j 0)) ∧
        ((Q.filter (fun l => decide (l ≠ f)) = [] ∧ L.2.2.2.2.2.2.1 = 1000000) ∨ IsMin ((Q.filter (fun l => decide (l ≠ f))).map (fun l => fs C l n)) L.2.2.2.2.2.2.1.toInt)))
theorem far_t : (1000000 : Int32).toInt = 1000000 := rfl
theorem LK_step {n : Nat} {C : Nat → Nat → Int} {Q : List (List Nat)} {L L2 : zL} {l : List Nat} {S dn : Int32} (hn : n < 8) (h : LK n C Q L) (hs : seen n l S dn L L2) (hS : S.toInt = fs C l n) (hd : dn.toInt = fd C l n) (hb : 0 ≤ fs C l n ∧ fs C l n ≤ 7000) (hdb : fd C l n ≤ 7000) (hnew : l ∉ Q) : LK n C (Q ++ [l]) L2 := by
  obtain ⟨h1, h2, h3, h4⟩ := h
  obtain ⟨-, -, s1, s2, s3, s4⟩ := hs
  refine ⟨fun a j ha hj => ?_, ?_, ?_, ?_⟩
  · rw [s1 a j ha (by omega)]
    by_cases hl : l.getD a 0 = j
    · rw [if_pos hl, List.filter_append]
      have e : [l].filter (fun l => decide (l.getD a 0 = j)) = [l] := by rw [List.filter_cons, if_pos (decide_eq_true hl)]; rfl
      rw [e]
      refine Or.inr ?_
      rw [List.map_append]
      have hone : IsMin ([l].map (fun l => fs C l n)) (fs C l n) := IsMin.one _
      rcases h1 a j ha hj with ⟨g1, g2⟩ | g
      · rw [g1, g2, if_neg (by rw [zz_le, far_t]; omega), hS]
        exact hone
      · by_cases hle : L.2.1 (7 * a + j) ≤ S
        · rw [if_pos hle]
          rw [zz_le, hS] at hle
          exact g.app_le hone hle
        · rw [if_neg hle, hS]
          rw [zz_le, hS] at hle
          exact g.app_lt hone (by omega)
    · rw [if_neg hl, List.filter_append]
      have e : [l].filter (fun l => decide (l.getD a 0 = j)) = [] := by rw [List.filter_cons, if_neg (by rw [decide_eq_true_eq]; exact hl)]; rfl
      rw [e, List.append_nil]
      exact h1 a j ha hj
  · refine Or.inr ?_
    rw [s2, List.map_append]
    have hone : IsMin ([l].map (fun l => fd C l n)) (fd C l n) := IsMin.one _
    rcases h2 with ⟨g1, g2⟩ | g
    · rw [g1, g2, if_neg (by rw [zz_le, far_t]; omega), hd]
      exact hone
    · by_cases hle : L.2.2.2.2.2.2.2.2.1 ≤ dn
      · rw [if_pos hle]
        rw [zz_le, hd] at hle
        exact g.app_le hone hle
      · rw [if_neg hle, hd]
        rw [zz_le, hd] at hle
        exact g.app_lt hone (by omega)
  · rw [s3, List.filter_append]
    have h1000 : (1000 : Int32).toInt = 1000 := rfl
    by_cases hle : 1000 ≤ S
    · rw [if_pos hle]
      rw [zz_le, hS, h1000] at hle
      have e : [l].filter (fun l => decide (fs C l n < 1000)) = [] := by simp; omega
      rw [e, List.append_nil]
      exact h3
    · rw [if_neg hle]
      rw [zz_le, hS, h1000] at hle
      have e : [l].filter (fun l => decide (fs C l n < 1000)) = [l] := by simp; omega
      rw [e, List.map_append]
      have hone : IsMax ([l].map (fun l => fs C l n)) (fs C l n) := IsMax.one _
      refine Or.inr ?_
      rcases h3 with ⟨g1, g2⟩ | g
      · rw [g1, g2, if_neg (by rw [zz_le, hS]; rw [show (-1 : Int32).toInt = -1 from rfl]; omega), hS]
        exact hone
      · by_cases hg : S ≤ L.2.2.2.2.2.2.2.1
        · rw [if_pos hg]
          rw [zz_le, hS] at hg
          exact g.app_ge hone hg
        · rw [if_neg hg, hS]
          rw [zz_le, hS] at hg
          exact g.app_gt hone (by omega)
  · refine Or.inr ?_
    rw [List.map_append]
    have hone : IsMin ([l].map (fun l => fs C l n)) (fs C l n) := IsMin.one _
    rcases s4 with ⟨q1, q2, q3, q4, q5⟩ | ⟨q1, q2, q3, q4, q5⟩
    · rcases h4 with ⟨-, g2, -⟩ | ⟨g1, g2, f, g3, g4, g5⟩
      · rw [g2, zz_le, far_t] at q1
        omega
      · rw [q3, q4, q2, q5]
        have hle := q1
        rw [zz_le, hS] at hle
        refine ⟨g1.app_le hone hle, ?_, f, ?_, g4, ?_⟩
        · rw [List.count_append, List.map_cons, List.map_nil, List.count_singleton, g2]
          by_cases he : S = L.2.2.2.2.1
          · rw [if_pos he]
            have : fs C l n = L.2.2.2.2.1.toInt := by rw [← hS, he]
            rw [this, n1, nI_add]
            simp
          · rw [if_neg he]
            have : ¬ fs C l n = L.2.2.2.2.1.toInt := fun h => he (zz_inj.mpr (by rw [hS]; exact h))
            rw [n0, nI_add]
            simp [this]
        · rw [List.find?_append, g3]
          rfl
        · have hlf : l ≠ f := fun h => hnew (by rw [h]; exact List.mem_of_find?_eq_some g3)
          rw [List.filter_append]
          have e : [l].filter (fun x => decide (x ≠ f)) = [l] := by simp [hlf]
          rw [e, List.map_append]
          refine Or.inr ?_
          rcases g5 with ⟨k1, k2⟩ | k
          · rw [k1, k2, if_neg (by rw [zz_le, far_t]; omega), hS]
            exact hone
          · by_cases hg : L.2.2.2.2.2.2.1 ≤ S
            · rw [if_pos hg]
              rw [zz_le, hS] at hg
              exact k.app_le hone hg
            · rw [if_neg hg, hS]
              rw [zz_le, hS] at hg
              exact k.app_lt hone (by omega)
    · rw [q3, q4, q5]
      have hlt := q1
      rw [zz_le, hS] at hlt
      have efil : (Q ++ [l]).filter (fun x => decide (x ≠ l)) = Q := by
        rw [List.filter_append]
        have e1 : [l].filter (fun x => decide (x ≠ l)) = [] := by simp
        rw [e1, List.append_nil, List.filter_eq_self]
        intro x hx
        exact decide_eq_true (fun h => hnew (by rw [← h]; exact hx))
      rcases h4 with ⟨g1, g2, -, -⟩ | ⟨g1, g2, f, g3, g4, g5⟩
      · refine ⟨by rw [g1, hS]; exact hone, ?_, l, ?_, q2, ?_⟩
        · rw [g1, hS]
          simp
          rfl
        · rw [g1, hS]
          simp
        · rw [efil]
          exact Or.inl ⟨g1, g2⟩
      · refine ⟨by rw [hS]; exact g1.app_lt hone (by omega), ?_, l, ?_, q2, ?_⟩
        · rw [List.count_append, cnt_lt g1 (by omega), hS]
          simp
          rfl
        · rw [List.find?_append]
          have e1 : Q.find? (fun x => decide (fs C x n = S.toInt)) = none := by
            rw [List.find?_eq_none]
            intro x hx
            have := g1.2 _ (List.mem_map.mpr ⟨x, hx, rfl⟩)
            simp only [decide_eq_true_eq]
            omega
          rw [e1, hS]
          simp
        · rw [efil]
          exact Or.inr g1
theorem LK_nil (n : Nat) (C : Nat → Nat → Int) {L : zL} (h1 : ∀ a j, a < n → j < n → L.2.1 (7 * a + j) = 1000000) (h2 : L.2.2.2.2.1 = 1000000) (h3 : L.2.2.2.2.2.1 = 0) (h4 : L.2.2.2.2.2.2.1 = 1000000) (h5 : L.2.2.2.2.2.2.2.1 = -1) (h6 : L.2.2.2.2.2.2.2.2.1 = 1000000) : LK n C [] L :=
  ⟨fun a j ha hj => Or.inl ⟨rfl, h1 a j ha hj⟩, Or.inl ⟨rfl, h6⟩, Or.inl ⟨rfl, h5⟩, Or.inl ⟨rfl, h2, h3, h4⟩⟩
theorem fd_bound {C : Nat → Nat → Int} {n : Nat} {l : List Nat} (hC : ∀ i j, i < n → j < n → 0 ≤ C i j ∧ C i j ≤ 1000) (hl : ∀ i, i < n → l.getD i 0 < n) : ∀ i, i ≤ n → 0 ≤ fd C l i ∧ fd C l i ≤ 1000 := by
  intro i
  induction i with
  | zero => intro _; simp [fd]
  | succ i ih =>
    intro h
    have h1 := ih (by omega)
    have h2 := hC i _ (by omega) (hl i (by omega))
    rw [fd]
    omega
def okN (L : zL) (n : Nat) (C : Nat → Nat → Int) : Prop := ∀ i j, i < n → j < n → (L.1 (7 * i + j)).toInt = C i j ∧ 0 ≤ C i j ∧ C i j ≤ 1000
theorem look59_loop {n : Nat} {C : Nat → Nat → Int} (hn : n < 8) (hn1 : 1 ≤ n) : ∀ (R Q : List (List Nat)) (nf : Nat) (μ : zM), R.length < nf → PL n = Q ++ R → okN μ.2.2.1 n C → (∀ l r, R = l :: r → rp μ.2.2.1.2.2.1 l) → LK n C Q μ.2.2.1 →
    ∃ L2 : zL, s_X4_look_59 nf μ (nI n) (nI R.length) = some (wl μ L2) ∧ LK n C (PL n) L2 ∧ L2.1 = μ.2.2.1.1 := by
  intro R
  induction R with
  | nil =>
    intro Q nf μ hf hp hC hr hk
    obtain ⟨nf, rfl⟩ : ∃ q, nf = q + 1 := ⟨nf - 1, by omega⟩
    refine ⟨μ.2.2.1, ?_, ?_, rfl⟩
    · rw [s_X4_look_59, if_pos (by decide)]
    · rw [hp, List.append_nil]; exact hk
  | cons l R ih =>
    intro Q nf μ hf hp hC hr hk
    obtain ⟨nf, rfl⟩ : ∃ q, nf = q + 1 := ⟨nf - 1, by omega⟩
    have hlen : (l :: R).length ≤ 5040 := by
      have h1 := PL_len hn
      have h2 : ∀ n, n < 8 → fact n ≤ 5040 := by decide
      have h3 := h2 n hn
      rw [hp, List.length_append] at h1
      omega
    have hmem : l ∈ PL n := by rw [hp]; exact List.mem_append_right _ List.mem_cons_self
    have hl : ∀ i, i < n → l.getD i 0 < n := fun i hi => ent hn hmem hi
    have hr1 := hr l R rfl
    obtain ⟨S, e1, e2⟩ := e_sum hn hC hr1 hl
    obtain ⟨L2, dn, e3, e4, e5⟩ := e_see (S := S) hn hl hC hr1
    obtain ⟨l2, e6, e7⟩ := PL_next hn hn1 hp
    obtain ⟨p', e8, e9⟩ := e_goOn hn hn1 (μ := wl μ L2) (l := l) (l2 := l2) (by show rp L2.2.2.1 l; rw [e5.2.1]; exact hr1) e6
    rw [List.length_cons, s_X4_look_59, if_neg (by rw [n0, nle (by simp at hlen; omega) (by omega)]; omega), e1, Option.bind_some, e3, Option.bind_some, e8, Option.bind_some, npred (by omega), Nat.add_sub_cancel]
    have hbs := fs_bound (fun i j h1 h2 => (hC i j h1 h2).2) hl n (Nat.le_refl _)
    have hbd := fd_bound (fun i j h1 h2 => (hC i j h1 h2).2) hl n (Nat.le_refl _)
    have hk2 := LK_step hn hk e5 e2 e4 (by omega) (by omega) (PL_new hn hn1 hp)
    obtain ⟨L3, q1, q2, q3⟩ := ih (Q ++ [l]) nf (wp (wl μ L2) p') (by simp at hf; omega) (by rw [hp, List.append_assoc]; rfl) (by
      intro i j h1 h2
      show (L2.1 _).toInt = _ ∧ _
      rw [e5.1]
      exact hC i j h1 h2) (fun l r h => by rw [e7 l r h] at e9; exact e9) hk2
    exact ⟨L3, q1, q2, q3.trans e5.1⟩
theorem look30_loop {n : Nat} {C : Nat → Nat → Int} (hn : n < 8) (hn1 : 1 ≤ n) : ∀ (d nf k : Nat) (μ : zM), d < nf → k + d = 49 → okN μ.2.2.1 n C → (∀ q, q < k → μ.2.2.1.2.1 q = 1000000) → μ.2.2.1.2.2.2.2.1 = 1000000 → μ.2.2.1.2.2.2.2.2.1 = 0 → μ.2.2.1.2.2.2.2.2.2.1 = 1000000 → μ.2.2.1.2.2.2.2.2.2.2.1 = -1 → μ.2.2.1.2.2.2.2.2.2.2.2.1 = 1000000 →
    ∃ L2 : zL, s_X4_look_30 nf μ (nI n) (nI k) = some (wl μ L2) ∧ LK n C (PL n) L2 ∧ L2.1 = μ.2.2.1.1 := by
  intro d
  induction d with
  | zero =>
    intro nf k μ hf hk hC hw h2 h3 h4 h5 h6
    obtain ⟨nf, rfl⟩ : ∃ q, nf = q + 1 := ⟨nf - 1, by omega⟩
    obtain ⟨p', e1, e2⟩ := e_begin μ
    rw [s_X4_look_30, if_pos (by rw [nlit 49, nle (by omega) (by omega)]; omega), e1, Option.bind_some, e_factorial4 n hn, Option.bind_some, ← PL_len hn]
    have hf5 : fact n < FU := by
      have h2 : ∀ n, n < 8 → fact n ≤ 5040 := by decide
      have := h2 n hn
      unfold FU; omega
    obtain ⟨L2, q1, q2, q3⟩ := look59_loop (C := C) hn hn1 (PL n) [] FU (wp μ p') (by rw [PL_len hn]; exact hf5) rfl hC (fun l r h => by
      have h1 := PL_head n hn hn1
      rw [h] at h1
      rw [Option.some.inj h1]
      exact e2) (LK_nil n C (fun a j ha hj => hw _ (by omega)) h2 h3 h4 h5 h6)
    exact ⟨L2, q1, q2, q3⟩
  | succ d ih =>
    intro nf k μ hf hk hC hw h2 h3 h4 h5 h6
    obtain ⟨nf, rfl⟩ : ∃ q, nf = q + 1 := ⟨nf - 1, by omega⟩
    rw [s_X4_look_30, if_neg (by rw [nlit 49, nle (by omega) (by omega)]; omega), if_pos (ib_ok (by omega) (by omega)), ncl (by omega), nsucc]
    obtain ⟨L2, q1, q2, q3⟩ := ih nf (k + 1) (ww μ (upd μ.2.2.1.2.1 k 1000000)) (by omega) (by omega) hC (fun q hq => by
      show upd _ _ _ q = _
      by_cases hqk : q = k
      · subst hqk; exact upd_same _ _ _
      · rw [upd_ne hqk]; exact hw q (by omega)) h2 h3 h4 h5 h6
    exact ⟨L2, q1, q2, q3⟩
theorem e_look {n : Nat} {C : Nat → Nat → Int} (hn : n < 8) (hn1 : 1 ≤ n) {μ : zM} (hC : okN μ.2.2.1 n C) : ∃ L2 : zL, s_X4_look μ (nI n) = some (wl μ L2) ∧ LK n C (PL n) L2 ∧ L2.1 = μ.2.2.1.1 := by
  unfold s_X4_look
  obtain ⟨L2, q1, q2, q3⟩ := look30_loop (C := C) hn hn1 49 FU 0 (μ.1, μ.2.1, (μ.2.2.1.1, μ.2.2.1.2.1, μ.2.2.1.2.2.1, μ.2.2.1.2.2.2.1, (1000000 : Int32), (0 : Int32), (1000000 : Int32), (-1 : Int32), (1000000 : Int32), μ.2.2.1.2.2.2.2.2.2.2.2.2.1, μ.2.2.1.2.2.2.2.2.2.2.2.2.2), μ.2.2.2.1, μ.2.2.2.2) (by unfold FU; omega) (by omega) hC (fun q h => by omega) rfl rfl rfl rfl rfl
  exact ⟨L2, q1, q2, q3⟩
