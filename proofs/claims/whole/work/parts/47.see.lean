/-! ===== one assignment seen ===== -/
abbrev wl (μ : zM) (L : zL) : zM := (μ.1, μ.2.1, L, μ.2.2.2.1, μ.2.2.2.2)
abbrev ww (μ : zM) (W : zF) : zM := (μ.1, μ.2.1, (μ.2.2.1.1, W, μ.2.2.1.2.2), μ.2.2.2.1, μ.2.2.2.2)
theorem see_loop {n : Nat} {C : Nat → Nat → Int} {l : List Nat} {S : Int32} (hn : n < 8) (hl : ∀ i, i < n → l.getD i 0 < n) :
    ∀ (d nf i : Nat) (μ : zM) (dr : Int32), d < nf → i + d = n → (∀ i j, i < n → j < n → (μ.2.2.1.1 (7 * i + j)).toInt = C i j ∧ 0 ≤ C i j ∧ C i j ≤ 1000) → rp μ.2.2.1.2.2.1 l → dr.toInt = fd C l i →
      ∃ (W : zF) (dn : Int32), s_X4_see_5 nf μ (nI n) S dr (nI i) = (if μ.2.2.1.2.2.2.2.2.2.2.2.1 ≤ dn then s_X4_see_101 (ww μ W) (nI n) S μ.2.2.1.2.2.2.2.2.2.2.2.1 else s_X4_see_101 (ww μ W) (nI n) S dn) ∧ dn.toInt = fd C l n ∧
        (∀ a j, i ≤ a → a < n → j < 7 → W (7 * a + j) = if l.getD a 0 = j then (if μ.2.2.1.2.1 (7 * a + j) ≤ S then μ.2.2.1.2.1 (7 * a + j) else S) else μ.2.2.1.2.1 (7 * a + j)) ∧ ∀ q, q < 7 * i → W q = μ.2.2.1.2.1 q := by
  intro d
  induction d with
  | zero =>
    intro nf i μ dr hf hi hC hr hdr
    obtain ⟨nf, rfl⟩ : ∃ q, nf = q + 1 := ⟨nf - 1, by omega⟩
    have : i = n := by omega
    subst this
    exact ⟨μ.2.2.1.2.1, dr, by rw [s_X4_see_5, if_pos (Int32.le_refl _)], hdr, fun a j h1 h2 => by omega, fun q _ => rfl⟩
  | succ d ih =>
    intro nf i μ dr hf hi hC hr hdr
    obtain ⟨nf, rfl⟩ : ∃ q, nf = q + 1 := ⟨nf - 1, by omega⟩
    have hli := hl i (by omega)
    have hc := hC i _ (by omega) hli
    rw [s_X4_see_5, if_neg (by rw [nle (by omega) (by omega)]; omega), if_pos (ib_ok (by omega) (by omega)), ncl (by omega), hr.2.2 i (by omega), cell_eq2, if_pos (ib_ok (by omega) (by omega)), ncl (by omega)]
    have key : ∀ y0 : Int32, y0 = (if μ.2.2.1.2.1 (7 * i + l.getD i 0) ≤ S then μ.2.2.1.2.1 (7 * i + l.getD i 0) else S) →
        ∃ (W : zF) (dn : Int32), s_X4_see_54 (fun v0 v1 v2 v3 v4 => s_X4_see_5 nf v0 v1 v2 v3 v4) μ (nI n) S dr (nI i) (nI (7 * i + l.getD i 0)) y0 (nI (7 * i + l.getD i 0)) = (if μ.2.2.1.2.2.2.2.2.2.2.2.1 ≤ dn then s_X4_see_101 (ww μ W) (nI n) S μ.2.2.1.2.2.2.2.2.2.2.2.1 else s_X4_see_101 (ww μ W) (nI n) S dn) ∧ dn.toInt = fd C l n ∧
        (∀ a j, i ≤ a → a < n → j < 7 → W (7 * a + j) = if l.getD a 0 = j then (if μ.2.2.1.2.1 (7 * a + j) ≤ S then μ.2.2.1.2.1 (7 * a + j) else S) else μ.2.2.1.2.1 (7 * a + j)) ∧ ∀ q, q < 7 * i → W q = μ.2.2.1.2.1 q := by
      intro y0 hy0
      have fin : ∀ dr2 : Int32, dr2.toInt = fd C l (i + 1) → ∃ (W : zF) (dn : Int32), s_X4_see_5 nf (ww μ (upd μ.2.2.1.2.1 (7 * i + l.getD i 0) y0)) (nI n) S dr2 (nI (i + 1)) = (if μ.2.2.1.2.2.2.2.2.2.2.2.1 ≤ dn then s_X4_see_101 (ww μ W) (nI n) S μ.2.2.1.2.2.2.2.2.2.2.2.1 else s_X4_see_101 (ww μ W) (nI n) S dn) ∧ dn.toInt = fd C l n ∧
        (∀ a j, i ≤ a → a < n → j < 7 → W (7 * a + j) = if l.getD a 0 = j then (if μ.2.2.1.2.1 (7 * a + j) ≤ S then μ.2.2.1.2.1 (7 * a + j) else S) else μ.2.2.1.2.1 (7 * a + j)) ∧ ∀ q, q < 7 * i → W q = μ.2.2.1.2.1 q := by
        intro dr2 h2
        obtain ⟨W, dn, e1, e2, e3, e4⟩ := ih nf (i + 1) (ww μ (upd μ.2.2.1.2.1 (7 * i + l.getD i 0) y0)) dr2 (by omega) (by omega) hC hr h2
        refine ⟨W, dn, e1, e2, fun a j g1 g2 g3 => ?_, fun q hq => ?_⟩
        · by_cases ha : a = i
          · subst ha
            rw [e4 (7 * a + j) (by omega)]
            show upd _ _ _ _ = _
            by_cases hj : l.getD a 0 = j
            · subst hj
              rw [upd_same, if_pos rfl, hy0]
            · rw [upd_ne (by omega), if_neg hj]
          · rw [e3 a j (by omega) g2 g3]
            show (if _ then (if upd _ _ _ _ ≤ S then upd _ _ _ _ else S) else upd _ _ _ _) = _
            rw [upd_ne (by omega)]
        · rw [e4 q (by omega)]
          show upd _ _ _ _ = _
          rw [upd_ne (by omega)]
      rw [s_X4_see_54, if_pos (ib_ok (by omega) (by omega)), if_pos (ib_ok (by omega) (by omega)), ncl (by omega), nsucc]
      by_cases hd : μ.2.2.1.1 (7 * i + l.getD i 0) ≤ dr
      · rw [if_pos hd]
        rw [zz_le] at hd
        exact fin dr (by rw [fd, hdr]; omega)
      · rw [if_neg hd, if_pos (ib_ok (by omega) (by omega))]
        rw [zz_le] at hd
        exact fin _ (by rw [fd, hc.1]; omega)
    by_cases hw : μ.2.2.1.2.1 (7 * i + l.getD i 0) ≤ S
    · rw [if_pos hw, if_pos (ib_ok (by omega) (by omega))]
      exact key _ (by rw [if_pos hw])
    · rw [if_neg hw]
      exact key _ (by rw [if_neg hw])
abbrev wfi (μ : zM) (f : zF) : zM := (μ.1, μ.2.1, (μ.2.2.1.1, μ.2.2.1.2.1, μ.2.2.1.2.2.1, f, μ.2.2.1.2.2.2.2), μ.2.2.2.1, μ.2.2.2.2)
theorem see160_loop {n : Nat} {l : List Nat} (hn : n < 8) : ∀ (d nf i : Nat) (μ : zM), d < nf → i + d = n → rp μ.2.2.1.2.2.1 l → (∀ j, j < i → μ.2.2.1.2.2.2.1 j = nI (l.getD j 0)) →
    ∃ f : zF, s_X4_see_160 nf μ (nI n) (nI i) = some (wfi μ f) ∧ ∀ j, j < n → f j = nI (l.getD j 0) := by
  intro d
  induction d with
  | zero =>
    intro nf i μ hf hi hr hj
    obtain ⟨nf, rfl⟩ : ∃ q, nf = q + 1 := ⟨nf - 1, by omega⟩
    have : i = n := by omega
    subst this
    exact ⟨μ.2.2.1.2.2.2.1, by rw [s_X4_see_160, if_pos (Int32.le_refl _)], hj⟩
  | succ d ih =>
    intro nf i μ hf hi hr hj
    obtain ⟨nf, rfl⟩ : ∃ q, nf = q + 1 := ⟨nf - 1, by omega⟩
    rw [s_X4_see_160, if_neg (by rw [nle (by omega) (by omega)]; omega), if_pos (ib_ok (by omega) (by omega)), if_pos (ib_ok (by omega) (by omega)), ncl (by omega), nsucc]
    obtain ⟨f, e1, e2⟩ := ih nf (i + 1) (wfi μ (upd μ.2.2.1.2.2.2.1 i (μ.2.2.1.2.2.1 i))) (by omega) (by omega) hr (fun j h => by
      show upd _ _ _ j = _
      by_cases hji : j = i
      · subst hji; rw [upd_same]; exact hr.2.2 j (by omega)
      · rw [upd_ne hji]; exact hj j (by omega))
    exact ⟨f, e1, e2⟩
/-- what one assignment does to the numbers of the look -/
def seen (n : Nat) (l : List Nat) (S dn : Int32) (L L2 : zL) : Prop :=
  L2.1 = L.1 ∧ L2.2.2.1 = L.2.2.1 ∧
  (∀ a j, a < n → j < 7 → L2.2.1 (7 * a + j) = if l.getD a 0 = j then (if L.2.1 (7 * a + j) ≤ S then L.2.1 (7 * a + j) else S) else L.2.1 (7 * a + j)) ∧
  L2.2.2.2.2.2.2.2.2.1 = (if L.2.2.2.2.2.2.2.2.1 ≤ dn then L.2.2.2.2.2.2.2.2.1 else dn) ∧
  L2.2.2.2.2.2.2.2.1 = (if 1000 ≤ S then L.2.2.2.2.2.2.2.1 else if S ≤ L.2.2.2.2.2.2.2.1 then L.2.2.2.2.2.2.2.1 else S) ∧
  ((L.2.2.2.2.1 ≤ S ∧ L2.2.2.2.1 = L.2.2.2.1 ∧ L2.2.2.2.2.1 = L.2.2.2.2.1 ∧ L2.2.2.2.2.2.1 = L.2.2.2.2.2.1 + (if S = L.2.2.2.2.1 then 1 else 0) ∧ L2.2.2.2.2.2.2.1 = (if L.2.2.2.2.2.2.1 ≤ S then L.2.2.2.2.2.2.1 else S)) ∨
   (¬ L.2.2.2.2.1 ≤ S ∧ (∀ j, j < n → L2.2.2.2.1 j = nI (l.getD j 0)) ∧ L2.2.2.2.2.1 = S ∧ L2.2.2.2.2.2.1 = 1 ∧ L2.2.2.2.2.2.2.1 = L.2.2.2.2.1))
theorem e_see {n : Nat} {C : Nat → Nat → Int} {l : List Nat} {S : Int32} (hn : n < 8) (hl : ∀ i, i < n → l.getD i 0 < n) {μ : zM} (hC : ∀ i j, i < n → j < n → (μ.2.2.1.1 (7 * i + j)).toInt = C i j ∧ 0 ≤ C i j ∧ C i j ≤ 1000) (hr : rp μ.2.2.1.2.2.1 l) :
    ∃ (L2 : zL) (dn : Int32), s_X4_see μ (nI n) S = some (wl μ L2) ∧ dn.toInt = fd C l n ∧ seen n l S dn μ.2.2.1 L2 := by
  obtain ⟨W, dn, e1, e2, e3, -⟩ := see_loop (S := S) hn hl n FU 0 μ 0 (by unfold FU; omega) (by omega) hC hr rfl
  unfold s_X4_see
  rw [show (0 : Int32) = nI 0 from rfl] at *
  rw [e1]
  have s206 : ∀ (g y : Int32), ∃ L2 : zL, (if μ.2.2.1.2.2.2.2.1 ≤ S then (if μ.2.2.1.2.2.2.2.2.2.1 ≤ S then s_X4_see_206 (μ.1, μ.2.1, (μ.2.2.1.1, W, μ.2.2.1.2.2.1, μ.2.2.1.2.2.2.1, μ.2.2.1.2.2.2.2.1, μ.2.2.1.2.2.2.2.2.1, μ.2.2.1.2.2.2.2.2.2.1, y, g, μ.2.2.1.2.2.2.2.2.2.2.2.2.1, μ.2.2.1.2.2.2.2.2.2.2.2.2.2), μ.2.2.2.1, μ.2.2.2.2) S μ.2.2.1.2.2.2.2.2.2.1 else s_X4_see_206 (μ.1, μ.2.1, (μ.2.2.1.1, W, μ.2.2.1.2.2.1, μ.2.2.1.2.2.2.1, μ.2.2.1.2.2.2.2.1, μ.2.2.1.2.2.2.2.2.1, μ.2.2.1.2.2.2.2.2.2.1, y, g, μ.2.2.1.2.2.2.2.2.2.2.2.2.1, μ.2.2.1.2.2.2.2.2.2.2.2.2.2), μ.2.2.2.1, μ.2.2.2.2) S S) else s_X4_see_160 FU (μ.1, μ.2.1, (μ.2.2.1.1, W, μ.2.2.1.2.2.1, μ.2.2.1.2.2.2.1, S, (1 : Int32), μ.2.2.1.2.2.2.2.1, y, g, μ.2.2.1.2.2.2.2.2.2.2.2.2.1, μ.2.2.1.2.2.2.2.2.2.2.2.2.2), μ.2.2.2.1, μ.2.2.2.2) (nI n) (nI 0)) = some (wl μ L2) ∧
      L2.1 = μ.2.2.1.1 ∧ L2.2.1 = W ∧ L2.2.2.1 = μ.2.2.1.2.2.1 ∧ L2.2.2.2.2.2.2.2.2.1 = g ∧ L2.2.2.2.2.2.2.2.1 = y ∧
      ((μ.2.2.1.2.2.2.2.1 ≤ S ∧ L2.2.2.2.1 = μ.2.2.1.2.2.2.1 ∧ L2.2.2.2.2.1 = μ.2.2.1.2.2.2.2.1 ∧ L2.2.2.2.2.2.1 = μ.2.2.1.2.2.2.2.2.1 + (if S = μ.2.2.1.2.2.2.2.1 then 1 else 0) ∧ L2.2.2.2.2.2.2.1 = (if μ.2.2.1.2.2.2.2.2.2.1 ≤ S then μ.2.2.1.2.2.2.2.2.2.1 else S)) ∨
       (¬ μ.2.2.1.2.2.2.2.1 ≤ S ∧ (∀ j, j < n → L2.2.2.2.1 j = nI (l.getD j 0)) ∧ L2.2.2.2.2.1 = S ∧ L2.2.2.2.2.2.1 = 1 ∧ L2.2.2.2.2.2.2.1 = μ.2.2.1.2.2.2.2.1)) := by
    intro g y
    by_cases hle : μ.2.2.1.2.2.2.2.1 ≤ S
    · rw [if_pos hle]
      by_cases h2 : μ.2.2.1.2.2.2.2.2.2.1 ≤ S
      · rw [if_pos h2, if_pos h2, s_X4_see_206]
        by_cases h3 : S = μ.2.2.1.2.2.2.2.1
        · rw [if_pos h3, if_pos h3]
          exact ⟨_, rfl, rfl, rfl, rfl, rfl, rfl, Or.inl ⟨hle, rfl, rfl, rfl, rfl⟩⟩
        · rw [if_neg h3, if_neg h3]
          exact ⟨_, rfl, rfl, rfl, rfl, rfl, rfl, Or.inl ⟨hle, rfl, rfl, rfl, rfl⟩⟩
      · rw [if_neg h2, if_neg h2, s_X4_see_206]
        by_cases h3 : S = μ.2.2.1.2.2.2.2.1
        · rw [if_pos h3, if_pos h3]
          exact ⟨_, rfl, rfl, rfl, rfl, rfl, rfl, Or.inl ⟨hle, rfl, rfl, rfl, rfl⟩⟩
        · rw [if_neg h3, if_neg h3]
          exact ⟨_, rfl, rfl, rfl, rfl, rfl, rfl, Or.inl ⟨hle, rfl, rfl, rfl, rfl⟩⟩
    · rw [if_neg hle]
      obtain ⟨f, f1, f2⟩ := see160_loop hn n FU 0 (μ.1, μ.2.1, (μ.2.2.1.1, W, μ.2.2.1.2.2.1, μ.2.2.1.2.2.2.1, S, (1 : Int32), μ.2.2.1.2.2.2.2.1, y, g, μ.2.2.1.2.2.2.2.2.2.2.2.2.1, μ.2.2.1.2.2.2.2.2.2.2.2.2.2), μ.2.2.2.1, μ.2.2.2.2) (by unfold FU; omega) (by omega) hr (fun j h => by omega)
      rw [f1]
      exact ⟨_, rfl, rfl, rfl, rfl, rfl, rfl, Or.inr ⟨hle, f2, rfl, rfl, rfl⟩⟩
  have s101 : ∀ g : Int32, g = (if μ.2.2.1.2.2.2.2.2.2.2.2.1 ≤ dn then μ.2.2.1.2.2.2.2.2.2.2.2.1 else dn) → ∃ (L2 : zL), s_X4_see_101 (ww μ W) (nI n) S g = some (wl μ L2) ∧ seen n l S dn μ.2.2.1 L2 := by
    intro g hg
    unfold s_X4_see_101
    have fin : ∀ y : Int32, y = (if 1000 ≤ S then μ.2.2.1.2.2.2.2.2.2.2.1 else if S ≤ μ.2.2.1.2.2.2.2.2.2.2.1 then μ.2.2.1.2.2.2.2.2.2.2.1 else S) → ∃ (L2 : zL), s_X4_see_128 (μ.1, μ.2.1, (μ.2.2.1.1, W, μ.2.2.1.2.2.1, μ.2.2.1.2.2.2.1, μ.2.2.1.2.2.2.2.1, μ.2.2.1.2.2.2.2.2.1, μ.2.2.1.2.2.2.2.2.2.1, μ.2.2.1.2.2.2.2.2.2.2.1, g, μ.2.2.1.2.2.2.2.2.2.2.2.2.1, μ.2.2.1.2.2.2.2.2.2.2.2.2.2), μ.2.2.2.1, μ.2.2.2.2) (nI n) S y = some (wl μ L2) ∧ seen n l S dn μ.2.2.1 L2 := by
      intro y hy
      obtain ⟨L2, q1, q2, q3, q4, q5, q6, q7⟩ := s206 g y
      refine ⟨L2, ?_, q2, q4, ?_, by rw [q5, hg], by rw [q6, hy], q7⟩
      · unfold s_X4_see_128
        exact q1
      · rw [q3]
        exact fun a j h1 h2 => e3 a j (Nat.zero_le _) h1 h2
    by_cases h1 : 1000 ≤ S
    · rw [if_pos h1]
      unfold s_X4_see_124
      exact fin _ (by rw [if_pos h1])
    · rw [if_neg h1]
      by_cases h2 : S ≤ μ.2.2.1.2.2.2.2.2.2.2.1
      · rw [if_pos h2]
        unfold s_X4_see_124
        exact fin _ (by rw [if_neg h1, if_pos h2])
      · rw [if_neg h2]
        exact fin _ (by rw [if_neg h1, if_neg h2])
  by_cases hg : μ.2.2.1.2.2.2.2.2.2.2.2.1 ≤ dn
  · rw [if_pos hg]
    obtain ⟨L2, q1, q2⟩ := s101 _ (by rw [if_pos hg])
    exact ⟨L2, dn, q1, e2, q2⟩
  · rw [if_neg hg]
    obtain ⟨L2, q1, q2⟩ := s101 _ (by rw [if_neg hg])
    exact ⟨L2, dn, q1, e2, q2⟩
