/-! ===== the two ways of writing assignments meet ===== -/
theorem find_congr {α : Type} {p q : α → Bool} : ∀ {l : List α}, (∀ x ∈ l, p x = q x) → l.find? p = l.find? q := by
  intro l
  induction l with
  | nil => intro _; rfl
  | cons a l ih =>
    intro h
    rw [List.find?_cons, List.find?_cons, h a List.mem_cons_self, ih (fun x hx => h x (List.mem_cons_of_mem _ hx))]
theorem cps_mem_len (n : Nat) : ∀ (k U : Nat) (p : List Nat), p ∈ cps n k U → p.length = k := by
  intro k
  induction k with
  | zero => intro U p h; rw [cps, List.mem_singleton] at h; rw [h]; rfl
  | succ k ih =>
    intro U p h
    rw [cps] at h
    obtain ⟨c, -, h⟩ := List.mem_flatMap.mp h
    obtain ⟨q, hq, rfl⟩ := List.mem_map.mp h
    rw [List.length_cons, ih _ _ hq]
theorem getD_mid (q : List Nat) (c : Nat) (r : List Nat) : (q ++ c :: r).getD q.length 0 = c := by
  rw [List.getD_eq_getElem?_getD]
  simp
theorem fs_sm (C : Nat → Nat → Int) : ∀ (p q r : List Nat), fs C (q ++ (p ++ r)) (q.length + p.length) = fs C (q ++ (p ++ r)) q.length + sm C q.length p := by
  intro p
  induction p with
  | nil => intro q r; simp [sm]
  | cons c p ih =>
    intro q r
    have h := ih (q ++ [c]) r
    simp only [List.length_append, List.length_cons, List.length_nil, List.append_assoc, List.cons_append, List.nil_append] at h ⊢
    rw [show q.length + (p.length + 1) = q.length + (0 + 1) + p.length by omega, h, show q.length + (0 + 1) = q.length + 1 by omega, fs, sm, getD_mid]
    omega
theorem fd_pk (C : Nat → Nat → Int) : ∀ (p q r : List Nat), fd C (q ++ (p ++ r)) (q.length + p.length) = max (fd C (q ++ (p ++ r)) q.length) (pk C q.length p) := by
  intro p
  induction p with
  | nil =>
    intro q r
    have h : ∀ (l : List Nat) (i : Nat), 0 ≤ fd C l i := by
      intro l i
      induction i with
      | zero => exact Int.le_refl 0
      | succ i ih => rw [fd]; omega
    have := h (q ++ ([] ++ r)) q.length
    simp only [List.length_nil, Nat.add_zero, pk]
    omega
  | cons c p ih =>
    intro q r
    have h := ih (q ++ [c]) r
    simp only [List.length_append, List.length_cons, List.length_nil, List.append_assoc, List.cons_append, List.nil_append] at h ⊢
    rw [show q.length + (p.length + 1) = q.length + (0 + 1) + p.length by omega, h, show q.length + (0 + 1) = q.length + 1 by omega, fd, pk, getD_mid]
    omega
theorem fs_pad (C : Nat → Nat → Int) {n : Nat} {p : List Nat} (h : p.length = n) : fs C (pad n p) n = sm C 0 p := by
  have h1 := fs_sm C p [] ((List.range 7).drop n)
  simp only [List.nil_append, List.length_nil, Nat.zero_add, h, fs] at h1
  unfold pad
  rw [h1, Int.zero_add]
theorem fd_pad (C : Nat → Nat → Int) {n : Nat} {p : List Nat} (h : p.length = n) : fd C (pad n p) n = max 0 (pk C 0 p) := by
  have h1 := fd_pk C p [] ((List.range 7).drop n)
  simp only [List.nil_append, List.length_nil, Nat.zero_add, h, fd] at h1
  unfold pad
  rw [h1]
theorem pk_nn (C : Nat → Nat → Int) : ∀ (p : List Nat) (r : Nat), 0 ≤ pk C r p := by
  intro p
  induction p with
  | nil => intro r; exact Int.le_refl 0
  | cons c p ih => intro r; have := ih (r + 1); rw [pk]; omega
theorem link_ss (C : Nat → Nat → Int) (n : Nat) : SS C n 0 n 0 = (PL n).map (fun l => fs C l n) := by
  unfold SS PL
  rw [List.map_map]
  apply List.map_congr_left
  intro p hp
  exact (fs_pad C (cps_mem_len n _ _ p hp)).symm
theorem link_pp (C : Nat → Nat → Int) (n : Nat) : PP C n 0 n 0 = (PL n).map (fun l => fd C l n) := by
  unfold PP PL
  rw [List.map_map]
  apply List.map_congr_left
  intro p hp
  have h := pk_nn C p 0
  have h2 := fd_pad C (cps_mem_len n _ _ p hp)
  show _ = fd C (pad n p) n
  omega
theorem link_ft (C : Nat → Nat → Int) (n : Nat) (v : Int) : (PL n).find? (fun l => decide (fs C l n = v)) = (ft C n 0 n 0 v).map (pad n) := by
  unfold ft PL
  rw [List.find?_map]
  congr 1
  apply find_congr
  intro p hp
  show decide (fs C (pad n p) n = v) = _
  rw [fs_pad C (cps_mem_len n _ _ p hp)]
theorem pad_getD {n : Nat} {p : List Nat} (h : p.length = n) {i : Nat} (hi : i < n) : (pad n p).getD i 0 = p.getD i 0 := by
  unfold pad
  rw [List.getD_eq_getElem?_getD, List.getElem?_append_left (by omega), ← List.getD_eq_getElem?_getD]
theorem ft_len {C : Nat → Nat → Int} {n : Nat} {v : Int} {p : List Nat} (h : ft C n 0 n 0 v = some p) : p.length = n := cps_mem_len n _ _ p (List.mem_of_find?_eq_some h)
theorem PL_ne {n : Nat} (hn : n < 8) : PL n ≠ [] := by
  intro h
  have h1 := PL_len hn
  have h2 : ∀ n, n < 8 → 0 < fact n := by decide
  have := h2 n hn
  rw [h] at h1
  simp at h1
  omega
/-- two assignments that give every row the same column are the same -/
theorem PL_ext {n : Nat} {l f : List Nat} (hl : l ∈ PL n) (hf : f ∈ PL n) (h : ∀ i, i < n → l.getD i 0 = f.getD i 0) : l = f := by
  unfold PL at hl hf
  obtain ⟨p, hp, rfl⟩ := List.mem_map.mp hl
  obtain ⟨q, hq, rfl⟩ := List.mem_map.mp hf
  have l1 := cps_mem_len n _ _ p hp
  have l2 := cps_mem_len n _ _ q hq
  congr 1
  apply List.ext_getElem (by omega)
  intro i h1 h2
  have := h i (by omega)
  rw [pad_getD l1 (by omega), pad_getD l2 (by omega), List.getD_eq_getElem?_getD, List.getD_eq_getElem?_getD, List.getElem?_eq_getElem h1, List.getElem?_eq_getElem h2] at this
  exact this
/-! every cell is used -/
theorem or_bits : ∀ (Q : List (List Nat)) (n m t : Nat), ((Q.foldl (fun m l => (List.range n).foldl (fun m i => m ||| 2 ^ (7 * i + l.getD i 0)) m) m).testBit t = true) → m.testBit t = true ∨ ∃ l ∈ Q, ∃ i, i < n ∧ 7 * i + l.getD i 0 = t := by
  intro Q n
  have inner : ∀ (R : List Nat) (l : List Nat) (m t : Nat), ((R.foldl (fun m i => m ||| 2 ^ (7 * i + l.getD i 0)) m).testBit t = true) → m.testBit t = true ∨ ∃ i ∈ R, 7 * i + l.getD i 0 = t := by
    intro R l
    induction R with
    | nil => intro m t h; exact Or.inl h
    | cons i R ih =>
      intro m t h
      rw [List.foldl_cons] at h
      rcases ih _ _ h with h | ⟨i', h1, h2⟩
      · rw [Nat.testBit_or, Bool.or_eq_true] at h
        rcases h with h | h
        · exact Or.inl h
        · refine Or.inr ⟨i, List.mem_cons_self, ?_⟩
          rw [Nat.testBit_two_pow] at h
          exact of_decide_eq_true h
      · exact Or.inr ⟨i', List.mem_cons_of_mem _ h1, h2⟩
  induction Q with
  | nil => intro m t h; exact Or.inl h
  | cons l Q ih =>
    intro m t h
    rw [List.foldl_cons] at h
    rcases ih _ _ h with h | ⟨l', h1, h2⟩
    · rcases inner _ l _ _ h with h | ⟨i, h1, h2⟩
      · exact Or.inl h
      · exact Or.inr ⟨l, List.mem_cons_self, i, List.mem_range.mp h1, h2⟩
    · exact Or.inr ⟨l', List.mem_cons_of_mem _ h1, h2⟩
theorem used {n : Nat} (hn : n < 8) {i j : Nat} (hi : i < n) (hj : j < n) : ∃ l ∈ PL n, l.getD i 0 = j := by
  have h1 := use_all n hn i hi j hj
  unfold useBits at h1
  rcases or_bits _ _ _ _ h1 with h | ⟨l, hl, i', hi', e⟩
  · simp at h
  · have := ent hn hl hi'
    have h3 : i' = i := by omega
    subst h3
    exact ⟨l, hl, by omega⟩
/-! sums after a change of one row -/
theorem fs_row {C C' : Nat → Nat → Int} {r : Nat} (h : ∀ a b, a ≠ r → C' a b = C a b) (l : List Nat) : ∀ i, fs C' l i = fs C l i + (if r < i then C' r (l.getD r 0) - C r (l.getD r 0) else 0) := by
  intro i
  induction i with
  | zero => simp [fs]
  | succ i ih =>
    rw [fs, fs, ih]
    by_cases hr : i = r
    · subst hr
      rw [if_neg (by omega), if_pos (by omega)]
      omega
    · rw [h i _ hr]
      by_cases hr2 : r < i
      · rw [if_pos hr2, if_pos (by omega)]; omega
      · rw [if_neg hr2, if_neg (by omega)]; omega
theorem min_block {L : List (List Nat)} {F G : List Nat → Int} {P : List Nat → Bool} {B x y : Int} (h1 : ∀ l ∈ L, P l = true → F l = G l) (h2 : ∀ l ∈ L, P l = false → B < F l) (h3 : ∀ l ∈ L, G l ≤ B) (hx : IsMin (L.map F) x) (hy : IsMin ((L.filter P).map G) y) : x = y := by
  obtain ⟨x1, x2⟩ := hx
  obtain ⟨y1, y2⟩ := hy
  obtain ⟨l, hl, rfl⟩ := List.mem_map.mp x1
  obtain ⟨l0, hl0, rfl⟩ := List.mem_map.mp y1
  obtain ⟨g1, g2⟩ := List.mem_filter.mp hl0
  have a1 := x2 _ (List.mem_map.mpr ⟨l0, g1, rfl⟩)
  rw [h1 l0 g1 g2] at a1
  cases hP : P l with
  | true =>
    have a2 := y2 _ (List.mem_map.mpr ⟨l, List.mem_filter.mpr ⟨hl, hP⟩, rfl⟩)
    have := h1 l hl hP
    omega
  | false =>
    have := h2 l hl hP
    have := h3 l0 g1
    omega
theorem max_block {L : List (List Nat)} {F G : List Nat → Int} {P : List Nat → Bool} {x y : Int} (h1 : ∀ l ∈ L, P l = true → F l = G l ∧ 0 ≤ G l) (h2 : ∀ l ∈ L, P l = false → F l < 0) (hx : IsMax (L.map F) x) (hy : (L.filter P = [] ∧ y = -1) ∨ IsMax ((L.filter P).map G) y) : (if 0 ≤ x then x else -1) = y := by
  obtain ⟨x1, x2⟩ := hx
  obtain ⟨l, hl, rfl⟩ := List.mem_map.mp x1
  rcases hy with ⟨y1, rfl⟩ | ⟨y1, y2⟩
  · cases hP : P l with
    | true =>
      have : l ∈ L.filter P := List.mem_filter.mpr ⟨hl, hP⟩
      rw [y1] at this
      exact nomatch this
    | false => rw [if_neg (by have := h2 l hl hP; omega)]
  · obtain ⟨l0, hl0, rfl⟩ := List.mem_map.mp y1
    obtain ⟨g1, g2⟩ := List.mem_filter.mp hl0
    have a1 := x2 _ (List.mem_map.mpr ⟨l0, g1, rfl⟩)
    have a3 := h1 l0 g1 g2
    rw [if_pos (by omega)]
    cases hP : P l with
    | true =>
      have a2 := y2 _ (List.mem_map.mpr ⟨l, List.mem_filter.mpr ⟨hl, hP⟩, rfl⟩)
      have := h1 l hl hP
      omega
    | false =>
      have := h2 l hl hP
      omega
theorem IsMin_ex {L : List (List Nat)} {F : List Nat → Int} (h : L ≠ []) : ∃ v, IsMin (L.map F) v := by
  induction L with
  | nil => exact absurd rfl h
  | cons l L ih =>
    by_cases hL : L = []
    · subst hL
      exact ⟨F l, IsMin.one _⟩
    · obtain ⟨v, hv⟩ := ih hL
      by_cases hle : F l ≤ v
      · exact ⟨F l, (IsMin.one (F l)).app_le hv hle⟩
      · exact ⟨v, (IsMin.one (F l)).app_lt hv (by omega)⟩
