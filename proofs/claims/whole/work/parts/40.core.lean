/-! ===== assignments as lists, in their order ===== -/
def fr (n U : Nat) : List Nat := (List.range n).filter (fun c => !U.testBit c)
def cps (n : Nat) : Nat → Nat → List (List Nat)
  | 0, _ => [[]]
  | k + 1, U => (fr n U).flatMap (fun c => (cps n k (U ||| 2 ^ c)).map (fun p => c :: p))
def sm (C : Nat → Nat → Int) : Nat → List Nat → Int
  | _, [] => 0
  | r, c :: p => C r c + sm C (r + 1) p
def SS (C : Nat → Nat → Int) (n r k U : Nat) : List Int := (cps n k U).map (sm C r)
theorem SS_zero (C : Nat → Nat → Int) (n r U : Nat) : SS C n r 0 U = [0] := rfl
theorem SS_succ (C : Nat → Nat → Int) (n r k U : Nat) : SS C n r (k + 1) U = (fr n U).flatMap (fun c => (SS C n (r + 1) k (U ||| 2 ^ c)).map (fun x => C r c + x)) := by
  unfold SS
  rw [cps, List.map_flatMap]
  congr 1
  funext c
  rw [List.map_map, List.map_map]
  rfl
def pop (U : Nat) : Nat := ((List.range 7).filter (fun c => U.testBit c)).length
theorem fr_len : ∀ n, n < 8 → ∀ U, U < 2 ^ n → (fr n U).length = n - pop U ∧ pop U ≤ n := by decide +kernel
theorem pop_or : ∀ U, U < 128 → ∀ c, c < 7 → U.testBit c = false → pop (U ||| 2 ^ c) = pop U + 1 ∧ U < U ||| 2 ^ c := by decide +kernel
theorem or_lt : ∀ n, n < 8 → ∀ U, U < 2 ^ n → ∀ c, c < n → U ||| 2 ^ c < 2 ^ n := by decide +kernel
theorem pop_full : ∀ n, n < 8 → pop (2 ^ n - 1) = n := by decide +kernel
theorem pop_lt : ∀ n, n < 8 → ∀ U, U < 2 ^ n - 1 → pop U < n := by decide +kernel
theorem pop_zero : pop 0 = 0 := by decide +kernel
theorem mem_fr {n U c : Nat} : c ∈ fr n U ↔ c < n ∧ U.testBit c = false := by
  unfold fr
  simp [List.mem_filter, List.mem_range]
/-- the least of a list -/
def IsMin (S : List Int) (v : Int) : Prop := v ∈ S ∧ ∀ x ∈ S, v ≤ x
def IsMax (S : List Int) (v : Int) : Prop := v ∈ S ∧ ∀ x ∈ S, x ≤ v
theorem IsMin.uniq {S : List Int} {v w : Int} (h : IsMin S v) (h2 : IsMin S w) : v = w := Int.le_antisymm (h.2 w h2.1) (h2.2 v h.1)
theorem IsMax.uniq {S : List Int} {v w : Int} (h : IsMax S v) (h2 : IsMax S w) : v = w := Int.le_antisymm (h2.2 v h.1) (h.2 w h2.1)
theorem IsMin.map_add {S : List Int} {v : Int} (h : IsMin S v) (a : Int) : IsMin (S.map (fun x => a + x)) (a + v) := by
  refine ⟨List.mem_map.mpr ⟨v, h.1, rfl⟩, fun x hx => ?_⟩
  obtain ⟨y, hy, rfl⟩ := List.mem_map.mp hx
  have := h.2 y hy
  omega
theorem IsMax.map_add {S : List Int} {v : Int} (h : IsMax S v) (a : Int) : IsMax (S.map (fun x => a + x)) (a + v) := by
  refine ⟨List.mem_map.mpr ⟨v, h.1, rfl⟩, fun x hx => ?_⟩
  obtain ⟨y, hy, rfl⟩ := List.mem_map.mp hx
  have := h.2 y hy
  omega
theorem IsMin.one (v : Int) : IsMin [v] v := ⟨List.mem_singleton.mpr rfl, fun x hx => by rw [List.mem_singleton.mp hx]; exact Int.le_refl _⟩
theorem IsMax.one (v : Int) : IsMax [v] v := ⟨List.mem_singleton.mpr rfl, fun x hx => by rw [List.mem_singleton.mp hx]; exact Int.le_refl _⟩
theorem IsMin.app_lt {S T : List Int} {v w : Int} (h : IsMin S v) (h2 : IsMin T w) (hl : w < v) : IsMin (S ++ T) w :=
  ⟨List.mem_append_right _ h2.1, fun x hx => by
    rcases List.mem_append.mp hx with hx | hx
    · have := h.2 x hx; omega
    · exact h2.2 x hx⟩
theorem IsMin.app_le {S T : List Int} {v w : Int} (h : IsMin S v) (h2 : IsMin T w) (hl : v ≤ w) : IsMin (S ++ T) v :=
  ⟨List.mem_append_left _ h.1, fun x hx => by
    rcases List.mem_append.mp hx with hx | hx
    · exact h.2 x hx
    · have := h2.2 x hx; omega⟩
theorem IsMax.app_gt {S T : List Int} {v w : Int} (h : IsMax S v) (h2 : IsMax T w) (hl : v < w) : IsMax (S ++ T) w :=
  ⟨List.mem_append_right _ h2.1, fun x hx => by
    rcases List.mem_append.mp hx with hx | hx
    · have := h.2 x hx; omega
    · exact h2.2 x hx⟩
theorem IsMax.app_ge {S T : List Int} {v w : Int} (h : IsMax S v) (h2 : IsMax T w) (hl : w ≤ v) : IsMax (S ++ T) v :=
  ⟨List.mem_append_left _ h.1, fun x hx => by
    rcases List.mem_append.mp hx with hx | hx
    · exact h.2 x hx
    · have := h2.2 x hx; omega⟩
theorem cnt_lt {S : List Int} {v w : Int} (h : IsMin S v) (hl : w < v) : S.count w = 0 := by
  rw [List.count_eq_zero]
  intro hw
  have := h.2 w hw
  omega
theorem cnt_add (S : List Int) (a v : Int) : (S.map (fun x => a + x)).count (a + v) = S.count v := by
  induction S with
  | nil => rfl
  | cons x S ih =>
    rw [List.map_cons, List.count_cons, List.count_cons, ih]
    congr 1
    by_cases h : x = v
    · subst h; simp
    · have h2 : ¬ (a + x = a + v) := by omega
      simp [h, h2]
/-- the columns below j that U leaves, each with its completions -/
def SJ (C : Nat → Nat → Int) (n r k U j : Nat) : List Int := ((List.range j).filter (fun c => !U.testBit c)).flatMap (fun c => (SS C n (r + 1) k (U ||| 2 ^ c)).map (fun x => C r c + x))
theorem SJ_zero (C : Nat → Nat → Int) (n r k U : Nat) : SJ C n r k U 0 = [] := rfl
theorem SJ_full (C : Nat → Nat → Int) (n r k U : Nat) : SJ C n r k U n = SS C n r (k + 1) U := (SS_succ C n r k U).symm
theorem SJ_free (C : Nat → Nat → Int) (n r k U j : Nat) (h : U.testBit j = false) : SJ C n r k U (j + 1) = SJ C n r k U j ++ (SS C n (r + 1) k (U ||| 2 ^ j)).map (fun x => C r j + x) := by
  unfold SJ
  rw [List.range_succ, List.filter_append, List.flatMap_append]
  simp [h]
theorem SJ_used (C : Nat → Nat → Int) (n r k U j : Nat) (h : U.testBit j = true) : SJ C n r k U (j + 1) = SJ C n r k U j := by
  unfold SJ
  rw [List.range_succ, List.filter_append, List.flatMap_append]
  simp [h]
/-- bounds of sums -/
theorem SS_bound (C : Nat → Nat → Int) (B : Int) (hB : 0 ≤ B) (n : Nat) (hC : ∀ i j, i < n → j < n → -B ≤ C i j ∧ C i j ≤ B) : ∀ (k r U : Nat), r + k ≤ n → ∀ x ∈ SS C n r k U, -(B * k) ≤ x ∧ x ≤ B * k := by
  intro k
  induction k with
  | zero => intro r U _ x hx; rw [SS_zero] at hx; rw [List.mem_singleton.mp hx]; simp
  | succ k ih =>
    intro r U hr x hx
    rw [SS_succ] at hx
    obtain ⟨c, hc, hx⟩ := List.mem_flatMap.mp hx
    obtain ⟨y, hy, rfl⟩ := List.mem_map.mp hx
    have h1 := ih (r + 1) _ (by omega) y hy
    have h2 := hC r c (by omega) (mem_fr.mp hc).1
    have e : B * ((k + 1 : Nat) : Int) = B * (k : Int) + B := by rw [Int.natCast_add, Int.mul_add]; simp
    omega
theorem SS_ne (C : Nat → Nat → Int) (n : Nat) (hn : n < 8) : ∀ (k r U : Nat), U < 2 ^ n → pop U + k = n → SS C n r k U ≠ [] := by
  intro k
  induction k with
  | zero => intro r U _ _ h; rw [SS_zero] at h; cases h
  | succ k ih =>
    intro r U hU hp h
    have hl := fr_len n hn U hU
    cases hf : fr n U with
    | nil => rw [hf] at hl; simp at hl; omega
    | cons c l =>
      have hc : c ∈ fr n U := by rw [hf]; exact List.mem_cons_self
      obtain ⟨h1, h2⟩ := mem_fr.mp hc
      have h128 : U < 128 := Nat.lt_of_lt_of_le hU (by have : 2 ^ n ≤ 2 ^ 7 := Nat.pow_le_pow_right (by omega) (by omega); simpa using this)
      have h3 := (pop_or U h128 c (by omega) h2).1
      have h4 := ih (r + 1) (U ||| 2 ^ c) (or_lt n hn U hU c h1) (by omega)
      rw [SS_succ, List.flatMap_eq_nil_iff] at h
      have h5 := h c hc
      rw [List.map_eq_nil_iff] at h5
      exact h4 h5
def fact : Nat → Nat
  | 0 => 1
  | k + 1 => (k + 1) * fact k
theorem sum_const {α : Type} (l : List α) (m : Nat) : (l.map (fun _ => m)).sum = l.length * m := by
  induction l with
  | nil => simp
  | cons x l ih => simp [ih, Nat.succ_mul, Nat.add_comm]
theorem cps_len (n : Nat) (hn : n < 8) : ∀ (k U : Nat), U < 2 ^ n → pop U + k = n → (cps n k U).length = fact k := by
  intro k
  induction k with
  | zero => intro U _ _; rfl
  | succ k ih =>
    intro U hU hp
    rw [cps, List.length_flatMap]
    have hl := fr_len n hn U hU
    have h128 : U < 128 := Nat.lt_of_lt_of_le hU (by have : 2 ^ n ≤ 2 ^ 7 := Nat.pow_le_pow_right (by omega) (by omega); simpa using this)
    have e : (fr n U).map (fun c => ((cps n k (U ||| 2 ^ c)).map (fun p => c :: p)).length) = (fr n U).map (fun _ => fact k) := by
      apply List.map_congr_left
      intro c hc
      obtain ⟨h1, h2⟩ := mem_fr.mp hc
      have h3 := (pop_or U h128 c (by omega) h2).1
      rw [List.length_map]
      exact ih _ (or_lt n hn U hU c h1) (by omega)
    rw [e, sum_const, fact, hl.1]
    congr 1
    omega
