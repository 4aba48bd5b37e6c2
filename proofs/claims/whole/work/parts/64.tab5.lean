/-! ===== division ===== -/
theorem nI_dv {a c : Nat} (ha : a < 2147483648) (hc : 1 ≤ c) (hc2 : c < 2147483648) : nI a / nI c = nI (a / c) := by
  rw [zz_inj, Int32.toInt_div, nI_toInt ha, nI_toInt hc2, nI_toInt (Nat.lt_of_le_of_lt (Nat.div_le_self a c) ha), ← Int.ofNat_tdiv]
  have h1 : a / c ≤ a := Nat.div_le_self a c
  have h2 : (0 : Int) ≤ ((a / c : Nat) : Int) := Int.natCast_nonneg _
  rw [zz_bmod (by omega) (by omega)]
theorem nI_md {a c : Nat} (ha : a < 2147483648) (hc : 1 ≤ c) (hc2 : c < 2147483648) : nI a - nI a / nI c * nI c = nI (a % c) := by
  rw [nI_dv ha hc hc2, pk_mul]
  have e : a = a % c + a / c * c := by
    have := Nat.mod_add_div a c
    rw [Nat.mul_comm] at this
    omega
  have h1 : a / c * c ≤ a := Nat.div_mul_le_self a c
  have h2 : a % c ≤ a := Nat.mod_le a c
  rw [zz_inj, zz_sub (by rw [nI_toInt ha, nI_toInt (by omega)]; omega) (by rw [nI_toInt ha, nI_toInt (by omega)]; omega), nI_toInt ha, nI_toInt (by omega), nI_toInt (by omega)]
  omega
theorem fill_next {a : Nat} (ha : a < 100000) : ((37 : Int32) * nI a + 11) - ((37 : Int32) * nI a + 11) / 10007 * 10007 = nI ((37 * a + 11) % 10007) := by
  rw [nlit 37, nlit 11, nlit 10007, pk_mul, nI_add]
  exact nI_md (by omega) (by omega) (by omega)
theorem fill_in {n m i q : Nat} (hq : q < 100) (hi : i < 7) : ∀ (d nf j a : Nat) (s : Int32) (t : zT), Vt t n m → a < 100000 → d < nf → j + d = m → ∃ (t2 : zT) (a2 : Nat) (s2 : Int32), Vt t2 n m ∧ a2 < 100000 ∧
    (∀ (k37 : zC → Int32 → Int32 → Int32 → Int32 → Option (Sum String Int32 × zC)) (σ : zC), σ.1 = t → s_X3_fill_52 k37 nf σ (nI q) (nI a) s (nI i) (nI j) = k37 (t2, σ.2) (nI q) (nI a2) s2 (nI (i + 1))) ∧
    (∀ (k46 : zM → Int32 → Int32 → Int32 → Int32 → Option (Int32 × zM)) (μ : zM), μ.1 = t → s_X4_fill_58 k46 nf μ (nI q) (nI a) s (nI i) (nI j) = k46 (t2, μ.2) (nI q) (nI a2) s2 (nI (i + 1))) := by
  intro d
  induction d with
  | zero =>
    intro nf j a s t h ha hd hj
    obtain ⟨nf, rfl⟩ : ∃ q, nf = q + 1 := ⟨nf - 1, by omega⟩
    have : j = m := by omega
    subst this
    refine ⟨t, a, s, h, ha, ?_, ?_⟩
    · rintro k37 σ rfl
      rw [s_X3_fill_52, if_pos (by rw [h.2.1]; exact Int32.le_refl _), nsucc]
    · rintro k46 μ rfl
      rw [s_X4_fill_58, if_pos (by rw [h.2.1]; exact Int32.le_refl _), nsucc]
  | succ d ih =>
    intro nf j a s t h ha hd hj
    have hn := h.2.2.2.2.1
    have hmn := h.2.2.2.1
    obtain ⟨nf, rfl⟩ : ∃ q, nf = q + 1 := ⟨nf - 1, by omega⟩
    have i1 : ib (nI (7 * i + j)) 49 = true := ib_ok (by omega) (by omega)
    have hx : (37 * a + 11) % 10007 < 10007 := Nat.mod_lt _ (by omega)
    have hw : (37 * a + 11) % 10007 % (q + 1) < q + 1 := Nat.mod_lt _ (by omega)
    have hq0 : ¬ nI (q + 1) = 0 := by rw [n0, neq (by omega) (by omega)]; omega
    have ew : nI ((37 * a + 11) % 10007) - nI ((37 * a + 11) % 10007) / nI (q + 1) * nI (q + 1) = nI ((37 * a + 11) % 10007 % (q + 1)) := nI_md (by omega) (by omega) (by omega)
    have h2 : Vt (t.1, t.2.1, upd t.2.2.1 (7 * i + j) (nI ((37 * a + 11) % 10007 % (q + 1))), t.2.2.2) n m := h.num (by omega)
    have h3 := h2.forb (k := 7 * i + j) (x := 0) (Or.inl rfl)
    obtain ⟨t2, a2, s2, q1, q2, q3, q4⟩ := ih nf (j + 1) ((37 * a + 11) % 10007) (s + nI ((37 * a + 11) % 10007 % (q + 1))) _ h3 (by omega) (by omega) (by omega)
    refine ⟨t2, a2, s2, q1, q2, ?_, ?_⟩
    · rintro k37 σ rfl
      rw [s_X3_fill_52, if_neg (by rw [h.2.1, nle (by omega) (by omega)]; omega), show nI q + (1 : Int32) = nI (q + 1) from nsucc q, if_pos hq0, fill_next ha, ew, e_putNumber _ hi (by omega), Option.bind_some, e_putForbidden _ hi (by omega), Option.bind_some, nsucc]
      exact q3 k37 ((σ.1.1, σ.1.2.1, upd σ.1.2.2.1 (7 * i + j) (nI ((37 * a + 11) % 10007 % (q + 1))), upd σ.1.2.2.2 (7 * i + j) 0), σ.2) rfl
    · rintro k46 μ rfl
      rw [s_X4_fill_58, if_neg (by rw [h.2.1, nle (by omega) (by omega)]; omega), show nI q + (1 : Int32) = nI (q + 1) from nsucc q, if_pos hq0, fill_next ha, ew, cell_eq2, if_pos i1, if_pos i1, if_pos i1, ncl (by omega), upd_same, nsucc]
      exact q4 k46 ((μ.1.1, μ.1.2.1, upd μ.1.2.2.1 (7 * i + j) (nI ((37 * a + 11) % 10007 % (q + 1))), upd μ.1.2.2.2 (7 * i + j) 0), μ.2) rfl
theorem fill_out {n m q : Nat} (hq : q < 100) : ∀ (d nf i a : Nat) (s : Int32) (t : zT), Vt t n m → a < 100000 → d < nf → i + d = n → ∃ (t2 : zT) (s2 : Int32), Vt t2 n m ∧
    (∀ (σ : zC), σ.1 = t → s_X3_fill_37 nf σ (nI q) (nI a) s (nI i) = some (.inr s2, off σ t2)) ∧
    (∀ (μ : zM), μ.1 = t → s_X4_fill_46 nf μ (nI q) (nI a) s (nI i) = some (s2, offM μ t2 μ.2.2.2.2)) := by
  intro d
  induction d with
  | zero =>
    intro nf i a s t h ha hd hj
    obtain ⟨nf, rfl⟩ : ∃ q, nf = q + 1 := ⟨nf - 1, by omega⟩
    have : i = n := by omega
    subst this
    refine ⟨t, s, h, ?_, ?_⟩
    · rintro σ rfl
      rw [s_X3_fill_37, if_pos (by rw [h.1]; exact Int32.le_refl _)]
      unfold s_X2_cancel
      rw [Option.bind_some]
    · rintro μ rfl
      rw [s_X4_fill_46, if_pos (by rw [h.1]; exact Int32.le_refl _)]
  | succ d ih =>
    intro nf i a s t h ha hd hj
    have hn := h.2.2.2.2.1
    have hmn := h.2.2.2.1
    obtain ⟨nf, rfl⟩ : ∃ q, nf = q + 1 := ⟨nf - 1, by omega⟩
    obtain ⟨t1, a1, s1, p1, p2, p3, p4⟩ := fill_in (n := n) (m := m) (i := i) hq (by omega) m FU 0 a s t h ha (by unfold FU; omega) (by omega)
    obtain ⟨t2, s2, q1, q2, q3⟩ := ih nf (i + 1) a1 s1 t1 p1 p2 (by omega) (by omega)
    refine ⟨t2, s2, q1, ?_, ?_⟩
    · rintro σ rfl
      rw [s_X3_fill_37, if_neg (by rw [h.1, nle (by omega) (by omega)]; omega), show s_X3_fill_52 (fun v0 v1 v2 v3 v4 => s_X3_fill_37 nf v0 v1 v2 v3 v4) FU σ (nI q) (nI a) s (nI i) (0 : Int32) = s_X3_fill_52 (fun v0 v1 v2 v3 v4 => s_X3_fill_37 nf v0 v1 v2 v3 v4) FU σ (nI q) (nI a) s (nI i) (nI 0) from by rw [n0]]
      exact (p3 (fun v0 v1 v2 v3 v4 => s_X3_fill_37 nf v0 v1 v2 v3 v4) σ rfl).trans (q2 (t1, σ.2) rfl)
    · rintro μ rfl
      rw [s_X4_fill_46, if_neg (by rw [h.1, nle (by omega) (by omega)]; omega), show s_X4_fill_58 (fun v0 v1 v2 v3 v4 => s_X4_fill_46 nf v0 v1 v2 v3 v4) FU μ (nI q) (nI a) s (nI i) (0 : Int32) = s_X4_fill_58 (fun v0 v1 v2 v3 v4 => s_X4_fill_46 nf v0 v1 v2 v3 v4) FU μ (nI q) (nI a) s (nI i) (nI 0) from by rw [n0]]
      exact (p4 (fun v0 v1 v2 v3 v4 => s_X4_fill_46 nf v0 v1 v2 v3 v4) μ rfl).trans (q3 (t1, μ.2) rfl)
theorem o_fill {σ : zC} {μ : zM} (h : Rel σ μ) (p q : Int32) : ∃ z σ2 b μ2, s_X3_fill σ p q = some (z, σ2) ∧ s_X4_fill μ p q = some (b, μ2) ∧ Rel σ2 μ2 ∧ TH [xA] z b μ2.2.2.2.2 := by
  have h0 := h
  obtain ⟨a1, a2, ⟨n, m, hV, hE⟩, -⟩ := h
  have hn := hV.2.2.2.2.1
  have hmn := hV.2.2.2.1
  have e9 : (9999 : Int32).toInt = 9999 := rfl
  have e99 : (99 : Int32).toInt = 99 := rfl
  have bad : s_X4_fill_30 μ p q 1 = some (0, wt μ 1) := by
    unfold s_X4_fill_30
    rw [e_isWrong1 μ (by decide), Option.bind_some, if_neg one_ne]
  unfold s_X4_fill s_X4_fill_25 s_X3_fill
  rw [e_isIn1 p 0 9999 0 9999 rfl rfl, Option.bind_some, e_isIn1 q 0 99 0 99 rfl rfl, Option.bind_some]
  by_cases hp : inI p 0 9999
  · rw [if_pos hp, if_neg one_ne, if_neg (by rw [p_neg]; have := hp.1; omega), if_neg (by rw [zz_lt, e9]; have := hp.2; omega)]
    by_cases hq : inI q 0 99
    · rw [if_pos hq, if_neg one_ne, if_neg (by rw [p_neg]; have := hq.1; omega), if_pos (by rw [zz_le, e99]; exact hq.2)]
      obtain ⟨a, ha, rfl⟩ := inI_n (b := 9999) hp
      obtain ⟨r, hr, rfl⟩ := inI_n (b := 99) hq
      obtain ⟨t2, s2, q1, q2, q3⟩ := fill_out (n := n) (m := m) (q := r) (by omega) n FU 0 a 0 σ.1 hV (by omega) (by unfold FU; omega) (by omega)
      unfold s_X4_fill_30
      rw [e_isWrong0, Option.bind_some, if_pos rfl]
      exact ⟨_, _, _, _, q2 σ rfl, q3 (wt μ 0) a1, h0.off q1, TH_0⟩
    · rw [if_neg hq, if_pos rfl, bad]
      by_cases h1 : q < 0
      · rw [if_pos h1]; exact ⟨_, _, _, _, rfl, rfl, h0.bad, TH_1⟩
      · rw [if_neg h1, if_neg (by
          intro h2
          rw [p_neg] at h1; rw [zz_le, e99] at h2
          exact hq ⟨by omega, h2⟩)]
        exact ⟨_, _, _, _, rfl, rfl, h0.bad, TH_1⟩
  · rw [if_neg hp, if_pos rfl, bad]
    by_cases h1 : p < 0
    · rw [if_pos h1]; exact ⟨_, _, _, _, rfl, rfl, h0.bad, TH_1⟩
    · rw [if_neg h1, if_pos (by
        rw [p_neg] at h1; rw [zz_lt, e9]
        refine Classical.byContradiction (fun h2 => hp ⟨by omega, by omega⟩))]
      exact ⟨_, _, _, _, rfl, rfl, h0.bad, TH_1⟩
/-! a row from digits in base 100 -/
theorem l64_rng (x : Int64) : -9223372036854775808 ≤ x.toInt ∧ x.toInt < 9223372036854775808 := by
  have h1 := Int64.le_toInt x
  have h2 := Int64.toInt_lt x
  omega
theorem l64_bmod {z : Int} (h1 : -9223372036854775808 ≤ z) (h2 : z < 9223372036854775808) : z.bmod (2 ^ 64) = z := by
  rw [Int.bmod_eq_of_le (by omega) (by omega)]
theorem l64_100 : (100 : Int64).toInt = 100 := rfl
theorem l64_dv {x : Int64} (hx : 0 ≤ x.toInt) : (x / 100).toInt = x.toInt / 100 := by
  have h1 := l64_rng x
  rw [Int64.toInt_div, l64_100, Int.tdiv_eq_ediv_of_nonneg hx, l64_bmod (by omega) (by omega)]
theorem l64_md {x : Int64} (hx : 0 ≤ x.toInt) : ∃ w, w < 100 ∧ (x - x / 100 * 100).toInt32 = nI w := by
  have h1 := l64_rng x
  have h2 := l64_dv hx
  have h3 : (x / 100 * 100).toInt = x.toInt / 100 * 100 := by
    rw [Int64.toInt_mul, h2, l64_100, l64_bmod (by omega) (by omega)]
  have h4 : (x - x / 100 * 100).toInt = x.toInt % 100 := by
    rw [Int64.toInt_sub, h3, l64_bmod (by omega) (by omega)]
    omega
  refine ⟨(x.toInt % 100).toNat, by omega, ?_⟩
  rw [zz_inj, Int64.toInt_toInt32, h4, nI_toInt (by omega), zz_bmod (by omega) (by omega)]
  omega
theorem setRow_loop {n m i : Nat} (hi : i < 7) : ∀ (k nf : Nat) (x : Int64) (s : Int32) (t : zT), Vt t n m → 0 ≤ x.toInt → k < nf → k ≤ m → ∃ (t2 : zT) (s2 : Int32), Vt t2 n m ∧
    (∀ (σ : zC), σ.1 = t → s_X3_setRow_46 nf σ (nI i) x s (nI k + (-1)) = some (.inr s2, off σ t2)) ∧
    (∀ (μ : zM), μ.1 = t → s_X4_setRow_83 nf μ (nI i) x s (nI k + (-1)) = some (s2, offM μ t2 μ.2.2.2.2)) := by
  intro k
  induction k with
  | zero =>
    intro nf x s t h hx hd hk
    obtain ⟨nf, rfl⟩ : ∃ q, nf = q + 1 := ⟨nf - 1, by omega⟩
    refine ⟨t, s, h, ?_, ?_⟩
    · rintro σ rfl
      rw [s_X3_setRow_46, if_pos n_neg0]
      unfold s_X2_cancel
      rw [Option.bind_some]
    · rintro μ rfl
      rw [s_X4_setRow_83, if_pos n_neg0]
  | succ k ih =>
    intro nf x s t h hx hd hk
    have hn := h.2.2.2.2.1
    have hmn := h.2.2.2.1
    obtain ⟨nf, rfl⟩ : ∃ q, nf = q + 1 := ⟨nf - 1, by omega⟩
    have ek : nI (k + 1) + (-1) = nI k := by rw [npred (by omega)]; rfl
    obtain ⟨w, hw, ew⟩ := l64_md hx
    have hx2 : 0 ≤ (x / 100).toInt := by rw [l64_dv hx]; omega
    obtain ⟨t2, s2, q1, q2, q3⟩ := ih nf (x / 100) (if nI w < s then nI w else s) _ (h.num (k := 7 * i + k) hw) hx2 (by omega) (by omega)
    refine ⟨t2, s2, q1, ?_, ?_⟩
    · rintro σ rfl
      rw [s_X3_setRow_46, ek, if_neg (n_not_neg (by omega)), ew, e_putNumber _ hi (by omega), Option.bind_some]
      exact q2 ((σ.1.1, σ.1.2.1, upd σ.1.2.2.1 (7 * i + k) (nI w), σ.1.2.2.2), σ.2) rfl
    · rintro μ rfl
      have q4 := q3 ((μ.1.1, μ.1.2.1, upd μ.1.2.2.1 (7 * i + k) (nI w), μ.1.2.2.2), μ.2) rfl
      rw [s_X4_setRow_83, ek, if_neg (n_not_neg (by omega)), ew, cell_eq2, if_pos (ib_ok (by omega) (by omega)), ncl (by omega)]
      by_cases hlt : nI w < s
      · rw [if_pos hlt] at q4
        rw [if_neg (by rw [zz_lt] at hlt; rw [zz_le]; omega)]
        exact q4
      · rw [if_neg hlt] at q4
        rw [if_pos (by rw [zz_lt] at hlt; rw [zz_le]; omega)]
        exact q4
def pb : Nat → Int64
  | 0 => 1
  | k + 1 => pb k * 100
theorem pb_loop {σ : zC} {m : Nat} (h : σ.1.2.1 = nI m) (hm : m < 8) : ∀ (d nf k : Nat), d < nf → k + d = m → s_X3_packedBound_4 nf σ (pb k) (nI k) = some (pb m) := by
  intro d
  induction d with
  | zero =>
    intro nf k hd hk
    obtain ⟨nf, rfl⟩ : ∃ q, nf = q + 1 := ⟨nf - 1, by omega⟩
    have : k = m := by omega
    subst this
    rw [s_X3_packedBound_4, if_pos (by rw [h]; exact Int32.le_refl _)]
  | succ d ih =>
    intro nf k hd hk
    obtain ⟨nf, rfl⟩ : ∃ q, nf = q + 1 := ⟨nf - 1, by omega⟩
    rw [s_X3_packedBound_4, if_neg (by rw [h, nle (by omega) (by omega)]; omega), nsucc]
    exact ih nf (k + 1) (by omega) (by omega)
theorem pbM_loop {μ : zM} {m : Nat} (h : μ.1.2.1 = nI m) (hm : m < 8) (p : Int32) (x : Int64) : ∀ (d nf k : Nat), d < nf → k + d = m → s_X4_setRow_6 nf μ p x (pb k) (nI k) = (s_X4_isRow μ p).bind fun z2 => if z2 = 0 then (s_X4_setRow_60 μ p x (1 : Int32)) else (if (lg_cmp x (0 : Int64)) < 0 then (s_X4_setRow_55 μ p x) else (if (lg_cmp x (pb m)) < 0 then (s_X4_setRow_60 μ p x (0 : Int32)) else (s_X4_setRow_55 μ p x))) := by
  intro d
  induction d with
  | zero =>
    intro nf k hd hk
    obtain ⟨nf, rfl⟩ : ∃ q, nf = q + 1 := ⟨nf - 1, by omega⟩
    have : k = m := by omega
    subst this
    rw [s_X4_setRow_6, if_pos (by rw [h]; exact Int32.le_refl _)]
  | succ d ih =>
    intro nf k hd hk
    obtain ⟨nf, rfl⟩ : ∃ q, nf = q + 1 := ⟨nf - 1, by omega⟩
    rw [s_X4_setRow_6, if_neg (by rw [h, nle (by omega) (by omega)]; omega), nsucc]
    exact ih nf (k + 1) (by omega) (by omega)
theorem o_setRow {σ : zC} {μ : zM} (h : Rel σ μ) (p : Int32) (x : Int64) : ∃ z σ2 b μ2, s_X3_setRow σ p x = some (z, σ2) ∧ s_X4_setRow μ p x = some (b, μ2) ∧ Rel σ2 μ2 ∧ TH [xO, xA] z b μ2.2.2.2.2 := by
  have h0 := h
  obtain ⟨a1, a2, ⟨n, m, hV, hE⟩, -⟩ := h
  have hn := hV.2.2.2.2.1
  have hmn := hV.2.2.2.1
  have hM : Vt μ.1 n m := by rw [a1]; exact hV
  have e55 : s_X4_setRow_55 μ p x = some (0, wt μ 2) := by
    unfold s_X4_setRow_55 s_X4_setRow_60
    rw [e_isWrong1 μ (by decide), Option.bind_some, if_neg one_ne]
  have e60 : s_X4_setRow_60 μ p x 1 = some (0, wt μ 1) := by
    unfold s_X4_setRow_60
    rw [e_isWrong1 μ (by decide), Option.bind_some, if_neg one_ne]
  have ep := pbM_loop hM.2.1 (by omega) p x m FU 0 (by unfold FU; omega) (by omega)
  have ec := pb_loop hV.2.1 (by omega) m FU 0 (by unfold FU; omega) (by omega)
  unfold s_X4_setRow s_X3_setRow s_X3_packedBound
  rw [show s_X4_setRow_6 FU μ p x (1 : Int64) (0 : Int32) = s_X4_setRow_6 FU μ p x (pb 0) (nI 0) from by rw [n0]; rfl, ep, m_row hM, e_requireRow hV.1 hn, Option.bind_some, show s_X3_packedBound_4 FU σ (1 : Int64) (0 : Int32) = s_X3_packedBound_4 FU σ (pb 0) (nI 0) from by rw [n0]; rfl, ec]
  by_cases hp : inN p n
  · rw [if_pos hp, if_pos hp, zsel_r, Option.bind_some]
    by_cases h1 : lg_cmp x 0 < 0
    · rw [if_pos h1, if_pos h1, e55]
      exact ⟨_, _, _, _, rfl, rfl, h0.bad, TH_2⟩
    · rw [if_neg h1, if_neg h1]
      by_cases h2 : lg_cmp x (pb m) < 0
      · rw [if_pos h2, if_pos h2]
        obtain ⟨i, hi, rfl, -⟩ := inN_n hp
        have hx : 0 ≤ x.toInt := by
          rw [l_cmp0] at h1
          have e0 : (0 : Int64).toInt = 0 := rfl
          omega
        obtain ⟨t2, s2, q1, q2, q3⟩ := setRow_loop (n := n) (m := m) (i := i) (by omega) m FU x 99 σ.1 hV hx (by unfold FU; omega) (Nat.le_refl _)
        unfold s_X4_setRow_60
        rw [e_isWrong0, Option.bind_some, if_pos rfl, hV.2.1, sub_one]
        show ∃ z σ2 b μ2, _ ∧ s_X4_setRow_83 FU (wt μ 0) (nI i) x 99 (μ.1.2.1 - 1) = some (b, μ2) ∧ _
        rw [hM.2.1, sub_one]
        exact ⟨_, _, _, _, q2 σ rfl, q3 (wt μ 0) a1, h0.off q1, TH_0⟩
      · rw [if_neg h2, if_neg h2, e55]
        exact ⟨_, _, _, _, rfl, rfl, h0.bad, TH_2⟩
  · rw [if_neg hp, if_neg hp, zsel_l, e60]
    exact ⟨_, _, _, _, rfl, rfl, h0.bad, TH_1⟩
