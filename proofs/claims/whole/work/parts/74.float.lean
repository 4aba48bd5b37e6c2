/-! ===== floats that are no NaN ===== -/
def gd (f : FP.Core.Fmt) (d : FP.Core.Datum) : Prop := match d with
  | .nan => False
  | .inf _ => True
  | .fin _ c q => c < 2 * f.tails ∧ f.qmin ≤ q ∧ q ≤ f.qmax
theorem gd_settle {f : FP.Core.Fmt} (hf : 2 ^ f.p = 2 * f.tails) (ht : 0 < f.tails) {s : Bool} {c : Nat} {q : Int} (hq : f.qmin ≤ q) : gd f (FP.Core.settle f s c q) := by
  unfold FP.Core.settle FP.Core.bound
  rw [hf]
  by_cases h1 : c < 2 * f.tails
  · rw [if_pos h1]
    by_cases h2 : q ≤ f.qmax
    · rw [if_pos h2]; exact ⟨h1, hq, h2⟩
    · rw [if_neg h2]; exact trivial
  · rw [if_neg h1]
    by_cases h2 : q + 1 ≤ f.qmax
    · rw [if_pos h2]; exact ⟨by omega, by omega, h2⟩
    · rw [if_neg h2]; exact trivial
theorem gd_ratio {f : FP.Core.Fmt} (hf : 2 ^ f.p = 2 * f.tails) (ht : 0 < f.tails) (hm : f.qmin ≤ f.qmax) {s : Bool} {n d : Nat} {e : Int} : gd f (FP.Core.roundRatio f s n d e) := by
  unfold FP.Core.roundRatio
  by_cases h : n = 0
  · rw [if_pos h]; exact ⟨by omega, Int.le_refl _, hm⟩
  · rw [if_neg h]; exact gd_settle hf ht (Int.le_max_left _ _)
/-- what an encoding's number is, its sign aside -/
theorem enc_gd {f : FP.Core.Fmt} (hx : 2 ≤ f.exps) (ht : 0 < f.tails) (hE : (f.qmax - f.qmin + 1).toNat + 1 = f.exps - 1) (hm : f.qmin ≤ f.qmax) {d : FP.Core.Datum} (h : gd f d) : ∃ s E T, FP.Core.encode f d = FP.Core.assemble f s E T ∧ T < f.tails ∧ (E < f.exps - 1 ∨ (E = f.exps - 1 ∧ T = 0)) := by
  cases d with
  | nan => exact h.elim
  | inf s => exact ⟨s, _, 0, rfl, ht, Or.inr ⟨rfl, rfl⟩⟩
  | fin s c q =>
    obtain ⟨h1, h2, h3⟩ := h
    simp only [FP.Core.encode]
    by_cases hc : c < f.tails
    · rw [if_pos hc]; exact ⟨s, 0, c, rfl, hc, Or.inl (by omega)⟩
    · rw [if_neg hc]; exact ⟨s, _, _, rfl, by omega, Or.inl (by omega)⟩
theorem e32 : FP.Core.b32.exps = 256 ∧ FP.Core.b32.tails = 8388608 ∧ FP.Core.b32.qmin = -149 ∧ FP.Core.b32.qmax = 104 := by decide +kernel
theorem e64 : FP.Core.b64.exps = 2048 ∧ FP.Core.b64.tails = 4503599627370496 ∧ FP.Core.b64.qmin = -1074 ∧ FP.Core.b64.qmax = 971 := by decide +kernel

theorem gd_n32 {d : FP.Core.Datum} (h : gd FP.Core.b32 d) : vf_n32 (.ofNat (FP.Core.encode FP.Core.b32 d)) ∧ ∃ s E T, (UInt32.ofNat (FP.Core.encode FP.Core.b32 d)).toNat = FP.Core.assemble FP.Core.b32 s E T ∧ T < FP.Core.b32.tails ∧ (E < FP.Core.b32.exps - 1 ∨ (E = FP.Core.b32.exps - 1 ∧ T = 0)) := by
  obtain ⟨a, b, c, d2⟩ := e32
  obtain ⟨s, E, T, h1, h2, h3⟩ := enc_gd (f := FP.Core.b32) (by rw [a]; decide) (by rw [b]; decide) (by rw [a, c, d2]; decide) (by rw [c, d2]; decide) h
  have e : (UInt32.ofNat (FP.Core.encode FP.Core.b32 d)).toNat = FP.Core.assemble FP.Core.b32 s E T := by
    rw [h1, UInt32.toNat_ofNat']
    apply Nat.mod_eq_of_lt
    unfold FP.Core.assemble
    rw [a, b]
    rw [a] at h3; rw [b] at h2
    have : s.toNat ≤ 1 := by cases s <;> decide
    have : E ≤ 255 := by omega
    omega
  refine ⟨?_, s, E, T, e, h2, h3⟩
  unfold vf_n32
  rw [UInt32.le_iff_toNat_le, UInt32.toNat_and, e, show (0x7fffffff : UInt32).toNat = 2 ^ 31 - 1 from rfl, Nat.and_two_pow_sub_one_eq_mod]
  unfold FP.Core.assemble
  rw [a, b, show (0x7f800000 : UInt32).toNat = 2139095040 from rfl]
  rw [a] at h3; rw [b] at h2
  have : s.toNat ≤ 1 := by cases s <;> decide
  omega
theorem gd_n64 {d : FP.Core.Datum} (h : gd FP.Core.b64 d) : vf_n64 (.ofNat (FP.Core.encode FP.Core.b64 d)) ∧ ∃ s E T, (UInt64.ofNat (FP.Core.encode FP.Core.b64 d)).toNat = FP.Core.assemble FP.Core.b64 s E T ∧ T < FP.Core.b64.tails ∧ (E < FP.Core.b64.exps - 1 ∨ (E = FP.Core.b64.exps - 1 ∧ T = 0)) := by
  obtain ⟨a, b, c, d2⟩ := e64
  obtain ⟨s, E, T, h1, h2, h3⟩ := enc_gd (f := FP.Core.b64) (by rw [a]; decide) (by rw [b]; decide) (by rw [a, c, d2]; decide) (by rw [c, d2]; decide) h
  have e : (UInt64.ofNat (FP.Core.encode FP.Core.b64 d)).toNat = FP.Core.assemble FP.Core.b64 s E T := by
    rw [h1, UInt64.toNat_ofNat']
    apply Nat.mod_eq_of_lt
    unfold FP.Core.assemble
    rw [a, b]
    rw [a] at h3; rw [b] at h2
    have : s.toNat ≤ 1 := by cases s <;> decide
    have : E ≤ 2047 := by omega
    omega
  refine ⟨?_, s, E, T, e, h2, h3⟩
  unfold vf_n64
  rw [UInt64.le_iff_toNat_le, UInt64.toNat_and, e, show (0x7fffffffffffffff : UInt64).toNat = 2 ^ 63 - 1 from rfl, Nat.and_two_pow_sub_one_eq_mod]
  unfold FP.Core.assemble
  rw [a, b, show (0x7ff0000000000000 : UInt64).toNat = 9218868437227405312 from rfl]
  rw [a] at h3; rw [b] at h2
  have : s.toNat ≤ 1 := by cases s <;> decide
  omega
theorem dec_ne {f : FP.Core.Fmt} (hx : 2 ≤ f.exps) (ht : 0 < f.tails) {s : Bool} {E T : Nat} (h2 : T < f.tails) (h3 : E < f.exps - 1 ∨ (E = f.exps - 1 ∧ T = 0)) : FP.Core.decode f (FP.Core.assemble f s E T) ≠ .nan := by
  have k1 : FP.Core.fieldT f (FP.Core.assemble f s E T) = T := by
    unfold FP.Core.fieldT FP.Core.assemble
    rw [Nat.mul_comm, Nat.mul_add_mod, Nat.mod_eq_of_lt h2]
  have k2 : FP.Core.fieldE f (FP.Core.assemble f s E T) = E := by
    unfold FP.Core.fieldE FP.Core.assemble
    rw [Nat.mul_comm, Nat.mul_add_div ht, Nat.div_eq_of_lt h2, Nat.add_zero, Nat.mul_comm, Nat.mul_add_mod, Nat.mod_eq_of_lt (by omega)]
  unfold FP.Core.decode
  rw [k1, k2]
  rcases h3 with h | ⟨h, h0⟩
  · rw [if_neg (by omega)]
    by_cases h5 : E = 0
    · rw [if_pos h5]; exact fun h => nomatch h
    · rw [if_neg h5]; exact fun h => nomatch h
  · rw [if_pos h, if_pos h0]; exact fun h => nomatch h
theorem ord_self {d : FP.Core.Datum} (h : d ≠ .nan) : FP.Core.order d d = some .eq := by
  cases d with
  | nan => exact absurd rfl h
  | inf s => unfold FP.Core.order; exact congrArg some (by cases s <;> decide)
  | fin s c q => unfold FP.Core.order; exact congrArg some (by simp)
theorem gd_round {f : FP.Core.Fmt} (hf : 2 ^ f.p = 2 * f.tails) (ht : 0 < f.tails) (hm : f.qmin ≤ f.qmax) {d : FP.Core.Datum} (h : d ≠ .nan) : gd f (FP.Core.round f d) := by
  cases d with
  | nan => exact absurd rfl h
  | inf s => exact trivial
  | fin s c q => exact gd_ratio hf ht hm
def okF (r : UInt32) : Prop := vf_n32 r ∧ vf_n64 (FP.f2d r) ∧ FP.dcmp (FP.f2d r) (FP.f2d r) = some .eq
theorem okF_gd {d : FP.Core.Datum} (h : gd FP.Core.b32 d) : okF (.ofNat (FP.Core.encode FP.Core.b32 d)) := by
  obtain ⟨h1, s, E, T, h2, h3, h4⟩ := gd_n32 h
  have hne : FP.Core.decode FP.Core.b32 (UInt32.ofNat (FP.Core.encode FP.Core.b32 d)).toNat ≠ .nan := by
    rw [h2]; exact dec_ne (by rw [e32.1]; decide) (by rw [e32.2.1]; decide) h3 h4
  have e : FP.f2d (.ofNat (FP.Core.encode FP.Core.b32 d)) = .ofNat (FP.Core.encode FP.Core.b64 (FP.Core.round FP.Core.b64 (FP.Core.decode FP.Core.b32 (UInt32.ofNat (FP.Core.encode FP.Core.b32 d)).toNat))) := by
    unfold FP.f2d FP.Core.fIsNaN FP.Core.isNaN
    rw [decide_eq_false hne]
    rfl
  obtain ⟨k1, s2, E2, T2, k2, k3, k4⟩ := gd_n64 (gd_round (f := FP.Core.b64) (by decide +kernel) (by rw [e64.2.1]; decide) (by rw [e64.2.2.1, e64.2.2.2]; decide) hne)
  refine ⟨h1, by rw [e]; exact k1, ?_⟩
  rw [e]
  show FP.Core.order _ _ = _
  refine ord_self ?_
  rw [k2]
  exact dec_ne (by rw [e64.1]; decide) (by rw [e64.2.1]; decide) k3 k4
theorem okF_0 : okF FP.fconst0 := by unfold okF vf_n32 vf_n64; exact ⟨by decide +kernel, by decide +kernel, by decide +kernel⟩
def isN (k : Nat) : Bool := match FP.Core.decode FP.Core.b32 (FP.i2f (Int32.ofNat k)).toNat with
  | .fin _ c _ => k == 0 || c != 0
  | _ => false
theorem isN_all : ∀ a, a < 71 → ∀ b, b < 100 → isN (100 * a + b) = true := by decide +kernel
theorem okF_div {c v : Nat} (hc : c ≤ 7000) (hv : v ≤ 7000) (h0 : v ≠ 0) : okF (FP.fdiv (FP.i2f (Int32.ofNat c)) (FP.i2f (Int32.ofNat v))) := by
  have p1 := isN_all (c / 100) (by omega) (c % 100) (Nat.mod_lt _ (by decide))
  have p2 := isN_all (v / 100) (by omega) (v % 100) (Nat.mod_lt _ (by decide))
  rw [Nat.div_add_mod] at p1 p2
  refine okF_gd ?_
  unfold isN at p1 p2
  generalize FP.Core.decode FP.Core.b32 (FP.i2f (Int32.ofNat c)).toNat = x at p1 ⊢
  generalize FP.Core.decode FP.Core.b32 (FP.i2f (Int32.ofNat v)).toNat = y at p2 ⊢
  cases y with
  | nan => exact nomatch p2
  | inf s => exact nomatch p2
  | fin t d r =>
    cases x with
    | nan => exact nomatch p1
    | inf s => exact nomatch p1
    | fin s c q =>
      have hd : d ≠ 0 := by
        have := p2
        simp only [Bool.or_eq_true, beq_iff_eq, bne_iff_ne] at this
        rcases this with h | h
        · exact absurd h h0
        · exact h
      unfold FP.Core.quotient
      simp only [if_neg hd]
      exact gd_ratio (by decide +kernel) (by rw [e32.2.1]; decide) (by rw [e32.2.2.1, e32.2.2.2]; decide)
def isD (k : Nat) : Bool := match FP.Core.decode FP.Core.b64 (FP.i2d (Int32.ofNat k)).toNat with
  | .fin _ c _ => c != 0
  | _ => false
theorem isD_all : ∀ k, k < 50 → k = 0 ∨ isD k = true := by decide +kernel
def okD (x : UInt64) : Prop := vf_n64 x ∧ FP.dcmp x x = some .eq
theorem okD_gd {d : FP.Core.Datum} (h : gd FP.Core.b64 d) : okD (.ofNat (FP.Core.encode FP.Core.b64 d)) ∧ FP.Core.decode FP.Core.b64 (UInt64.ofNat (FP.Core.encode FP.Core.b64 d)).toNat ≠ .nan := by
  obtain ⟨k1, s2, E2, T2, k2, k3, k4⟩ := gd_n64 h
  have hne : FP.Core.decode FP.Core.b64 (UInt64.ofNat (FP.Core.encode FP.Core.b64 d)).toNat ≠ .nan := by
    rw [k2]
    exact dec_ne (by rw [e64.1]; decide) (by rw [e64.2.1]; decide) k3 k4
  exact ⟨⟨k1, ord_self hne⟩, hne⟩
theorem okD_div {v : Int32} {k : Nat} (hk : k < 50) (h0 : k ≠ 0) : okD (FP.ddiv (FP.i2d v) (FP.i2d (Int32.ofNat k))) := by
  have p2 : isD k = true := (isD_all k hk).resolve_left h0
  have hf : 2 ^ FP.Core.b64.p = 2 * FP.Core.b64.tails := by decide +kernel
  have ht : 0 < FP.Core.b64.tails := by rw [e64.2.1]; decide
  have hm : FP.Core.b64.qmin ≤ FP.Core.b64.qmax := by rw [e64.2.2.1, e64.2.2.2]; decide
  have p1 : FP.Core.decode FP.Core.b64 (FP.i2d v).toNat ≠ .nan := (okD_gd (gd_round hf ht hm (d := FP.Core.ofInt v.toInt) (fun h => nomatch h))).2
  refine (okD_gd ?_).1
  unfold isD at p2
  generalize FP.Core.decode FP.Core.b64 (FP.i2d v).toNat = x at p1 ⊢
  generalize FP.Core.decode FP.Core.b64 (FP.i2d (Int32.ofNat k)).toNat = y at p2 ⊢
  cases y with
  | nan => exact nomatch p2
  | inf s => exact nomatch p2
  | fin t d r =>
    cases x with
    | nan => exact absurd rfl p1
    | inf s => exact trivial
    | fin s c q =>
      have hd : d ≠ 0 := by
        have := p2
        simpa using this
      unfold FP.Core.quotient
      simp only [if_neg hd]
      exact gd_ratio hf ht hm
