/-! ===== the law's body: what stays ===== -/
abbrev w_L (cyI cyZ cyJ cyD : ClassId) (h : Nat → Nat) (σ : zC) (μ : zM) (g : Nat → Int64) (d : Nat → UInt64) : va_W := w_C cyI cyZ (h 0) (h 1) (h 2) (h 3) (h 4) (h 5) (h 6) (h 7) (h 8) (h 9) (h 10) (h 11) (h 12) (h 13) (h 14) (h 15) (h 16) σ ++ (w_M cyI cyZ (h 17) (h 18) (h 19) (h 20) (h 21) (h 22) (h 23) (h 24) (h 25) (h 26) (h 27) (h 28) μ ++ [(h 29, .inl (cyJ, 1, .inr (.inl g))), (h 30, .inl (cyD, 1, .inr (.inr (.inr (.inl d)))))])
abbrev zlv (b : Nat) (h : Nat → Nat) (i : Int32) : List (Nat × Value) := [(0, .ref b), (1, .ref (h 0)), (2, .ref (h 17)), (3, .ref (h 29)), (4, .ref (h 30)), (5, .int i)]
def zLaw (p : Program) (s : State) (m : MethodId) (args : Array Value) (c : Code) (D : va_G) (cyI cyZ cyJ cyD : ClassId) (A : Nat → Prop) (b L : Nat) (xs : Nat → Int32) : Prop := zG p s m args c cL_law 10 RL D cyI cyZ A ∧ va_K D vwCl (ztyJ cyJ cyD) s ∧ va_X b L xs s s.heap ∧ b < s.heap.size ∧ ¬ A b
def zArg (L : Nat) (xs : Nat → Int32) (i v x : Int32) : Prop := ib (i + v) L = true ∧ xs (i + v).toNatClampNeg = x
def zArgs (L : Nat) (xs : Nat → Int32) (i x1 x2 x3 : Int32) : Prop := zArg L xs i 1 x1 ∧ zArg L xs i 2 x2 ∧ zArg L xs i 3 x3
section ZLAW
variable {p : Program} {l : Launch} {e : Env} {R : Room} {s : State} {m : MethodId} {args : Array Value} {below : List Frame} {meth : Method} {c : Code} {cells slots : Nat} {Q : State → Prop}
variable {D : va_G} {cyI cyZ cyJ cyD : ClassId} {A : Nat → Prop} {pc q : Nat} {lv : List (Nat × Value)} {st : List Value} {ws : va_W} {b L : Nat} {xs : Nat → Int32}
theorem zq_arg (LW : zLaw p s m args c D cyI cyZ cyJ cyD A b L xs) {i v x : Int32} {n : Int} (ha : zArg L xs i v x) (j0 j5 : Nat) (d0 : decode cL_law pc = .ok (.aload_n 0, 1)) (d1 : decode cL_law (pc + 1) = .ok (.iload 5, 2)) (d3 : decode cL_law (pc + 3) = .ok (.iconst n, 1)) (d4 : decode cL_law (pc + 4) = .ok (.iadd, 1)) (d5 : decode cL_law (pc + 5) = .ok (.iaload, 1)) (hv : Int32.ofInt n = v) (h0 : lv[j0]? = some (0, .ref b)) (h5 : lv[j5]? = some (5, .int i)) (hq : pc + 6 = q) (k : zW p l e R s m args below meth c D A 10 cells slots Q q lv (.int x :: st) ws) : zW p l e R s m args below meth c D A 10 cells slots Q pc lv st ws := by
  obtain ⟨G, hJ, hX, hbl, hbA⟩ := LW
  obtain ⟨h1, rfl⟩ := ha
  subst hq
  refine zq_aload_n (q := pc + 1) G d0 j0 rfl h0 rfl ?_
  refine zq_iload (q := pc + 3) G d1 j5 h5 rfl ?_
  refine zq_iconst (q := pc + 4) (v := v) G d3 hv rfl ?_
  refine zq_iadd (q := pc + 5) G d4 rfl ?_
  exact zq_sld (q := pc + 6) G hX hbl hbA h1 d5 rfl k
end ZLAW
theorem zsetb (x : Int32) : ∃ v : Int32, (x = 0 ∧ v = 0) ∨ (¬ x = 0 ∧ v = 1) := by
  by_cases h : x = 0
  · exact ⟨0, Or.inl ⟨h, rfl⟩⟩
  · exact ⟨1, Or.inr ⟨h, rfl⟩⟩
theorem zeqL {a b : Int64} (h : a = b) : lg_cmp a b = 0 := (lg_cmp_eq a b).mpr h
theorem zeqD {x y : UInt64} (h : FP.dcmp x x = some .eq) (e : y = x) : Op.cmpValue (FP.dcmp y x) CmpOp.l = 0 := by rw [e, h]; rfl
theorem b_isWrong (μ : zM) (k : Int32) : ∃ μ2, s_X4_isWrong μ k = some (if k = 0 then 0 else 1, μ2) := by
  by_cases h : k = 0
  · subst h; exact ⟨_, e_isWrong0 μ⟩
  · rw [if_neg h]; exact ⟨_, e_isWrong1 μ h⟩
theorem s_thrown (μ : zM) : s_X4_thrown μ = some μ.2.2.2.2 := rfl
theorem b_fits18 {μ μ2 : zM} {p b y : Int32} (hy : s_X4_fits_18 μ p y = some (b, μ2)) : b = 0 ∨ b = 1 := by
  unfold s_X4_fits_18 at hy
  obtain ⟨z1, -, hy⟩ := zbd hy
  split at hy
  · obtain ⟨z3, -, hy⟩ := zbd hy
    split at hy
    · cases hy; exact Or.inl rfl
    · cases hy; exact Or.inr rfl
  · cases hy; exact Or.inl rfl
theorem b_fits {μ μ2 : zM} {p b : Int32} (e : s_X4_fits μ p = some (b, μ2)) : b = 0 ∨ b = 1 := by
  unfold s_X4_fits at e
  obtain ⟨z1, -, e⟩ := zbd e
  split at e
  · exact b_fits18 e
  · exact b_fits18 e
theorem and63 (x : Int32) : ∃ n, n < 64 ∧ x &&& 63 = nI n := by
  refine ⟨(x &&& 63).toBitVec.toNat, ?_, ?_⟩
  · rw [Int32.toBitVec_and, BitVec.toNat_and]
    exact Nat.lt_of_le_of_lt Nat.and_le_right (by decide)
  · apply Int32.toBitVec_inj.mp
    unfold nI
    rw [Int32.toBitVec_ofNat', BitVec.ofNat_toNat, BitVec.setWidth_eq]
theorem ofN {x : Int32} (h : 0 ≤ x.toInt) : Int32.ofNat x.toInt.toNat = x := by
  have h2 := zz_rng x
  rw [zz_inj]
  show (nI x.toInt.toNat).toInt = x.toInt
  rw [nI_toInt (by omega)]
  omega
theorem p_share2 {σ : zC} {μ : zM} (h : Rel σ μ) (p : Int32) :
    (s_X3_requireRow σ p = some (.inl xO) ∧ s_X4_isRow μ p = some 0 ∧ s_X4_isWrong μ 1 = some (1, wt μ 1) ∧ Rel σ (wt μ 1)) ∨
    (s_X3_requireRow σ p = some (.inr ()) ∧ s_X4_isRow μ p = some 1 ∧ s_X4_isWrong μ 0 = some (0, wt μ 0) ∧ ib p 7 = true ∧
      ∃ (v a c : Int32) (σ2 σ3 : zC) (L : zL), s_X3_minimum σ = some (v, σ2) ∧ s_X3_assigned σ2 p = some (.inr a, σ3) ∧ s_X1_costOf σ3.1 p a = some c ∧ σ3.1 = σ2.1 ∧ s_X4_look_ (wt μ 0) = some (wl (wt μ 0) L) ∧ L.2.2.2.2.1 = v ∧ L.2.2.2.1 p.toNatClampNeg = a ∧ ib (7 * p + a) 49 = true ∧ L.1 (7 * p + a).toNatClampNeg = c ∧ Rel σ2 (wl (wt μ 0) L) ∧ Rel σ3 (wl (wt μ 0) L) ∧ (0 ≤ c.toInt ∧ c.toInt ≤ 1000) ∧ 0 ≤ v.toInt ∧ v.toInt ≤ 7000) := by
  have h0 := h
  obtain ⟨a1, a2, ⟨n, m, hV, hE⟩, -⟩ := h
  have hn := hV.2.2.2.2.1
  have := hV.2.2.1
  have := hV.2.2.2.1
  have hM : Vt μ.1 n m := by rw [a1]; exact hV
  by_cases hp : inN p n
  · refine Or.inr ⟨by rw [e_requireRow hV.1 hn, if_pos hp], by rw [e_isRow hM.1 (by omega) hn, if_pos hp], e_isWrong0 μ, ?_, ?_⟩
    · obtain ⟨i, hi, rfl, -⟩ := inN_n hp
      exact ib_ok (by omega) (by omega)
    · obtain ⟨i, hi, rfl, -⟩ := inN_n hp
      obtain ⟨v, σ2, q1, q2, q3⟩ := c_minimum hV
      have hV2 : Vt σ2.1 n m := by rw [q3.1.1]; exact hV
      obtain ⟨σ3, f, r1, r2, r3, r4, -⟩ := c_findFirst hV2
      have hV3 : Vt σ3.1 n m := by rw [r4.1]; exact hV2
      rw [q3.1.1] at r2
      obtain ⟨L, g1, g2⟩ := e_look_ (μ := wt μ 0) hM
      rw [show (wt μ 0).1 = σ.1 from a1] at g2
      obtain ⟨l1, -, g, l2, l3, -⟩ := g2.least hn
      have eg := r2.uniq l2
      subst eg
      have hfi := ent hn r2.1 hi
      refine ⟨v, nI (f.getD i 0), cst σ.1 i (f.getD i 0), σ2, σ3, L, q1, ?_, ?_, r4.1, g1, (zz_inj.mpr (q2.uniq l1)).symm, ?_, ?_, ?_, h0.keep q3.1 ⟨rfl, rfl, rfl⟩, h0.keep (q3.1.trans r4) ⟨rfl, rfl, rfl⟩, cst_bound hV (by omega) (by omega), ?_⟩
      · unfold s_X3_assigned
        rw [e_requireRow hV2.1 hn, if_pos hp, Option.bind_some, zsel_r, r1, Option.bind_some, if_pos (ib_ok (by omega) (by omega)), ncl (by omega), r3 i hi]
      · rw [e_costOf hV3 (by omega) (by omega), r4.1, q3.1.1]
      · rw [ncl (by omega)]; exact l3 i hi
      · rw [cell_eq2]; exact ib_ok (by omega) (by omega)
      · rw [cell_eq2, ncl (by omega)]; exact g2.2 i _ hi hfi
      · obtain ⟨l0, hl0, e0⟩ := List.mem_map.mp q2.1
        have hb := fs_bound (C := Cz σ.1) (n := n) (l := l0) (fun i j hi hj => cst_bound hV (by omega) (by omega)) (fun i hi => ent hn hl0 hi) n (Nat.le_refl n)
        omega
  · refine Or.inl ⟨by rw [e_requireRow hV.1 hn, if_neg hp], by rw [e_isRow hM.1 (by omega) hn, if_neg hp], e_isWrong1 μ (by decide), h0.bad⟩
