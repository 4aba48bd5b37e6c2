/-! ===== the keys of the enumeration ===== -/
def cn (t : zT) (i j : Nat) : Nat := (cst t i j).toInt.toNat
theorem cn_ok {t : zT} {n m i j : Nat} (h : Vt t n m) (hi : i < 7) (hj : j < 7) : cst t i j = nI (cn t i j) ∧ cn t i j ≤ 1000 ∧ (cn t i j : Int) = Cz t i j := by
  have hb := cst_bound h hi hj
  unfold Cz at hb ⊢
  unfold cn
  refine ⟨?_, by omega, by omega⟩
  rw [zz_inj, nI_toInt (by omega)]
  omega
def kn (t : zT) : Nat → List Nat → Nat
  | _, [] => 0
  | r, c :: p => cn t r c * 262144 + c * 8 ^ (5 - r) + kn t (r + 1) p
theorem shl18_all : ∀ v, v < 1001 → nI v <<< ((18 : Int32) &&& 31) = nI (v * 262144) := by decide +kernel
theorem shl18 {v : Nat} (h : v ≤ 1000) : nI v <<< ((18 : Int32) &&& 31) = nI (v * 262144) := shl18_all v (by omega)
theorem shl_c : ∀ r, r < 6 → ∀ c, c < 7 → nI c <<< (((3 : Int32) * ((5 : Int32) - nI r)) &&& 31) = nI (c * 8 ^ (5 - r)) := by decide +kernel
/-- keys put behind those that are there -/
def APP (K K' : zK) (L : List Nat) (cnt : Nat) : Prop := K'.1 = K.1 ∧ K'.2.1 = K.2.1 ∧ K'.2.2.1 = K.2.2.1 ∧ K'.2.2.2.1 = nI (cnt + L.length) ∧ (∀ i, i < cnt → K'.2.2.2.2 i = K.2.2.2.2 i) ∧ ∀ i, i < L.length → K'.2.2.2.2 (cnt + i) = nI (L.getD i 0)
theorem APP.nil {K : zK} {cnt : Nat} (h : K.2.2.2.1 = nI cnt) : APP K K [] cnt := ⟨rfl, rfl, rfl, h, fun _ _ => rfl, fun i hi => by simp at hi⟩
theorem APP.trans {K K1 K2 : zK} {L1 L2 : List Nat} {cnt : Nat} (h1 : APP K K1 L1 cnt) (h2 : APP K1 K2 L2 (cnt + L1.length)) : APP K K2 (L1 ++ L2) cnt := by
  obtain ⟨a1, a2, a3, a4, a5, a6⟩ := h1
  obtain ⟨b1, b2, b3, b4, b5, b6⟩ := h2
  refine ⟨b1.trans a1, b2.trans a2, b3.trans a3, ?_, fun i hi => (b5 i (by omega)).trans (a5 i hi), fun i hi => ?_⟩
  · rw [b4, List.length_append, Nat.add_assoc]
  · rw [List.length_append] at hi
    by_cases h : i < L1.length
    · rw [b5 _ (by omega), a6 i h, List.getD_eq_getElem?_getD, List.getD_eq_getElem?_getD, List.getElem?_append_left h]
    · have := b6 (i - L1.length) (by omega)
      rw [show cnt + L1.length + (i - L1.length) = cnt + i by omega] at this
      rw [this, List.getD_eq_getElem?_getD, List.getD_eq_getElem?_getD, List.getElem?_append_right (by omega)]
def KJ (t : zT) (n r k U ky j : Nat) : List Nat := ((List.range j).filter (fun c => !U.testBit c)).flatMap (fun c => (cps n k (U ||| 2 ^ c)).map (fun p => ky + (cn t r c * 262144 + c * 8 ^ (5 - r)) + kn t (r + 1) p))
theorem KJ_free (t : zT) (n r k U ky j : Nat) (h : U.testBit j = false) : KJ t n r k U ky (j + 1) = KJ t n r k U ky j ++ (cps n k (U ||| 2 ^ j)).map (fun p => ky + (cn t r j * 262144 + j * 8 ^ (5 - r)) + kn t (r + 1) p) := by
  unfold KJ
  rw [List.range_succ, List.filter_append, List.flatMap_append]
  simp [h]
theorem KJ_used (t : zT) (n r k U ky j : Nat) (h : U.testBit j = true) : KJ t n r k U ky (j + 1) = KJ t n r k U ky j := by
  unfold KJ
  rw [List.range_succ, List.filter_append, List.flatMap_append]
  simp [h]
theorem KJ_full (t : zT) (n r k U ky : Nat) : KJ t n r k U ky n = (cps n (k + 1) U).map (fun p => ky + kn t r p) := by
  unfold KJ
  rw [cps, List.map_flatMap]
  show ((fr n U).flatMap _) = _
  congr 1
  funext c
  rw [List.map_map]
  apply List.map_congr_left
  intro p _
  show _ = ky + (cn t r c * 262144 + c * 8 ^ (5 - r) + kn t (r + 1) p)
  omega
theorem KJ_mono (t : zT) (n r k U ky j : Nat) : ∀ d, (KJ t n r k U ky j).length ≤ (KJ t n r k U ky (j + d)).length := by
  intro d
  induction d with
  | zero => exact Nat.le_refl _
  | succ d ih =>
    refine Nat.le_trans ih ?_
    rw [← Nat.add_assoc]
    cases h : U.testBit (j + d) with
    | false => rw [KJ_free t n r k U ky _ h, List.length_append]; omega
    | true => rw [KJ_used t n r k U ky _ h]; exact Nat.le_refl _
theorem part_le {t : zT} {n m r c : Nat} (h : Vt t n m) (hr : r < 6) (hc : c < 7) : cn t r c * 262144 + c * 8 ^ (5 - r) ≤ 262340608 := by
  have h1 := (cn_ok h (i := r) (j := c) (by omega) hc).2.1
  have h2 : ∀ r, r < 6 → ∀ c, c < 7 → c * 8 ^ (5 - r) ≤ 196608 := by decide
  have h3 := h2 r hr c hc
  omega
theorem keys_in {t : zT} {n m U k ky : Nat} (hV : Vt t n m) (hn6 : n ≤ 6) (hU : U < 2 ^ n) (hp : pop U + (k + 1) = n) (hky : ky ≤ 262340608 * pop U) (rec : zK → zT → Int32 → Int32 → Int32 → Option zK) {K0 : zK} {cnt : Nat} (hc0 : cnt + (KJ t n (pop U) k U ky n).length ≤ 720)
    (hrec : ∀ c, c < n → U.testBit c = false → ∀ (K : zK) (c2 : Nat), K.2.2.2.1 = nI c2 → c2 + ((cps n k (U ||| 2 ^ c)).length) ≤ 720 → ∃ K', rec K t (nI (pop U + 1)) (nI (U ||| 2 ^ c)) (nI (ky + (cn t (pop U) c * 262144 + c * 8 ^ (5 - pop U)))) = some K' ∧ APP K K' ((cps n k (U ||| 2 ^ c)).map (fun p => ky + (cn t (pop U) c * 262144 + c * 8 ^ (5 - pop U)) + kn t (pop U + 1) p)) c2) :
    ∀ (d nf j : Nat) (K : zK), d < nf → j + d = n → APP K0 K (KJ t n (pop U) k U ky j) cnt →
      ∃ K', s_X2_addKeys_43 rec nf K t (nI (pop U)) (nI U) (nI ky) (nI j) = some K' ∧ APP K0 K' (KJ t n (pop U) k U ky n) cnt := by
  have hU2 : U < 128 := Nat.lt_of_lt_of_le hU (two_pow_le (by omega))
  intro d
  induction d with
  | zero =>
    intro nf j K hd hj hA
    obtain ⟨nf, rfl⟩ : ∃ q, nf = q + 1 := ⟨nf - 1, by omega⟩
    have : j = n := by omega
    subst this
    rw [s_X2_addKeys_43, if_pos (by rw [hV.1]; exact Int32.le_refl _)]
    exact ⟨K, rfl, hA⟩
  | succ d ih =>
    intro nf j K hd hj hA
    obtain ⟨nf, rfl⟩ : ∃ q, nf = q + 1 := ⟨nf - 1, by omega⟩
    rw [s_X2_addKeys_43, if_neg (by rw [hV.1, nle (by omega) (by omega)]; omega)]
    cases hf : U.testBit j with
    | true =>
      rw [if_neg (fun h => by rw [(free_eq U hU2 j (by omega)).mp h] at hf; cases hf), nsucc]
      exact ih nf (j + 1) K (by omega) (by omega) (by rw [KJ_used t n (pop U) k U ky j hf]; exact hA)
    | false =>
      have hcj := cn_ok hV (i := pop U) (j := j) (by omega) (by omega)
      have hpl := part_le hV (r := pop U) (c := j) (by omega) (by omega)
      have hmono := KJ_mono t n (pop U) k U ky (j + 1) d
      rw [show j + 1 + d = n by omega, KJ_free t n (pop U) k U ky j hf, List.length_append, List.length_map] at hmono
      obtain ⟨K', r1, r2⟩ := hrec j (by omega) hf K (cnt + (KJ t n (pop U) k U ky j).length) hA.2.2.2.1 (by omega)
      rw [if_pos ((free_eq U hU2 j (by omega)).mpr hf), e_costOf hV (by omega) (by omega), Option.bind_some]
      unfold s_X2_shiftOf
      rw [Option.bind_some, or_eq U hU2 j (by omega), hcj.1, shl18 hcj.2.1, shl_c (pop U) (by omega) j (by omega), nI_add, nI_add, nsucc, r1, Option.bind_some, nsucc]
      exact ih nf (j + 1) K' (by omega) (by omega) (by rw [KJ_free t n (pop U) k U ky j hf]; exact hA.trans r2)
theorem e_addKeys {t : zT} {n m : Nat} (hV : Vt t n m) (hn6 : n ≤ 6) : ∀ (k d U ky : Nat) (K : zK) (cnt : Nat), k < d → U < 2 ^ n → pop U + k = n → ky ≤ 262340608 * pop U → K.2.2.2.1 = nI cnt → cnt + (cps n k U).length ≤ 720 →
    ∃ K', s_X2_addKeys d K t (nI (pop U)) (nI U) (nI ky) = some K' ∧ APP K K' ((cps n k U).map (fun p => ky + kn t (pop U) p)) cnt := by
  intro k
  induction k with
  | zero =>
    intro d U ky K cnt hd hU hp hky hK hc
    obtain ⟨d, rfl⟩ : ∃ q, d = q + 1 := ⟨d - 1, by omega⟩
    rw [s_X2_addKeys, s_X2_addKeys_step, if_neg (by rw [hV.1, nlt (by omega) (by omega)]; omega)]
    have hl : (cps n 0 U).length = 1 := rfl
    rw [hK, if_neg (by rw [nlit 720, nle (by omega) (by omega)]; omega), if_pos (ib_ok (by omega) (by omega)), ncl (by omega), n1, nI_add]
    refine ⟨_, rfl, rfl, rfl, rfl, rfl, fun i hi => upd_ne (by omega), fun i hi => ?_⟩
    have : i = 0 := by
      have h1 : i < ((cps n 0 U).map (fun p => ky + kn t (pop U) p)).length := hi
      rw [List.length_map, hl] at h1
      omega
    subst this
    show upd _ _ _ (cnt + 0) = _
    rw [Nat.add_zero, upd_same]
    rfl
  | succ k ih =>
    intro d U ky K cnt hd hU hp hky hK hc
    obtain ⟨d, rfl⟩ : ∃ q, d = q + 1 := ⟨d - 1, by omega⟩
    have hU2 : U < 128 := Nat.lt_of_lt_of_le hU (two_pow_le (by omega))
    rw [s_X2_addKeys, s_X2_addKeys_step, if_pos (by rw [hV.1, nlt (by omega) (by omega)]; omega), n0]
    have hfull := KJ_full t n (pop U) k U ky
    rw [← hfull]
    refine keys_in hV hn6 hU hp hky (s_X2_addKeys d) (K0 := K) (cnt := cnt) ?_ ?_ n FU 0 K (by unfold FU; omega) (by omega) (APP.nil hK)
    · rw [hfull, List.length_map]; exact hc
    · intro c hcn hf K2 c2 hK2 hc2
      have hpo := (pop_or U hU2 c (by omega) hf).1
      have hpl := part_le hV (r := pop U) (c := c) (by omega) (by omega)
      have h3 := ih d (U ||| 2 ^ c) (ky + (cn t (pop U) c * 262144 + c * 8 ^ (5 - pop U))) K2 c2 (by omega) (or_lt n (by omega) U hU c hcn) (by omega) (by rw [hpo]; omega) hK2 hc2
      rw [hpo] at h3
      exact h3
/-! the key of an assignment -/
theorem key_kn {t : zT} {n m : Nat} (hV : Vt t n m) (hn6 : n ≤ 6) : ∀ (p q r : List Nat), q.length + p.length ≤ n → (∀ c ∈ p, c < 7) → fs (Cz t) (q ++ (p ++ r)) (q.length + p.length) * 262144 + (cdN (q ++ (p ++ r)) (q.length + p.length) * 8 ^ (6 - (q.length + p.length)) : Nat) = fs (Cz t) (q ++ (p ++ r)) q.length * 262144 + (cdN (q ++ (p ++ r)) q.length * 8 ^ (6 - q.length) : Nat) + (kn t q.length p : Nat) := by
  intro p
  induction p with
  | nil => intro q r _ _; simp [kn]
  | cons c p ih =>
    intro q r hl hc
    have hcc := hc c List.mem_cons_self
    have h := ih (q ++ [c]) r (by simp at hl ⊢; omega) (fun c hc' => hc c (List.mem_cons_of_mem _ hc'))
    simp only [List.length_append, List.length_cons, List.length_nil, List.append_assoc, List.cons_append, List.nil_append] at h hl ⊢
    rw [show q.length + (p.length + 1) = q.length + (0 + 1) + p.length by omega, h, show q.length + (0 + 1) = q.length + 1 by omega, fs, cdN, kn, getD_mid]
    have e1 : 8 ^ (6 - q.length) = 8 * 8 ^ (6 - (q.length + 1)) := by
      rw [show 6 - q.length = (6 - (q.length + 1)) + 1 by omega, Nat.pow_succ]; omega
    have e2 : 5 - q.length = 6 - (q.length + 1) := by omega
    have e3 := (cn_ok hV (i := q.length) (j := c) (by have := hV.2.2.2.2.1; omega) hcc).2.2
    rw [e1, e2, ← e3]
    generalize 8 ^ (6 - (q.length + 1)) = w
    generalize cdN (q ++ c :: (p ++ r)) q.length = g
    generalize kn t (q.length + 1) p = z
    generalize fs (Cz t) (q ++ c :: (p ++ r)) q.length = s
    have e4 : (8 * g + c) * w = g * (8 * w) + c * w := by
      rw [Nat.add_mul, Nat.mul_comm 8 g, Nat.mul_assoc]
    rw [e4]
    generalize g * (8 * w) = a
    generalize c * w = b
    omega
theorem cps_ent (n : Nat) : ∀ (k U : Nat) (p : List Nat), p ∈ cps n k U → ∀ c ∈ p, c < n := by
  intro k
  induction k with
  | zero => intro U p h; rw [cps, List.mem_singleton] at h; subst h; intro c hc; exact nomatch hc
  | succ k ih =>
    intro U p h
    rw [cps] at h
    obtain ⟨c, hc, h⟩ := List.mem_flatMap.mp h
    obtain ⟨q, hq, rfl⟩ := List.mem_map.mp h
    intro x hx
    rcases List.mem_cons.mp hx with rfl | hx
    · exact (mem_fr.mp hc).1
    · exact ih _ _ hq x hx
theorem key_eq {t : zT} {n m : Nat} (hV : Vt t n m) (hn6 : n ≤ 6) {p : List Nat} (hp : p ∈ cps n n 0) : key t n (pad n p) = (kn t 0 p : Nat) := by
  have hl := cps_mem_len n _ _ p hp
  have h := key_kn hV hn6 p [] ((List.range 7).drop n) (by simp [hl]) (fun c hc => by have := cps_ent n _ _ p hp c hc; omega)
  simp only [List.nil_append, List.length_nil, Nat.zero_add, hl, fs, cdN] at h
  unfold key pad
  simp only [Int.zero_mul, Nat.zero_mul, Int.natCast_zero, Int.zero_add, Int.natCast_mul, Int.natCast_pow] at h
  exact h
theorem c_begin {t : zT} {n m : Nat} (hV : Vt t n m) (hn6 : n ≤ 6) (K : zK) : ∃ K' : zK, s_X2_begin K t = some K' ∧ K'.1 = 1 ∧ K'.2.1 = 0 ∧ K'.2.2.1 = -1 ∧ K'.2.2.2.1 = nI (fact n) ∧ ∀ (i : Nat) (l : List Nat), (PL n)[i]? = some l → (K'.2.2.2.2 i).toInt = key t n l := by
  have hn := hV.2.2.2.2.1
  have hlen : (cps n n 0).length = fact n := cps_len n hn n 0 (two_pos n) (by rw [pop_zero]; omega)
  have hf : ∀ n, n ≤ 6 → fact n ≤ 720 := by decide
  obtain ⟨K', e1, e2⟩ := e_addKeys hV hn6 n 12 0 0 ((1 : Int32), (0 : Int32), (-1 : Int32), (0 : Int32), K.2.2.2.2) 0 (by omega) (two_pos n) (by rw [pop_zero]; omega) (by omega) rfl (by rw [hlen]; have := hf n hn6; omega)
  rw [pop_zero] at e1 e2
  obtain ⟨b1, b2, b3, b4, b5, b6⟩ := e2
  unfold s_X2_begin
  rw [show s_X2_addKeys 12 ((1 : Int32), (0 : Int32), (-1 : Int32), (0 : Int32), K.2.2.2.2) t (0 : Int32) (0 : Int32) (0 : Int32) = some K' from e1, Option.bind_some]
  refine ⟨K', rfl, b1, b2, b3, ?_, fun i l hl => ?_⟩
  · rw [b4, List.length_map, hlen, Nat.zero_add]
  · unfold PL at hl
    rw [List.getElem?_map] at hl
    cases hp : (cps n n 0)[i]? with
    | none => rw [hp] at hl; cases hl
    | some p =>
      rw [hp] at hl
      have hl2 : pad n p = l := Option.some.inj hl
      have hmem : p ∈ cps n n 0 := List.mem_of_getElem? hp
      obtain ⟨hi, -⟩ := List.getElem?_eq_some_iff.mp hp
      have h6 := b6 i (by rw [List.length_map]; exact hi)
      rw [Nat.zero_add, List.getD_eq_getElem?_getD, List.getElem?_map, hp] at h6
      have h7 : K'.2.2.2.2 i = nI (kn t 0 p) := by
        rw [h6]
        show nI (0 + kn t 0 p) = _
        rw [Nat.zero_add]
      have hk : kn t 0 p < 2147483648 := by
        have hb : ∀ (p : List Nat) (r : Nat), r + p.length ≤ 6 → (∀ c ∈ p, c < 7) → kn t r p ≤ 262340608 * p.length := by
          intro p
          induction p with
          | nil => intro r _ _; simp [kn]
          | cons c p ih =>
            intro r hr hc
            have h1 := ih (r + 1) (by simp at hr; omega) (fun c hc' => hc c (List.mem_cons_of_mem _ hc'))
            have h2 := part_le hV (r := r) (c := c) (by simp at hr; omega) (hc c List.mem_cons_self)
            rw [kn, List.length_cons]
            exact Nat.le_trans (Nat.add_le_add h2 h1) (Nat.le_of_eq (Nat.add_comm _ _))
        have hl3 := cps_mem_len n _ _ p hmem
        have hz := hb p 0 (by omega) (fun c hc => by have := cps_ent n _ _ p hmem c hc; omega)
        rw [hl3] at hz
        exact Nat.lt_of_le_of_lt (Nat.le_trans hz (Nat.mul_le_mul_left 262340608 hn6)) (by decide)
      rw [h7, nI_toInt hk, ← hl2, key_eq hV hn6 hmem]
