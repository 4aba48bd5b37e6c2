/-! ===== isSound on both sides ===== -/
def RCr (t : zT) (n : Nat) (rp cp : zF) (f : List Nat) (r : Nat) : Prop := red t rp cp r (f.getD r 0) = 0 ∧ ∀ c, c < n → ¬ red t rp cp r c < 0
def SND (t : zT) (n : Nat) : Prop := ∃ (v : Int32) (rp cp : zF) (f : List Nat), IsMin (FS (Cz t) n) v.toInt ∧ POT t n rp cp ∧ FO (Cz t) n f ∧ ps rp cp n = v ∧ (∀ r, r < n → RCr t n rp cp f r) ∧ SPL t n v
theorem red_congr {t : zT} {n r c : Nat} {rp cp rp' cp' : zF} (h1 : ∀ i, i < n → rp i = rp' i) (h2 : ∀ i, i < n → cp i = cp' i) (hr : r < n) (hc : c < n) : red t rp cp r c = red t rp' cp' r c := by
  unfold red
  rw [h1 r hr, h2 c hc]
theorem SND_iff {t : zT} {n : Nat} (hn : n < 8) {v : Int32} {rp cp : zF} {f : List Nat} (h1 : IsMin (FS (Cz t) n) v.toInt) (h2 : POT t n rp cp) (h3 : FO (Cz t) n f) : SND t n ↔ (ps rp cp n = v ∧ (∀ r, r < n → RCr t n rp cp f r) ∧ SPL t n v) := by
  constructor
  · rintro ⟨v', rp', cp', f', b1, b2, b3, b4, b5, b6⟩
    have e1 := zz_inj.mpr (b1.uniq h1)
    subst e1
    have e2 := b3.uniq h3
    subst e2
    obtain ⟨e3, e4⟩ := b2.uniq h2
    refine ⟨by rw [← ps_congr e3 e4]; exact b4, fun r hr => ?_, b6⟩
    obtain ⟨c1, c2⟩ := b5 r hr
    refine ⟨by rw [← red_congr e3 e4 hr (ent hn h3.1 hr)]; exact c1, fun c hc => by rw [← red_congr e3 e4 hr hc]; exact c2 c hc⟩
  · rintro ⟨a1, a2, a3⟩
    exact ⟨v, rp, cp, f, h1, h2, h3, a1, a2, a3⟩
theorem B01.congr {P Q : Prop} {v : Int32} (h : B01 P v) (e : P ↔ Q) : B01 Q v := by
  rcases h with ⟨a, b⟩ | ⟨a, b⟩
  · exact Or.inl ⟨a, e.mp b⟩
  · exact Or.inr ⟨a, fun h => b (e.mpr h)⟩
theorem B01.uniq {P : Prop} {v w : Int32} (h : B01 P v) (h2 : B01 P w) : v = w := by
  rcases h with ⟨a, b⟩ | ⟨a, b⟩ <;> rcases h2 with ⟨c, d⟩ | ⟨c, d⟩
  · rw [a, c]
  · exact absurd b d
  · exact absurd d b
  · rw [a, c]
theorem okRC_iff {t : zT} {n : Nat} {rp cp fo : zF} {f : List Nat} (hn : n < 8) (hf : f ∈ PL n) (hfo : ∀ i, i < n → fo i = nI (f.getD i 0)) : (∀ r, r < n → ∀ c, c < n → okRC t rp cp fo r c) ↔ ∀ r, r < n → RCr t n rp cp f r := by
  constructor
  · intro h r hr
    refine ⟨?_, fun c hc => (h r hr c hc).1⟩
    rcases (h r hr _ (ent hn hf hr)).2 with h1 | h1
    · exact h1
    · exact absurd (hfo r hr) h1
  · intro h r hr c hc
    refine ⟨(h r hr).2 c hc, ?_⟩
    by_cases hcf : c = f.getD r 0
    · exact Or.inl (by rw [hcf]; exact (h r hr).1)
    · refine Or.inr (fun e => hcf ?_)
      rw [hfo r hr] at e
      have := ent hn hf hr
      exact ((neq (by omega) (by omega)).mp e).symm
theorem c_isSound {σ : zC} {n m : Nat} (hV : Vt σ.1 n m) : ∃ b σ2, s_X3_isSound σ = some (.inr b, σ2) ∧ keepC σ σ2 ∧ B01 (SND σ.1 n) b := by
  have hn := hV.2.2.2.2.1
  obtain ⟨σ1, p1, p2, p3⟩ := c_findPotentials hV
  have hV1 : Vt σ1.1 n m := by rw [p2.1]; exact hV
  obtain ⟨σ2, f, q1, q2, q3, q4, q5, q6⟩ := c_findFirst hV1
  have hV2 : Vt σ2.1 n m := by rw [q4.1]; exact hV1
  obtain ⟨v, hv⟩ : ∃ v : Int32, IsMin (FS (Cz σ.1) n) v.toInt := by
    obtain ⟨v, _, _, h, _⟩ := c_minimum hV
    exact ⟨v, h⟩
  have es2 : σ2.1 = σ.1 := q4.1.trans p2.1
  obtain ⟨b3, σ3, r1, r2, r3⟩ := addUp_loop (v := v) n FU 0 σ2 hV2 (by rw [es2]; exact hv) (by unfold FU; omega) (by omega)
  have hV3 : Vt σ3.1 n m := by rw [r3.1.1]; exact hV2
  have es3 : σ3.1 = σ.1 := r3.1.1.trans es2
  obtain ⟨b5, s1, s2⟩ := c_rch hV3
  obtain ⟨b7, σ7, t1, t2, t3⟩ := c_split (v := v) hV3 (by rw [es3]; exact hv)
  have hV7 : Vt σ7.1 n m := by rw [t3.1]; exact hV3
  obtain ⟨σ9, u1, u2⟩ := c_bneck hV7
  rw [p2.1] at q2
  have k3 : keepC σ σ3 := (p2.trans q4).trans r3.1
  rw [q5, q6] at r2
  rw [r3.2.1, r3.2.2.1, r3.2.2.2, q5, q6, es3] at s2
  have s3 := s2.congr (okRC_iff hn q2.1 q3)
  rw [es3] at t2
  have hiff := SND_iff hn hv p3 q2
  unfold s_X3_isSound
  rw [p1, Option.bind_some]
  show ∃ b σx, (s_X3_findFirstOptimal σ1).bind _ = some (Sum.inr b, σx) ∧ _
  rw [q1, Option.bind_some]
  have r1' : s_X3_potentialsAddUp σ2 = some (b3, σ3) := r1
  rw [r1', Option.bind_some]
  show ∃ b σx, (if b3 = 0 then some (Sum.inr (0 : Int32), σ3) else ((s_X3_reducedCostsHold σ3).bind fun z5 => if z5 = 0 then (some ((Sum.inr (0 : Int32)), σ3)) else ((s_X3_cellSplitHolds σ3).bind fun z7 => zsel z7.1 (fun E => some ((Sum.inl E), z7.2)) (fun r7 => if r7 = 0 then (some ((Sum.inr (0 : Int32)), z7.2)) else ((s_X3_bottleneckHolds z7.2).bind fun z9 => zsel z9.1 (fun E => some ((Sum.inl E), z9.2)) (fun r9 => if r9 = 0 then (some ((Sum.inr (0 : Int32)), z9.2)) else (some ((Sum.inr (1 : Int32)), z9.2)))))))) = some (Sum.inr b, σx) ∧ _
  rcases r2 with ⟨rfl, r2⟩ | ⟨rfl, r2⟩
  · rw [if_neg one_ne, s1, Option.bind_some]
    rcases s3 with ⟨rfl, s3⟩ | ⟨rfl, s3⟩
    · rw [if_neg one_ne, t1, Option.bind_some]
      show ∃ b σx, (if b7 = 0 then some (Sum.inr (0 : Int32), σ7) else ((s_X3_bottleneckHolds σ7).bind fun z9 => zsel z9.1 (fun E => some ((Sum.inl E), z9.2)) (fun r9 => if r9 = 0 then (some ((Sum.inr (0 : Int32)), z9.2)) else (some ((Sum.inr (1 : Int32)), z9.2))))) = some (Sum.inr b, σx) ∧ _
      rcases t2 with ⟨rfl, t2⟩ | ⟨rfl, t2⟩
      · rw [if_neg one_ne, u1, Option.bind_some]
        exact ⟨1, σ9, rfl, (k3.trans t3).trans u2, Or.inl ⟨rfl, hiff.mpr ⟨r2, s3, t2⟩⟩⟩
      · rw [if_pos rfl]
        exact ⟨0, σ7, rfl, k3.trans t3, Or.inr ⟨rfl, fun h => t2 (hiff.mp h).2.2⟩⟩
    · rw [if_pos rfl]
      exact ⟨0, σ3, rfl, k3, Or.inr ⟨rfl, fun h => s3 (hiff.mp h).2.1⟩⟩
  · rw [if_pos rfl]
    exact ⟨0, σ3, rfl, k3, Or.inr ⟨rfl, fun h => r2 (hiff.mp h).1⟩⟩
/-! the reference's -/
theorem B01_and1 {P : Prop} {x : Int32} (h : B01 P x) : B01 P (x &&& 1) := by
  rcases h with ⟨rfl, h⟩ | ⟨rfl, h⟩
  · exact Or.inl ⟨rfl, h⟩
  · exact Or.inr ⟨rfl, h⟩
theorem B01_and0 {P : Prop} {x : Int32} (h : B01 P x) (Q : Prop) (hq : ¬ Q) : B01 Q (x &&& 0) := by
  rcases h with ⟨rfl, h⟩ | ⟨rfl, h⟩
  · exact Or.inr ⟨rfl, hq⟩
  · exact Or.inr ⟨rfl, hq⟩
theorem m59 {μ : zM} {t : zT} {n r : Nat} {P : Prop} {x1 : Int32} (hn : n < 8) (hs : μ.1.1 = nI n) (hL : ∀ a b, a < n → b < n → μ.2.2.1.1 (7 * a + b) = cst t a b) (hr : r < n) (k10 : zM → Int32 → Int32 → Int32 → Option (Int32 × zM)) : ∀ (d nf j : Nat) (x2 : Int32), d < nf → j + d = n →
    B01 (P ∧ ∀ c, c < j → ¬ red t μ.2.2.1.2.2.2.2.2.2.2.2.2.1 μ.2.2.1.2.2.2.2.2.2.2.2.2.2 r c < 0) x2 →
    ∃ y, s_X4_isSound_59 k10 nf μ x1 x2 (nI r) (nI j) = k10 μ x1 y (nI (r + 1)) ∧ B01 (P ∧ ∀ c, c < n → ¬ red t μ.2.2.1.2.2.2.2.2.2.2.2.2.1 μ.2.2.1.2.2.2.2.2.2.2.2.2.2 r c < 0) y := by
  intro d
  induction d with
  | zero =>
    intro nf j x2 hd hj hb
    obtain ⟨nf, rfl⟩ : ∃ q, nf = q + 1 := ⟨nf - 1, by omega⟩
    have : j = n := by omega
    subst this
    rw [s_X4_isSound_59, if_pos (by rw [hs]; exact Int32.le_refl _), nsucc]
    exact ⟨x2, rfl, hb⟩
  | succ d ih =>
    intro nf j x2 hd hj hb
    obtain ⟨nf, rfl⟩ : ∃ q, nf = q + 1 := ⟨nf - 1, by omega⟩
    rw [s_X4_isSound_59, if_neg (by rw [hs, nle (by omega) (by omega)]; omega), e_reduced hn hL hr (by omega), Option.bind_some, nsucc]
    by_cases h : red t μ.2.2.1.2.2.2.2.2.2.2.2.2.1 μ.2.2.1.2.2.2.2.2.2.2.2.2.2 r j < 0
    · rw [if_pos h]
      exact ih nf (j + 1) _ (by omega) (by omega) (B01_and0 hb _ (fun hh => hh.2 j (by omega) h))
    · rw [if_neg h]
      refine ih nf (j + 1) _ (by omega) (by omega) ((B01_and1 hb).congr ⟨fun hh => ⟨hh.1, fun c hc => ?_⟩, fun hh => ⟨hh.1, fun c hc => hh.2 c (by omega)⟩⟩)
      by_cases hcj : c = j
      · subst hcj; exact h
      · exact hh.2 c (by omega)
theorem m128 {μ : zM} {n m : Nat} {P : Prop} {x1 x2 y0 : Int32} (hV : Vt μ.1 n m) (hL : LKt μ.1 n μ.2.2.1) (hb : B01 P x2) : ∃ b μ2, s_X4_isSound_128 μ x1 x2 y0 = some (b, μ2) ∧ keepM μ μ2 ∧ B01 (P ∧ x1 = μ.2.2.1.2.2.2.2.1 ∧ y0 = μ.2.2.1.2.2.2.2.1) b := by
  have hn := hV.2.2.2.2.1
  unfold s_X4_isSound_128
  rcases hb with ⟨rfl, hP⟩ | ⟨rfl, hP⟩
  · rw [if_neg one_ne]
    by_cases h1 : x1 = μ.2.2.1.2.2.2.2.1
    · rw [if_pos h1]
      by_cases h2 : y0 = μ.2.2.1.2.2.2.2.1
      · rw [if_pos h2]
        have nr := hL.nar hn
        have hb := nar_bound hV nr
        obtain ⟨L, g1, g2⟩ := m_fits (lim := μ.2.2.1.2.2.2.2.2.2.2.2.1) hV hb.1 hb.2 nr
        have e : L.2.2.2.2.2.2.2.2.1 = μ.2.2.1.2.2.2.2.2.2.2.2.1 := zz_inj.mpr ((g2.nar hn).uniq nr)
        rw [g1, Option.bind_some, if_pos (Int.le_refl _)]
        show ∃ b μ2, (if (1 : Int32) = 0 then some ((0 : Int32), wl (wt μ 0) L) else (if L.2.2.2.2.2.2.2.2.1 = 0 then (some ((1 : Int32), wl (wt μ 0) L)) else ((s_X4_fits (wl (wt μ 0) L) (L.2.2.2.2.2.2.2.2.1 - (1 : Int32))).bind fun z7 => if z7.1 = 0 then (some ((1 : Int32), z7.2)) else (some ((0 : Int32), z7.2))))) = some (b, μ2) ∧ _
        rw [if_neg one_ne]
        by_cases h3 : L.2.2.2.2.2.2.2.2.1 = 0
        · rw [if_pos h3]
          exact ⟨_, _, rfl, ⟨rfl, rfl, rfl⟩, Or.inl ⟨rfl, hP, h1, h2⟩⟩
        · rw [if_neg h3]
          have h0 : L.2.2.2.2.2.2.2.2.1.toInt ≠ 0 := fun e => h3 (zz_inj.mpr e)
          rw [e] at h0 ⊢
          have e1 := sub1_toInt (x := μ.2.2.1.2.2.2.2.2.2.2.2.1) (by omega)
          obtain ⟨L', g3, g4⟩ := m_fits (μ := wl (wt μ 0) L) (lim := μ.2.2.1.2.2.2.2.2.2.2.2.1 - 1) hV (by omega) (by omega) nr
          rw [if_neg (by omega)] at g3
          rw [g3, Option.bind_some, if_pos rfl]
          exact ⟨1, wl (wt (wl (wt μ 0) L) 0) L', rfl, ⟨rfl, rfl, rfl⟩, Or.inl ⟨rfl, hP, h1, h2⟩⟩
      · rw [if_neg h2]
        exact ⟨_, _, rfl, ⟨rfl, rfl, rfl⟩, Or.inr ⟨rfl, fun h => h2 h.2.2⟩⟩
    · rw [if_neg h1]
      exact ⟨_, _, rfl, ⟨rfl, rfl, rfl⟩, Or.inr ⟨rfl, fun h => h1 h.2.1⟩⟩
  · rw [if_pos rfl]
    exact ⟨_, _, rfl, ⟨rfl, rfl, rfl⟩, Or.inr ⟨rfl, fun h => hP h.1⟩⟩
theorem m_split {μ : zM} {n m : Nat} (hV : Vt μ.1 n m) (hL : LKt μ.1 n μ.2.2.1) (v : Int32) : ∃ z, s_X4_without μ 0 0 = some z ∧ (SPL μ.1 n v ↔ (if z ≤ μ.2.2.1.2.1 0 then z else μ.2.2.1.2.1 0) = v) := by
  have hn := hV.2.2.2.2.1
  have h1m := hV.2.2.1
  have hmn := hV.2.2.2.1
  have w0 := hL.wth hn (i := 0) (j := 0) (by omega) (by omega)
  rw [show 7 * 0 + 0 = 0 from rfl] at w0
  by_cases h1 : n = 1
  · obtain ⟨z, e1, e2⟩ := e_without (μ := μ) hV hV.1 (i := 0) (j := 0) (by omega) (by omega) hL
    refine ⟨z, e1, ?_⟩
    rcases e2 with ⟨e2, -⟩ | ⟨⟨l, hl, hne, -⟩, -⟩
    · obtain ⟨l, hl, e⟩ := List.mem_map.mp w0.1
      have hb := t_sum hV (List.mem_filter.mp hl).1
      have e' : fs (Cz μ.1) l n = (μ.2.2.1.2.1 0).toInt := e
      rw [if_neg (by rw [e2, zz_le, far_t]; omega)]
      constructor
      · rintro ⟨w, b1, b2⟩
        rw [zz_inj.mpr (w0.uniq b1)]
        rcases b2 with ⟨-, b2⟩ | ⟨b2, -⟩
        · exact b2.symm
        · omega
      · intro h
        exact ⟨_, w0, Or.inl ⟨h1, h.symm⟩⟩
    · have := ent hn hl (i := 0) (by omega)
      exact absurd (by omega) hne
  · obtain ⟨z, e1, e2⟩ := e_without2 (μ := μ) hV hV.1 (i := 0) (j := 0) (by omega) (by omega) (by omega) hL
    refine ⟨z, e1, ?_⟩
    have em : ∀ a b : Int32, (if a ≤ b then a else b) = if a < b then a else b := by
      intro a b
      by_cases h : a < b
      · rw [if_pos h, if_pos (Int32.le_of_lt h)]
      · rw [if_neg h]
        by_cases h2 : a ≤ b
        · rw [if_pos h2]
          rw [zz_lt] at h; rw [zz_le] at h2
          exact zz_inj.mpr (by omega)
        · rw [if_neg h2]
    rw [em]
    constructor
    · rintro ⟨w, b1, b2⟩
      rw [zz_inj.mpr (w0.uniq b1)]
      rcases b2 with ⟨b2, -⟩ | ⟨-, wo, b2, b3⟩
      · omega
      · rw [zz_inj.mpr (e2.uniq b2)]; exact b3.symm
    · intro h
      exact ⟨_, w0, Or.inr ⟨by omega, z, e2, h.symm⟩⟩
theorem m10 {μ : zM} {n m : Nat} {f : List Nat} (hV : Vt μ.1 n m) (hL : LKt μ.1 n μ.2.2.1) (hf : f ∈ PL n) (hfo : ∀ j, j < n → μ.2.2.1.2.2.2.1 j = nI (f.getD j 0)) : ∀ (d nf k : Nat) (x2 : Int32), d < nf → k + d = n →
    B01 (∀ r, r < k → RCr μ.1 n μ.2.2.1.2.2.2.2.2.2.2.2.2.1 μ.2.2.1.2.2.2.2.2.2.2.2.2.2 f r) x2 →
    ∃ b μ2, s_X4_isSound_10 nf μ (ps μ.2.2.1.2.2.2.2.2.2.2.2.2.1 μ.2.2.1.2.2.2.2.2.2.2.2.2.2 k) x2 (nI k) = some (b, μ2) ∧ keepM μ μ2 ∧ B01 (ps μ.2.2.1.2.2.2.2.2.2.2.2.2.1 μ.2.2.1.2.2.2.2.2.2.2.2.2.2 n = μ.2.2.1.2.2.2.2.1 ∧ (∀ r, r < n → RCr μ.1 n μ.2.2.1.2.2.2.2.2.2.2.2.2.1 μ.2.2.1.2.2.2.2.2.2.2.2.2.2 f r) ∧ SPL μ.1 n μ.2.2.1.2.2.2.2.1) b := by
  have hn := hV.2.2.2.2.1
  intro d
  induction d with
  | zero =>
    intro nf k x2 hd hk hb
    obtain ⟨nf, rfl⟩ : ∃ q, nf = q + 1 := ⟨nf - 1, by omega⟩
    have : k = n := by omega
    subst this
    obtain ⟨z, e1, e2⟩ := m_split hV hL μ.2.2.1.2.2.2.2.1
    rw [s_X4_isSound_10, if_pos (by rw [hV.1]; exact Int32.le_refl _), if_pos (by decide), e1, Option.bind_some, Option.bind_some]
    show ∃ b μ2, (if z ≤ μ.2.2.1.2.1 0 then s_X4_isSound_128 μ _ x2 z else (if ib (0 : Int32) 49 = true then s_X4_isSound_128 μ _ x2 (μ.2.2.1.2.1 0) else none)) = some (b, μ2) ∧ _
    by_cases hz : z ≤ μ.2.2.1.2.1 0
    · rw [if_pos hz] at e2 ⊢
      obtain ⟨b, μ2, g1, g2, g3⟩ := m128 (x1 := ps μ.2.2.1.2.2.2.2.2.2.2.2.2.1 μ.2.2.1.2.2.2.2.2.2.2.2.2.2 k) (y0 := z) hV hL hb
      exact ⟨b, μ2, g1, g2, g3.congr ⟨fun h => ⟨h.2.1, h.1, e2.mpr h.2.2⟩, fun h => ⟨h.2.1, h.1, e2.mp h.2.2⟩⟩⟩
    · rw [if_neg hz] at e2 ⊢
      rw [if_pos (by decide)]
      obtain ⟨b, μ2, g1, g2, g3⟩ := m128 (x1 := ps μ.2.2.1.2.2.2.2.2.2.2.2.2.1 μ.2.2.1.2.2.2.2.2.2.2.2.2.2 k) (y0 := μ.2.2.1.2.1 0) hV hL hb
      exact ⟨b, μ2, g1, g2, g3.congr ⟨fun h => ⟨h.2.1, h.1, e2.mpr h.2.2⟩, fun h => ⟨h.2.1, h.1, e2.mp h.2.2⟩⟩⟩
  | succ d ih =>
    intro nf k x2 hd hk hb
    obtain ⟨nf, rfl⟩ : ∃ q, nf = q + 1 := ⟨nf - 1, by omega⟩
    have i3 : ib (nI k) 7 = true := ib_ok (by omega) (by omega)
    have hfk := ent hn hf (i := k) (by omega)
    rw [s_X4_isSound_10, if_neg (by rw [hV.1, nle (by omega) (by omega)]; omega), if_pos i3, if_pos i3, if_pos i3, ncl (by omega), hfo k (by omega), e_reduced hn hL.2 (by omega) hfk, Option.bind_some, show (0 : Int32) = nI 0 from rfl]
    have go : ∀ y : Int32, B01 ((∀ r, r < k → RCr μ.1 n μ.2.2.1.2.2.2.2.2.2.2.2.2.1 μ.2.2.1.2.2.2.2.2.2.2.2.2.2 f r) ∧ red μ.1 μ.2.2.1.2.2.2.2.2.2.2.2.2.1 μ.2.2.1.2.2.2.2.2.2.2.2.2.2 k (f.getD k 0) = 0) y →
        ∃ b μ2, s_X4_isSound_59 (fun v0 v1 v2 v3 => s_X4_isSound_10 nf v0 v1 v2 v3) FU μ (ps μ.2.2.1.2.2.2.2.2.2.2.2.2.1 μ.2.2.1.2.2.2.2.2.2.2.2.2.2 k + (μ.2.2.1.2.2.2.2.2.2.2.2.2.1 k + μ.2.2.1.2.2.2.2.2.2.2.2.2.2 k)) y (nI k) (nI 0) = some (b, μ2) ∧ keepM μ μ2 ∧ B01 (ps μ.2.2.1.2.2.2.2.2.2.2.2.2.1 μ.2.2.1.2.2.2.2.2.2.2.2.2.2 n = μ.2.2.1.2.2.2.2.1 ∧ (∀ r, r < n → RCr μ.1 n μ.2.2.1.2.2.2.2.2.2.2.2.2.1 μ.2.2.1.2.2.2.2.2.2.2.2.2.2 f r) ∧ SPL μ.1 n μ.2.2.1.2.2.2.2.1) b := by
      intro y hy
      obtain ⟨w, g1, g2⟩ := m59 (x1 := ps μ.2.2.1.2.2.2.2.2.2.2.2.2.1 μ.2.2.1.2.2.2.2.2.2.2.2.2.2 k + (μ.2.2.1.2.2.2.2.2.2.2.2.2.1 k + μ.2.2.1.2.2.2.2.2.2.2.2.2.2 k)) hn hV.1 hL.2 (r := k) (by omega) (fun v0 v1 v2 v3 => s_X4_isSound_10 nf v0 v1 v2 v3) n FU 0 y (by unfold FU; omega) (by omega) (hy.congr ⟨fun h => ⟨h, fun c hc => by omega⟩, fun h => h.1⟩)
      rw [g1]
      refine ih nf (k + 1) w (by omega) (by omega) (g2.congr ⟨fun h r hr => ?_, fun h => ⟨⟨fun r hr => h r (by omega), (h k (by omega)).1⟩, (h k (by omega)).2⟩⟩)
      by_cases hrk : r = k
      · subst hrk; exact ⟨h.1.2, h.2⟩
      · exact h.1.1 r (by omega)
    by_cases h : red μ.1 μ.2.2.1.2.2.2.2.2.2.2.2.2.1 μ.2.2.1.2.2.2.2.2.2.2.2.2.2 k (f.getD k 0) = 0
    · rw [show (nI 0 : Int32) = 0 from rfl, if_pos h]
      exact go _ ((B01_and1 hb).congr ⟨fun hh => ⟨hh, h⟩, fun hh => hh.1⟩)
    · rw [show (nI 0 : Int32) = 0 from rfl, if_neg h]
      exact go _ (B01_and0 hb _ (fun hh => h hh.2))
theorem o_isSound {σ : zC} {μ : zM} (h : Rel σ μ) : ∃ v σ2 μ2, s_X3_isSound σ = some (.inr v, σ2) ∧ s_X4_isSound μ = some (v, μ2) ∧ Rel σ2 μ2 := by
  have h0 := h
  obtain ⟨a1, a2, ⟨n, m, hV, hE⟩, -⟩ := h
  have hn := hV.2.2.2.2.1
  have hM : Vt μ.1 n m := by rw [a1]; exact hV
  obtain ⟨b, σ2, q1, q2, q3⟩ := c_isSound hV
  obtain ⟨L, g1, g2, g3⟩ := m_findPotentials hM
  obtain ⟨l1, -, f, l2, l3, -⟩ := g2.least hn
  obtain ⟨b2, μ2, r1, r2, r3⟩ := m10 (μ := wl μ L) hM g2 l2.1 l3 n FU 0 1 (by unfold FU; omega) (by omega) (Or.inl ⟨rfl, fun r hr => by omega⟩)
  have r4 := r3.congr (SND_iff hn l1 g3 l2).symm
  have r5 : B01 (SND σ.1 n) b2 := by rw [← a1]; exact r4
  have e := q3.uniq r5
  subst e
  refine ⟨b, σ2, μ2, q1, ?_, h0.keep q2 r2⟩
  unfold s_X4_isSound
  rw [g1, Option.bind_some]
  exact r1
