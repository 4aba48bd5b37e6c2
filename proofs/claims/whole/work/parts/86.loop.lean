/-! ===== the switch and the loop ===== -/
theorem law_more {L j : Nat} (hL : L ≤ 2048) (hj : j ≤ 512) (h : ¬ Int32.ofNat L - 4 < nI (4 * j)) : 4 * j + 4 ≤ L := by
  have e4 : (4 : Int32).toInt = 4 := rfl
  have e1 : (nI L).toInt = (L : Int) := nT (by omega)
  rw [zz_lt, nT (by omega)] at h
  have e2 : (nI L - 4).toInt = (L : Int) - 4 := by
    rw [zz_sub (by rw [e1, e4]; omega) (by rw [e1, e4]; omega), e1, e4]
  rw [show Int32.ofNat L = nI L from rfl, e2] at h
  omega
set_option maxHeartbeats 4000000 in
set_option maxRecDepth 100000 in
theorem law_switch {p : Program} {l : Launch} {e : Env} {s : State} {m : MethodId} {args : Array Value} {below : List Frame} {meth : Method} {c : Code} {D : va_G} {cyI cyZ cyJ cyD : ClassId} {A : Nat → Prop} {b L : Nat} {xs : Nat → Int32} {Q : State → Prop} {cells slots : Nat} {h : Nat → Nat} {i x1 x2 x3 : Int32} {σ : zC} {μ : zM} {g : Nat → Int64} {d : Nat → UInt64} (hst : l.stackTraces = false) (LW : zLaw p s m args c D cyI cyZ cyJ cyD A b L xs) (hI : zArgs L xs i x1 x2 x3) (hc : cells + 1 ≤ 601024) (hs : slots + 6 ≤ 7293034) (Rl : Rel σ μ) (K : ∀ (σ2 : zC) (μ2 : zM) (g2 : Nat → Int64) (d2 : Nat → UInt64), Rel σ2 μ2 → zW p l e room_1 s m args below meth c D A 10 (cells + 1) (slots + 6) Q 2123 (zlv b h i) [] (w_L cyI cyZ cyJ cyD h σ2 μ2 g2 d2)) {k : Nat} (hk : k < 64) : zW p l e room_1 s m args below meth c D A 10 cells slots Q 44 (zlv b h i) [.int (nI k)] (w_L cyI cyZ cyJ cyD h σ μ g d) := by
  have G := LW.1
  match k, hk with
  | 0, _ => exact zq_tabIn (q := 228) (off := 184) G dL_law_44 (by decide) (by decide) rfl (by decide) (L_0 hst LW hI hc hs Rl K)
  | 1, _ => exact zq_tabIn (q := 296) (off := 252) G dL_law_44 (by decide) (by decide) rfl (by decide) (L_1 hst LW hI hc hs Rl K)
  | 2, _ => exact zq_tabIn (q := 376) (off := 332) G dL_law_44 (by decide) (by decide) rfl (by decide) (L_2 hst LW hI hc hs Rl K)
  | 3, _ => exact zq_tabIn (q := 476) (off := 432) G dL_law_44 (by decide) (by decide) rfl (by decide) (L_3 hst LW hI hc hs Rl K)
  | 4, _ => exact zq_tabIn (q := 544) (off := 500) G dL_law_44 (by decide) (by decide) rfl (by decide) (L_4 hst LW hI hc hs Rl K)
  | 5, _ => exact zq_tabIn (q := 640) (off := 596) G dL_law_44 (by decide) (by decide) rfl (by decide) (L_5 hst LW hI hc hs Rl K)
  | 6, _ => exact zq_tabIn (q := 708) (off := 664) G dL_law_44 (by decide) (by decide) rfl (by decide) (L_6 hst LW hI hc hs Rl K)
  | 7, _ => exact zq_tabIn (q := 776) (off := 732) G dL_law_44 (by decide) (by decide) rfl (by decide) (L_7 hst LW hI hc hs Rl K)
  | 8, _ => exact zq_tabIn (q := 844) (off := 800) G dL_law_44 (by decide) (by decide) rfl (by decide) (L_8 hst LW hI hc hs Rl K)
  | 9, _ => exact zq_tabIn (q := 912) (off := 868) G dL_law_44 (by decide) (by decide) rfl (by decide) (L_9 hst LW hI hc hs Rl K)
  | 10, _ => exact zq_tabIn (q := 980) (off := 936) G dL_law_44 (by decide) (by decide) rfl (by decide) (L_10 hst LW hI hc hs Rl K)
  | 11, _ => exact zq_tabIn (q := 1024) (off := 980) G dL_law_44 (by decide) (by decide) rfl (by decide) (L_11 hst LW hI hc hs Rl K)
  | 12, _ => exact zq_tabIn (q := 1037) (off := 993) G dL_law_44 (by decide) (by decide) rfl (by decide) (L_12 hst LW hI hc hs Rl K)
  | 13, _ => exact zq_tabIn (q := 1050) (off := 1006) G dL_law_44 (by decide) (by decide) rfl (by decide) (L_13 hst LW hI hc hs Rl K)
  | 14, _ => exact zq_tabIn (q := 1063) (off := 1019) G dL_law_44 (by decide) (by decide) rfl (by decide) (L_14 hst LW hI hc hs Rl K)
  | 15, _ => exact zq_tabIn (q := 1076) (off := 1032) G dL_law_44 (by decide) (by decide) rfl (by decide) (L_15 hst LW hI hc hs Rl K)
  | 16, _ => exact zq_tabIn (q := 1089) (off := 1045) G dL_law_44 (by decide) (by decide) rfl (by decide) (L_16 hst LW hI hc hs Rl K)
  | 17, _ => exact zq_tabIn (q := 1102) (off := 1058) G dL_law_44 (by decide) (by decide) rfl (by decide) (L_17 hst LW hI hc hs Rl K)
  | 18, _ => exact zq_tabIn (q := 1115) (off := 1071) G dL_law_44 (by decide) (by decide) rfl (by decide) (L_18 hst LW hI hc hs Rl K)
  | 19, _ => exact zq_tabIn (q := 1128) (off := 1084) G dL_law_44 (by decide) (by decide) rfl (by decide) (L_19 hst LW hI hc hs Rl K)
  | 20, _ => exact zq_tabIn (q := 1141) (off := 1097) G dL_law_44 (by decide) (by decide) rfl (by decide) (L_20 hst LW hI hc hs Rl K)
  | 21, _ => exact zq_tabIn (q := 1197) (off := 1153) G dL_law_44 (by decide) (by decide) rfl (by decide) (L_21 hst LW hI hc hs Rl K)
  | 22, _ => exact zq_tabIn (q := 1210) (off := 1166) G dL_law_44 (by decide) (by decide) rfl (by decide) (L_22 hst LW hI hc hs Rl K)
  | 23, _ => exact zq_tabIn (q := 1266) (off := 1222) G dL_law_44 (by decide) (by decide) rfl (by decide) (L_23 hst LW hI hc hs Rl K)
  | 24, _ => exact zq_tabIn (q := 1322) (off := 1278) G dL_law_44 (by decide) (by decide) rfl (by decide) (L_24 hst LW hI hc hs Rl K)
  | 25, _ => exact zq_tabIn (q := 1390) (off := 1346) G dL_law_44 (by decide) (by decide) rfl (by decide) (L_25 hst LW hI hc hs Rl K)
  | 26, _ => exact zq_tabIn (q := 1458) (off := 1414) G dL_law_44 (by decide) (by decide) rfl (by decide) (L_26 hst LW hI hc hs Rl K)
  | 27, _ => exact zq_tabIn (q := 1526) (off := 1482) G dL_law_44 (by decide) (by decide) rfl (by decide) (L_27 hst LW hI hc hs Rl K)
  | 28, _ => exact zq_tabIn (q := 1606) (off := 1562) G dL_law_44 (by decide) (by decide) rfl (by decide) (L_28 hst LW hI hc hs Rl K)
  | 29, _ => exact zq_tabIn (q := 1619) (off := 1575) G dL_law_44 (by decide) (by decide) rfl (by decide) (L_29 hst LW hI hc hs Rl K)
  | 30, _ => exact zq_tabIn (q := 1632) (off := 1588) G dL_law_44 (by decide) (by decide) rfl (by decide) (L_30 hst LW hI hc hs Rl K)
  | 31, _ => exact zq_tabIn (q := 1645) (off := 1601) G dL_law_44 (by decide) (by decide) rfl (by decide) (L_31 hst LW hI hc hs Rl K)
  | 32, _ => exact zq_tabIn (q := 1708) (off := 1664) G dL_law_44 (by decide) (by decide) rfl (by decide) (L_32 hst LW hI hc hs Rl K)
  | 33, _ => exact zq_tabIn (q := 1764) (off := 1720) G dL_law_44 (by decide) (by decide) rfl (by decide) (L_33 hst LW hI hc hs Rl K)
  | 34, _ => exact zq_tabIn (q := 1820) (off := 1776) G dL_law_44 (by decide) (by decide) rfl (by decide) (L_34 hst LW hI hc hs Rl K)
  | 35, _ => exact zq_tabIn (q := 1864) (off := 1820) G dL_law_44 (by decide) (by decide) rfl (by decide) (L_35 hst LW hI hc hs Rl K)
  | 36, _ => exact zq_tabIn (q := 1908) (off := 1864) G dL_law_44 (by decide) (by decide) rfl (by decide) (L_36 hst LW hI hc hs Rl K)
  | 37, _ => exact zq_tabIn (q := 1964) (off := 1920) G dL_law_44 (by decide) (by decide) rfl (by decide) (L_37 hst LW hI hc hs Rl K)
  | 38, _ => exact zq_tabIn (q := 1977) (off := 1933) G dL_law_44 (by decide) (by decide) rfl (by decide) (L_38 hst LW hI hc hs Rl K)
  | 39, _ => exact zq_tabIn (q := 2018) (off := 1974) G dL_law_44 (by decide) (by decide) rfl (by decide) (L_39 hst LW hI hc hs Rl K)
  | 40, _ => exact zq_tabIn (q := 2096) (off := 2052) G dL_law_44 (by decide) (by decide) rfl (by decide) (L_40 hst LW hI hc hs Rl K)
  | 41, _ => exact zq_tabIn (q := 2110) (off := 2066) G dL_law_44 (by decide) (by decide) rfl (by decide) (L_41 hst LW hI hc hs Rl K)
  | k + 42, hk => exact zq_tabOut (q := 2123) G dL_law_44 (Or.inr (by rw [nI_toInt (by omega)]; omega)) (by decide) (zq_widen (Nat.le_add_right _ _) (Nat.le_add_right _ _) (K σ μ g d Rl))
set_option maxHeartbeats 4000000 in
set_option maxRecDepth 100000 in
theorem law_loop {p : Program} {l : Launch} {e : Env} {s : State} {m : MethodId} {args : Array Value} {below : List Frame} {meth : Method} {c : Code} {D : va_G} {cyI cyZ cyJ cyD : ClassId} {A : Nat → Prop} {b L : Nat} {xs : Nat → Int32} {Q : State → Prop} {h : Nat → Nat} (hst : l.stackTraces = false) (LW : zLaw p s m args c D cyI cyZ cyJ cyD A b L xs) (hL : L ≤ 2048) (hend : ∀ (cells slots : Nat) (lv : List (Nat × Value)) (ws : va_W), cells ≤ 601024 → slots ≤ 7293034 → zW p l e room_1 s m args below meth c D A 10 cells slots Q 2130 lv [.int 1] ws) : ∀ (n j : Nat), L - 4 * j ≤ n → j ≤ 512 → ∀ (σ : zC) (μ : zM) (g : Nat → Int64) (d : Nat → UInt64), Rel σ μ → zW p l e room_1 s m args below meth c D A 10 (31 + j) (2000 + 6 * j) Q 28 (zlv b h (nI (4 * j))) [] (w_L cyI cyZ cyJ cyD h σ μ g d) := by
  have G := LW.1
  intro n
  induction n with
  | zero =>
    intro j hn hj σ μ g d Rl
    refine zq_iload (q := 30) G dL_law_28 5 rfl rfl ?_
    refine zq_aload_n (q := 31) G dL_law_30 0 rfl rfl rfl ?_
    refine zq_slen (q := 32) G LW.2.2.1 LW.2.2.2.1 LW.2.2.2.2 dL_law_31 rfl ?_
    refine zq_iconst (q := 33) (v := 4) G dL_law_32 rfl rfl ?_
    refine zq_isub (q := 34) G dL_law_33 rfl ?_
    refine zq_icmp_gt (tgt := 2129) (q := 37) G dL_law_34 (by decide) rfl (fun _ => ?_) (fun hle => ?_)
    · refine zq_iconst (q := 2130) (v := 1) G dL_law_2129 rfl rfl ?_
      exact hend _ _ _ _ (by omega) (by omega)
    · exact absurd (law_more hL (by omega) hle) (by omega)
  | succ n ih =>
    intro j hn hj σ μ g d Rl
    refine zq_iload (q := 30) G dL_law_28 5 rfl rfl ?_
    refine zq_aload_n (q := 31) G dL_law_30 0 rfl rfl rfl ?_
    refine zq_slen (q := 32) G LW.2.2.1 LW.2.2.2.1 LW.2.2.2.2 dL_law_31 rfl ?_
    refine zq_iconst (q := 33) (v := 4) G dL_law_32 rfl rfl ?_
    refine zq_isub (q := 34) G dL_law_33 rfl ?_
    refine zq_icmp_gt (tgt := 2129) (q := 37) G dL_law_34 (by decide) rfl (fun _ => ?_) (fun hle => ?_)
    · refine zq_iconst (q := 2130) (v := 1) G dL_law_2129 rfl rfl ?_
      exact hend _ _ _ _ (by omega) (by omega)
    · have h4 := law_more hL (by omega) hle
      refine zq_aload_n (q := 38) G dL_law_37 0 rfl rfl rfl ?_
      refine zq_iload (q := 40) G dL_law_38 5 rfl rfl ?_
      refine zq_sld (q := 41) G LW.2.2.1 LW.2.2.2.1 LW.2.2.2.2 (ib_ok (by omega) (by omega)) dL_law_40 rfl ?_
      refine zq_bipush (q := 43) (v := 63) G dL_law_41 rfl rfl ?_
      refine zq_iand (q := 44) G dL_law_43 rfl ?_
      obtain ⟨k, hk, ek⟩ := and63 (xs (nI (4 * j)).toNatClampNeg)
      rw [ek]
      have hA : ∀ v : Nat, v < 4 → ib (nI (4 * j) + nI v) L = true := fun v hv => by
        rw [nI_add]
        exact ib_ok (by omega) (by omega)
      refine law_switch (x1 := xs (nI (4 * j) + 1).toNatClampNeg) (x2 := xs (nI (4 * j) + 2).toNatClampNeg) (x3 := xs (nI (4 * j) + 3).toNatClampNeg) hst LW ⟨⟨hA 1 (by omega), rfl⟩, ⟨hA 2 (by omega), rfl⟩, ⟨hA 3 (by omega), rfl⟩⟩ (by omega) (by omega) Rl (fun σ2 μ2 g2 d2 R2 => ?_) hk
      have i4 : nI (4 * j) + Int32.ofInt 4 = nI (4 * (j + 1)) := by
        rw [show Int32.ofInt 4 = nI 4 from rfl, nI_add]
        rfl
      refine zq_iinc (q := 2126) (v := nI (4 * (j + 1))) (lv2 := [(5, .int (nI (4 * (j + 1)))), (0, .ref b), (1, .ref (h 0)), (2, .ref (h 17)), (3, .ref (h 29)), (4, .ref (h 30))]) G dL_law_2123 5 rfl i4 (by decide) rfl rfl ?_
      refine zq_goto (q := 28) G dL_law_2126 (by decide) ?_
      refine zq_sub (zlv b h (nI (4 * (j + 1)))) [1, 2, 3, 4, 5, 0] rfl ?_
      have r := ih (j + 1) (by omega) (by omega) σ2 μ2 g2 d2 R2
      rw [show 2000 + 6 * (j + 1) = 2000 + 6 * j + 6 by omega, show 31 + (j + 1) = 31 + j + 1 by omega] at r
      exact r
