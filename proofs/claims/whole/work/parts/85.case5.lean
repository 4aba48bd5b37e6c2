/-! ===== cases of the switch ===== -/
set_option maxHeartbeats 4000000 in
set_option maxRecDepth 100000 in
theorem L_38 {p : Program} {l : Launch} {e : Env} {s : State} {m : MethodId} {args : Array Value} {below : List Frame} {meth : Method} {c : Code} {D : va_G} {cyI cyZ cyJ cyD : ClassId} {A : Nat → Prop} {b L : Nat} {xs : Nat → Int32} {Q : State → Prop} {cells slots : Nat} {h : Nat → Nat} {i x1 x2 x3 : Int32} {σ : zC} {μ : zM} {g : Nat → Int64} {d : Nat → UInt64} (hst : l.stackTraces = false) (LW : zLaw p s m args c D cyI cyZ cyJ cyD A b L xs) (hI : zArgs L xs i x1 x2 x3) (hc : cells + 1 ≤ 601024) (hs : slots + 6 ≤ 7293034) (Rl : Rel σ μ) (K : ∀ (σ2 : zC) (μ2 : zM) (g2 : Nat → Int64) (d2 : Nat → UInt64), Rel σ2 μ2 → zW p l e room_1 s m args below meth c D A 10 (cells + 1) (slots + 6) Q 2123 (zlv b h i) [] (w_L cyI cyZ cyJ cyD h σ2 μ2 g2 d2)) : zW p l e room_1 s m args below meth c D A 10 cells slots Q 1977 (zlv b h i) [] (w_L cyI cyZ cyJ cyD h σ μ g d) := by
  have G := LW.1
  obtain ⟨v, n, e1, e2, a1, a2, n1, n8⟩ := p_mean Rl
  have hok := okD_div (v := v) (k := n * n) (by have := Nat.mul_le_mul (Nat.le_of_lt_succ n8) (Nat.le_of_lt_succ n8); omega) (Nat.pos_iff_ne_zero.mp (Nat.mul_pos n1 n1))
  have m1 : σ.1.1 * σ.1.1 = Int32.ofNat (n * n) := by rw [a1]; exact (Int32.ofNat_mul n n).symm
  have m2 : μ.1.1 * μ.1.1 = Int32.ofNat (n * n) := by rw [a2]; exact (Int32.ofNat_mul n n).symm
  have k1 : vf_n64 (FP.ddiv (FP.i2d v) (FP.i2d (σ.1.1 * σ.1.1))) := by rw [m1]; exact hok.1
  have k2 : vf_n64 (FP.ddiv (FP.i2d v) (FP.i2d (μ.1.1 * μ.1.1))) := by rw [m2]; exact hok.1
  have k3 : ∀ sz : Nat, zMd l yX3_meanCost cX3_meanCost 1 5 110 D cyI cyZ sz [.ref (h 0)] (w_C cyI cyZ (h 0) (h 1) (h 2) (h 3) (h 4) (h 5) (h 6) (h 7) (h 8) (h 9) (h 10) (h 11) (h 12) (h 13) (h 14) (h 15) (h 16) σ) (FP.ddiv (FP.i2d v) (FP.i2d (Int32.ofNat (n * n)))) (w_C cyI cyZ (h 0) (h 1) (h 2) (h 3) (h 4) (h 5) (h 6) (h 7) (h 8) (h 9) (h 10) (h 11) (h 12) (h 13) (h 14) (h 15) (h 16) σ) := fun sz => by have q9 := c_X3_meanCost l D cyI cyZ (h 0) (h 1) (h 2) (h 3) (h 4) (h 5) (h 6) (h 7) (h 8) (h 9) (h 10) (h 11) (h 12) (h 13) (h 14) (h 15) (h 16) σ v e1 k1 sz; rw [m1] at q9; exact q9
  have k4 : ∀ sz : Nat, zMd l yX4_meanCost cX4_meanCost 1 3 67 D cyI cyZ sz [.ref (h 17)] (w_M cyI cyZ (h 17) (h 18) (h 19) (h 20) (h 21) (h 22) (h 23) (h 24) (h 25) (h 26) (h 27) (h 28) μ) (FP.ddiv (FP.i2d v) (FP.i2d (Int32.ofNat (n * n)))) (w_M cyI cyZ (h 17) (h 18) (h 19) (h 20) (h 21) (h 22) (h 23) (h 24) (h 25) (h 26) (h 27) (h 28) μ) := fun sz => by have q9 := c_X4_meanCost l D cyI cyZ (h 17) (h 18) (h 19) (h 20) (h 21) (h 22) (h 23) (h 24) (h 25) (h 26) (h 27) (h 28) μ v e2 k2 sz; rw [m2] at q9; exact q9
  generalize FP.ddiv (FP.i2d v) (FP.i2d (Int32.ofNat (n * n))) = r at hok k3 k4
  refine zq_aload_n (q := 1978) G dL_law_1977 1 rfl rfl rfl ?_
  refine zq_callVd (q := 1981) (ws2 := (w_L cyI cyZ cyJ cyD h σ μ g d)) (isC := [0, 1, 2, 3, 4, 5, 6, 7, 8, 9, 10, 11, 12, 13, 14, 15, 16]) (isR := [17, 18, 19, 20, 21, 22, 23, 24, 25, 26, 27, 28, 29, 30]) (perm := [14, 15, 16, 17, 18, 19, 20, 21, 22, 23, 24, 25, 26, 27, 28, 29, 30, 0, 1, 2, 3, 4, 5, 6, 7, 8, 9, 10, 11, 12, 13]) (rest := []) (As := []) G zs_L_245 dL_law_1978 (fun sz9 => k3 sz9) 0 rfl rfl rfl ⟨rfl, rfl, rfl, rfl⟩ rfl (Nat.le_of_ble_eq_true rfl) ⟨(Nat.le_of_ble_eq_true rfl), (Nat.le_of_ble_eq_true rfl), Nat.le_of_succ_le hc, Nat.le_trans (Nat.le_add_right _ _) hs⟩ rfl ?_
  refine zq_dstore (q := 1983) (lv2 := [(6, .double r), (0, .ref b), (1, .ref (h 0)), (2, .ref (h 17)), (3, .ref (h 29)), (4, .ref (h 30)), (5, .int i)]) G dL_law_1981 (by decide) rfl rfl ?_
  refine zq_aload_n (q := 1984) G dL_law_1983 3 rfl rfl rfl ?_
  refine zq_callVd (q := 1987) (ws2 := (w_L cyI cyZ cyJ cyD h σ μ g d)) (isC := [17, 18, 19, 20, 21, 22, 23, 24, 25, 26, 27, 28]) (isR := [0, 1, 2, 3, 4, 5, 6, 7, 8, 9, 10, 11, 12, 13, 14, 15, 16, 29, 30]) (perm := [0, 1, 2, 3, 4, 5, 6, 7, 8, 9, 10, 11, 12, 13, 14, 15, 16, 19, 20, 21, 22, 23, 24, 25, 26, 27, 28, 29, 30, 17, 18]) (rest := []) (As := []) G zs_L_249 dL_law_1984 (fun sz9 => k4 sz9) 17 rfl rfl rfl ⟨rfl, rfl, rfl, rfl⟩ rfl (Nat.le_of_ble_eq_true rfl) ⟨(Nat.le_of_ble_eq_true rfl), (Nat.le_of_ble_eq_true rfl), Nat.le_of_succ_le hc, Nat.le_trans (Nat.le_add_right _ _) hs⟩ rfl ?_
  refine zq_dstore (q := 1989) (lv2 := [(8, .double r), (6, .double r), (0, .ref b), (1, .ref (h 0)), (2, .ref (h 17)), (3, .ref (h 29)), (4, .ref (h 30)), (5, .int i)]) G dL_law_1987 (by decide) rfl rfl ?_
  refine zq_dload (q := 1991) G dL_law_1989 1 rfl rfl ?_
  refine zq_dload (q := 1993) G dL_law_1991 0 rfl rfl ?_
  refine zq_dcmp (q := 1994) (v := 0) G dL_law_1993 (zeqD hok.2 rfl) rfl ?_
  refine zq_if_eq (tgt := 2015) (q := 1997) G dL_law_1994 (by decide) rfl (fun _ => ?_) (fun c9 => absurd rfl c9)
  exact zq_goto (q := 2123) G dL_law_2015 (by decide) (zq_sub (zlv b h i) [2, 3, 4, 5, 6, 7] rfl (zq_widen (Nat.le_add_right _ _) (Nat.le_add_right _ _) (K _ _ _ _ Rl)))
set_option maxHeartbeats 4000000 in
set_option maxRecDepth 100000 in
theorem L_39X {p : Program} {l : Launch} {e : Env} {s : State} {m : MethodId} {args : Array Value} {below : List Frame} {meth : Method} {c : Code} {D : va_G} {cyI cyZ cyJ cyD : ClassId} {A : Nat → Prop} {b L : Nat} {xs : Nat → Int32} {Q : State → Prop} {cells slots : Nat} {h : Nat → Nat} {i x1 x2 x3 : Int32} {σ : zC} {μ : zM} {g : Nat → Int64} {d : Nat → UInt64} {μ2 : zM} {r : UInt32} (hst : l.stackTraces = false) (LW : zLaw p s m args c D cyI cyZ cyJ cyD A b L xs) (hI : zArgs L xs i x1 x2 x3) (hc : cells + 1 ≤ 601024) (hs : slots + 6 ≤ 7293034) (Rl : Rel σ μ) (e1 : s_X3_requireRow σ x1 = some (.inl xO)) (hM2 : ∀ sz : Nat, zMf l yX4_shareOf cX4_shareOf 2 15 302 D cyI cyZ sz [.ref (h 17), .int x1] (w_M cyI cyZ (h 17) (h 18) (h 19) (h 20) (h 21) (h 22) (h 23) (h 24) (h 25) (h 26) (h 27) (h 28) μ) r (w_M cyI cyZ (h 17) (h 18) (h 19) (h 20) (h 21) (h 22) (h 23) (h 24) (h 25) (h 26) (h 27) (h 28) μ2)) (ht2 : s_X4_thrown μ2 = some 1) (hR2 : Rel σ μ2) (K : ∀ (σ2 : zC) (μ2 : zM) (g2 : Nat → Int64) (d2 : Nat → UInt64), Rel σ2 μ2 → zW p l e room_1 s m args below meth c D A 10 (cells + 1) (slots + 6) Q 2123 (zlv b h i) [] (w_L cyI cyZ cyJ cyD h σ2 μ2 g2 d2)) : zW p l e room_1 s m args below meth c D A 10 cells slots Q 2018 (zlv b h i) [] (w_L cyI cyZ cyJ cyD h σ μ g d) := by
  have G := LW.1
  refine zq_aload_n (q := 2019) G dL_law_2018 1 rfl rfl rfl ?_
  refine zq_arg (q := 2025) (v := 1) LW hI.1 0 5 dL_law_2019 dL_law_2020 dL_law_2022 dL_law_2023 dL_law_2024 rfl rfl rfl rfl ?_
  refine zq_aload (q := 2027) G dL_law_2025 4 rfl rfl ?_
  refine zq_callH (q := 2030) (isC := [0, 1, 2, 3, 4, 5, 6, 7, 8, 9, 10, 11, 12, 13, 14, 15, 16, 30]) (isR := [17, 18, 19, 20, 21, 22, 23, 24, 25, 26, 27, 28, 29]) (perm := [13, 14, 15, 16, 17, 18, 19, 20, 21, 22, 23, 24, 25, 26, 27, 28, 29, 0, 1, 2, 3, 4, 5, 6, 7, 8, 9, 10, 11, 12, 30]) (rest := []) (As := [.ref (h 0), .int x1, .ref (h 30)]) G LW.2.1 zs_L_250 dL_law_2027 (fun sz9 => h_shareOfX l hst D cyI cyZ cyJ cyD h (h 30) σ d x1 e1 sz9) rfl rfl rfl (Nat.le_of_ble_eq_true rfl) ⟨(Nat.le_of_ble_eq_true rfl), (Nat.le_of_ble_eq_true rfl), hc, hs⟩ rfl (fun W9 hW9 => ?_)
  obtain ⟨d2, rfl⟩ := hW9
  refine ⟨(w_L cyI cyZ cyJ cyD h σ μ g d2), ⟨rfl, rfl, rfl, rfl⟩, ?_⟩
  refine zq_istore (q := 2032) (lv2 := [(6, .int 1), (0, .ref b), (1, .ref (h 0)), (2, .ref (h 17)), (3, .ref (h 29)), (4, .ref (h 30)), (5, .int i)]) G dL_law_2030 (by decide) rfl rfl ?_
  refine zq_aload_n (q := 2033) G dL_law_2032 3 rfl rfl rfl ?_
  refine zq_arg (q := 2039) (v := 1) LW hI.1 1 6 dL_law_2033 dL_law_2034 dL_law_2036 dL_law_2037 dL_law_2038 rfl rfl rfl rfl ?_
  refine zq_callVf (q := 2042) (ws2 := (w_L cyI cyZ cyJ cyD h σ μ2 g d2)) (isC := [17, 18, 19, 20, 21, 22, 23, 24, 25, 26, 27, 28]) (isR := [0, 1, 2, 3, 4, 5, 6, 7, 8, 9, 10, 11, 12, 13, 14, 15, 16, 29, 30]) (perm := [0, 1, 2, 3, 4, 5, 6, 7, 8, 9, 10, 11, 12, 13, 14, 15, 16, 19, 20, 21, 22, 23, 24, 25, 26, 27, 28, 29, 30, 17, 18]) (rest := []) (As := [.int x1]) G zs_L_253 dL_law_2039 (fun sz9 => hM2 sz9) 17 rfl rfl rfl ⟨rfl, rfl, rfl, rfl⟩ rfl (Nat.le_of_ble_eq_true rfl) ⟨(Nat.le_of_ble_eq_true rfl), (Nat.le_of_ble_eq_true rfl), hc, hs⟩ rfl ?_
  refine zq_fstore (q := 2044) (lv2 := [(7, .float r), (6, .int 1), (0, .ref b), (1, .ref (h 0)), (2, .ref (h 17)), (3, .ref (h 29)), (4, .ref (h 30)), (5, .int i)]) G dL_law_2042 (by decide) rfl rfl ?_
  refine zq_aload_n (q := 2045) G dL_law_2044 4 rfl rfl rfl ?_
  refine zq_callVi (q := 2048) (ws2 := (w_L cyI cyZ cyJ cyD h σ μ2 g d2)) (isC := [17, 18, 19, 20, 21, 22, 23, 24, 25, 26, 27, 28]) (isR := [0, 1, 2, 3, 4, 5, 6, 7, 8, 9, 10, 11, 12, 13, 14, 15, 16, 29, 30]) (perm := [0, 1, 2, 3, 4, 5, 6, 7, 8, 9, 10, 11, 12, 13, 14, 15, 16, 19, 20, 21, 22, 23, 24, 25, 26, 27, 28, 29, 30, 17, 18]) (rest := []) (As := []) G zs_L_110 dL_law_2045 (fun sz9 => c_X4_thrown l D cyI cyZ (h 17) (h 18) (h 19) (h 20) (h 21) (h 22) (h 23) (h 24) (h 25) (h 26) (h 27) (h 28) μ2 1 ht2 sz9) 17 rfl rfl rfl ⟨rfl, rfl, rfl, rfl⟩ rfl (Nat.le_of_ble_eq_true rfl) ⟨(Nat.le_of_ble_eq_true rfl), (Nat.le_of_ble_eq_true rfl), hc, hs⟩ rfl ?_
  refine zq_iload (q := 2050) G dL_law_2048 1 rfl rfl ?_
  refine zq_icmp_eq (tgt := 2055) (q := 2053) G dL_law_2050 (by decide) rfl (fun _ => ?_) (fun c9 => absurd rfl c9)
  refine zq_iload (q := 2057) G dL_law_2055 1 rfl rfl ?_
  refine zq_if_ne (tgt := 2093) (q := 2060) G dL_law_2057 (by decide) rfl (fun _ => ?_) (fun c9 => absurd c9 (by decide))
  exact zq_goto (q := 2123) G dL_law_2093 (by decide) (zq_sub (zlv b h i) [2, 3, 4, 5, 6, 7] rfl (K _ _ _ _ hR2))
set_option maxHeartbeats 4000000 in
set_option maxRecDepth 100000 in
theorem L_39V {p : Program} {l : Launch} {e : Env} {s : State} {m : MethodId} {args : Array Value} {below : List Frame} {meth : Method} {c : Code} {D : va_G} {cyI cyZ cyJ cyD : ClassId} {A : Nat → Prop} {b L : Nat} {xs : Nat → Int32} {Q : State → Prop} {cells slots : Nat} {h : Nat → Nat} {i x1 x2 x3 : Int32} {σ : zC} {μ : zM} {g : Nat → Int64} {d : Nat → UInt64} {σ2 : zC} {μ2 : zM} {r : UInt32} (hst : l.stackTraces = false) (LW : zLaw p s m args c D cyI cyZ cyJ cyD A b L xs) (hI : zArgs L xs i x1 x2 x3) (hc : cells + 1 ≤ 601024) (hs : slots + 6 ≤ 7293034) (Rl : Rel σ μ) (hok : okF r) (hM1 : ∀ sz : Nat, zMf l yX3_shareOf cX3_shareOf 3 9 152 D cyI cyZ sz [.ref (h 0), .int x1] (w_C cyI cyZ (h 0) (h 1) (h 2) (h 3) (h 4) (h 5) (h 6) (h 7) (h 8) (h 9) (h 10) (h 11) (h 12) (h 13) (h 14) (h 15) (h 16) σ) r (w_C cyI cyZ (h 0) (h 1) (h 2) (h 3) (h 4) (h 5) (h 6) (h 7) (h 8) (h 9) (h 10) (h 11) (h 12) (h 13) (h 14) (h 15) (h 16) σ2)) (hM2 : ∀ sz : Nat, zMf l yX4_shareOf cX4_shareOf 2 15 302 D cyI cyZ sz [.ref (h 17), .int x1] (w_M cyI cyZ (h 17) (h 18) (h 19) (h 20) (h 21) (h 22) (h 23) (h 24) (h 25) (h 26) (h 27) (h 28) μ) r (w_M cyI cyZ (h 17) (h 18) (h 19) (h 20) (h 21) (h 22) (h 23) (h 24) (h 25) (h 26) (h 27) (h 28) μ2)) (ht2 : s_X4_thrown μ2 = some 0) (hR2 : Rel σ2 μ2) (K : ∀ (σ2 : zC) (μ2 : zM) (g2 : Nat → Int64) (d2 : Nat → UInt64), Rel σ2 μ2 → zW p l e room_1 s m args below meth c D A 10 (cells + 1) (slots + 6) Q 2123 (zlv b h i) [] (w_L cyI cyZ cyJ cyD h σ2 μ2 g2 d2)) : zW p l e room_1 s m args below meth c D A 10 cells slots Q 2018 (zlv b h i) [] (w_L cyI cyZ cyJ cyD h σ μ g d) := by
  have G := LW.1
  refine zq_aload_n (q := 2019) G dL_law_2018 1 rfl rfl rfl ?_
  refine zq_arg (q := 2025) (v := 1) LW hI.1 0 5 dL_law_2019 dL_law_2020 dL_law_2022 dL_law_2023 dL_law_2024 rfl rfl rfl rfl ?_
  refine zq_aload (q := 2027) G dL_law_2025 4 rfl rfl ?_
  refine zq_callH (q := 2030) (isC := [0, 1, 2, 3, 4, 5, 6, 7, 8, 9, 10, 11, 12, 13, 14, 15, 16, 30]) (isR := [17, 18, 19, 20, 21, 22, 23, 24, 25, 26, 27, 28, 29]) (perm := [13, 14, 15, 16, 17, 18, 19, 20, 21, 22, 23, 24, 25, 26, 27, 28, 29, 0, 1, 2, 3, 4, 5, 6, 7, 8, 9, 10, 11, 12, 30]) (rest := []) (As := [.ref (h 0), .int x1, .ref (h 30)]) G LW.2.1 zs_L_250 dL_law_2027 (fun sz9 => h_shareOfV l D cyI cyZ cyJ cyD h (h 30) σ σ2 d x1 r hok hM1 sz9) rfl rfl rfl (Nat.le_of_ble_eq_true rfl) ⟨(Nat.le_of_ble_eq_true rfl), (Nat.le_of_ble_eq_true rfl), hc, hs⟩ rfl (fun W9 hW9 => ?_)
  obtain ⟨d2, hd2, rfl⟩ := hW9
  refine ⟨(w_L cyI cyZ cyJ cyD h σ2 μ g d2), ⟨rfl, rfl, rfl, rfl⟩, ?_⟩
  refine zq_istore (q := 2032) (lv2 := [(6, .int 0), (0, .ref b), (1, .ref (h 0)), (2, .ref (h 17)), (3, .ref (h 29)), (4, .ref (h 30)), (5, .int i)]) G dL_law_2030 (by decide) rfl rfl ?_
  refine zq_aload_n (q := 2033) G dL_law_2032 3 rfl rfl rfl ?_
  refine zq_arg (q := 2039) (v := 1) LW hI.1 1 6 dL_law_2033 dL_law_2034 dL_law_2036 dL_law_2037 dL_law_2038 rfl rfl rfl rfl ?_
  refine zq_callVf (q := 2042) (ws2 := (w_L cyI cyZ cyJ cyD h σ2 μ2 g d2)) (isC := [17, 18, 19, 20, 21, 22, 23, 24, 25, 26, 27, 28]) (isR := [0, 1, 2, 3, 4, 5, 6, 7, 8, 9, 10, 11, 12, 13, 14, 15, 16, 29, 30]) (perm := [0, 1, 2, 3, 4, 5, 6, 7, 8, 9, 10, 11, 12, 13, 14, 15, 16, 19, 20, 21, 22, 23, 24, 25, 26, 27, 28, 29, 30, 17, 18]) (rest := []) (As := [.int x1]) G zs_L_253 dL_law_2039 (fun sz9 => hM2 sz9) 17 rfl rfl rfl ⟨rfl, rfl, rfl, rfl⟩ rfl (Nat.le_of_ble_eq_true rfl) ⟨(Nat.le_of_ble_eq_true rfl), (Nat.le_of_ble_eq_true rfl), hc, hs⟩ rfl ?_
  refine zq_fstore (q := 2044) (lv2 := [(7, .float r), (6, .int 0), (0, .ref b), (1, .ref (h 0)), (2, .ref (h 17)), (3, .ref (h 29)), (4, .ref (h 30)), (5, .int i)]) G dL_law_2042 (by decide) rfl rfl ?_
  refine zq_aload_n (q := 2045) G dL_law_2044 4 rfl rfl rfl ?_
  refine zq_callVi (q := 2048) (ws2 := (w_L cyI cyZ cyJ cyD h σ2 μ2 g d2)) (isC := [17, 18, 19, 20, 21, 22, 23, 24, 25, 26, 27, 28]) (isR := [0, 1, 2, 3, 4, 5, 6, 7, 8, 9, 10, 11, 12, 13, 14, 15, 16, 29, 30]) (perm := [0, 1, 2, 3, 4, 5, 6, 7, 8, 9, 10, 11, 12, 13, 14, 15, 16, 19, 20, 21, 22, 23, 24, 25, 26, 27, 28, 29, 30, 17, 18]) (rest := []) (As := []) G zs_L_110 dL_law_2045 (fun sz9 => c_X4_thrown l D cyI cyZ (h 17) (h 18) (h 19) (h 20) (h 21) (h 22) (h 23) (h 24) (h 25) (h 26) (h 27) (h 28) μ2 0 ht2 sz9) 17 rfl rfl rfl ⟨rfl, rfl, rfl, rfl⟩ rfl (Nat.le_of_ble_eq_true rfl) ⟨(Nat.le_of_ble_eq_true rfl), (Nat.le_of_ble_eq_true rfl), hc, hs⟩ rfl ?_
  refine zq_iload (q := 2050) G dL_law_2048 1 rfl rfl ?_
  refine zq_icmp_eq (tgt := 2055) (q := 2053) G dL_law_2050 (by decide) rfl (fun _ => ?_) (fun c9 => absurd rfl c9)
  refine zq_iload (q := 2057) G dL_law_2055 1 rfl rfl ?_
  refine zq_if_ne (tgt := 2093) (q := 2060) G dL_law_2057 (by decide) rfl (fun c9 => absurd rfl c9) (fun _ => ?_)
  refine zq_aload (q := 2062) G dL_law_2060 6 rfl rfl ?_
  refine zq_iconst (q := 2063) (v := 0) G dL_law_2062 rfl rfl ?_
  refine zq_dald (q := 2064) G LW.2.1 dL_law_2063 30 rfl rfl rfl ?_
  refine zq_fload (q := 2066) G dL_law_2064 0 rfl rfl ?_
  refine zq_f2d (q := 2067) G dL_law_2066 hok.2.1 rfl ?_
  refine zq_dcmp (q := 2068) (v := 0) G dL_law_2067 (zeqD hok.2.2 hd2) rfl ?_
  refine zq_if_eq (tgt := 2093) (q := 2071) G dL_law_2068 (by decide) rfl (fun _ => ?_) (fun c9 => absurd rfl c9)
  exact zq_goto (q := 2123) G dL_law_2093 (by decide) (zq_sub (zlv b h i) [2, 3, 4, 5, 6, 7] rfl (K _ _ _ _ hR2))
