/-! ===== shareOf on both sides ===== -/
set_option maxHeartbeats 4000000 in
set_option maxRecDepth 100000 in
theorem c_X3_shareOfX (l : Launch) (hst : l.stackTraces = false) (D : va_G) (cyI cyZ : ClassId) (h0_0 h0_1 h0_2 h0_3 h0_4 h0_5 h0_6 h0_7 h0_8 h0_9 h0_10 h0_11 h0_12 h0_13 h0_14 h0_15 h0_16 : Nat) (σ0 : zC) (p0 : Int32) (E : String) (h : s_X3_requireRow σ0 p0 = some (.inl E)) (sz : Nat) : zXf l yX3_shareOf cX3_shareOf 3 9 152 D cyI cyZ sz [.ref h0_0, .int p0] (w_C cyI cyZ h0_0 h0_1 h0_2 h0_3 h0_4 h0_5 h0_6 h0_7 h0_8 h0_9 h0_10 h0_11 h0_12 h0_13 h0_14 h0_15 h0_16 σ0) (.inl E) (w_C cyI cyZ h0_0 h0_1 h0_2 h0_3 h0_4 h0_5 h0_6 h0_7 h0_8 h0_9 h0_10 h0_11 h0_12 h0_13 h0_14 h0_15 h0_16 σ0) := by
  refine zstartXF (lv0 := [(0, .ref h0_0), (1, .int p0)]) (by decide) (Nat.le_of_ble_eq_true rfl) rfl (fun p e s m args below meth c G hr hlocks ht => ?_)
  refine zq_aload_n (q := 1) G dX3_shareOf_0 0 rfl rfl rfl ?_
  refine zq_iload_n (q := 2) G dX3_shareOf_1 1 rfl rfl rfl ?_
  exact zq_outVv (ws2 := (w_C cyI cyZ h0_0 h0_1 h0_2 h0_3 h0_4 h0_5 h0_6 h0_7 h0_8 h0_9 h0_10 h0_11 h0_12 h0_13 h0_14 h0_15 h0_16 σ0)) (isC := [0, 1, 2, 3, 4, 5, 6, 7, 8, 9, 10, 11, 12, 13, 14, 15, 16]) (isR := []) (perm := [0, 1, 2, 3, 4, 5, 6, 7, 8, 9, 10, 11, 12, 13, 14, 15, 16]) (rest := []) (As := [.int p0]) G hlocks ht zs_X3_64 dX3_shareOf_2 (fun sz9 => c_X3_requireRow l hst D cyI cyZ h0_0 h0_1 h0_2 h0_3 h0_4 h0_5 h0_6 h0_7 h0_8 h0_9 h0_10 h0_11 h0_12 h0_13 h0_14 h0_15 h0_16 σ0 p0 (.inl E) h sz9) 0 rfl rfl rfl ⟨rfl, rfl, rfl, rfl⟩ rfl (Nat.le_of_ble_eq_true rfl) ⟨Nat.le_of_ble_eq_true rfl, Nat.le_of_ble_eq_true rfl⟩ rfl rfl rfl rfl
set_option maxHeartbeats 4000000 in
set_option maxRecDepth 100000 in
theorem c_X3_shareOf0 (l : Launch) (hst : l.stackTraces = false) (D : va_G) (cyI cyZ : ClassId) (h0_0 h0_1 h0_2 h0_3 h0_4 h0_5 h0_6 h0_7 h0_8 h0_9 h0_10 h0_11 h0_12 h0_13 h0_14 h0_15 h0_16 : Nat) (σ0 : zC) (p0 : Int32) (h : s_X3_requireRow σ0 p0 = some (.inr ())) (v : Int32) (σ2 : zC) (h2 : s_X3_minimum σ0 = some (v, σ2)) (hv : v = 0) (sz : Nat) : zMf l yX3_shareOf cX3_shareOf 3 9 152 D cyI cyZ sz [.ref h0_0, .int p0] (w_C cyI cyZ h0_0 h0_1 h0_2 h0_3 h0_4 h0_5 h0_6 h0_7 h0_8 h0_9 h0_10 h0_11 h0_12 h0_13 h0_14 h0_15 h0_16 σ0) FP.fconst0 (w_C cyI cyZ h0_0 h0_1 h0_2 h0_3 h0_4 h0_5 h0_6 h0_7 h0_8 h0_9 h0_10 h0_11 h0_12 h0_13 h0_14 h0_15 h0_16 σ2) := by
  refine zstartF (lv0 := [(0, .ref h0_0), (1, .int p0)]) (by decide) (Nat.le_of_ble_eq_true rfl) rfl (fun p e s m args below meth c G hr hlocks => ?_)
  refine zq_aload_n (q := 1) G dX3_shareOf_0 0 rfl rfl rfl ?_
  refine zq_iload_n (q := 2) G dX3_shareOf_1 1 rfl rfl rfl ?_
  refine zq_callVv (q := 5) (ws2 := (w_C cyI cyZ h0_0 h0_1 h0_2 h0_3 h0_4 h0_5 h0_6 h0_7 h0_8 h0_9 h0_10 h0_11 h0_12 h0_13 h0_14 h0_15 h0_16 σ0)) (isC := [0, 1, 2, 3, 4, 5, 6, 7, 8, 9, 10, 11, 12, 13, 14, 15, 16]) (isR := []) (perm := [0, 1, 2, 3, 4, 5, 6, 7, 8, 9, 10, 11, 12, 13, 14, 15, 16]) (rest := []) (As := [.int p0]) G zs_X3_64 dX3_shareOf_2 (fun sz9 => zXv_ret (c_X3_requireRow l hst D cyI cyZ h0_0 h0_1 h0_2 h0_3 h0_4 h0_5 h0_6 h0_7 h0_8 h0_9 h0_10 h0_11 h0_12 h0_13 h0_14 h0_15 h0_16 σ0 p0 (.inr ()) h sz9)) 0 rfl rfl rfl ⟨rfl, rfl, rfl, rfl⟩ rfl (Nat.le_of_ble_eq_true rfl) ⟨Nat.le_of_ble_eq_true rfl, Nat.le_of_ble_eq_true rfl, Nat.zero_le _, Nat.zero_le _⟩ rfl ?_
  refine zq_aload_n (q := 6) G dX3_shareOf_5 0 rfl rfl rfl ?_
  refine zq_callVi (q := 9) (ws2 := (w_C cyI cyZ h0_0 h0_1 h0_2 h0_3 h0_4 h0_5 h0_6 h0_7 h0_8 h0_9 h0_10 h0_11 h0_12 h0_13 h0_14 h0_15 h0_16 σ2)) (isC := [0, 1, 2, 3, 4, 5, 6, 7, 8, 9, 10, 11, 12, 13, 14, 15, 16]) (isR := []) (perm := [0, 1, 2, 3, 4, 5, 6, 7, 8, 9, 10, 11, 12, 13, 14, 15, 16]) (rest := []) (As := []) G zs_X3_209 dX3_shareOf_6 (fun sz9 => c_X3_minimum l D cyI cyZ h0_0 h0_1 h0_2 h0_3 h0_4 h0_5 h0_6 h0_7 h0_8 h0_9 h0_10 h0_11 h0_12 h0_13 h0_14 h0_15 h0_16 σ0 v σ2 h2 sz9) 0 rfl rfl rfl ⟨rfl, rfl, rfl, rfl⟩ rfl (Nat.le_of_ble_eq_true rfl) ⟨Nat.le_of_ble_eq_true rfl, Nat.le_of_ble_eq_true rfl, Nat.zero_le _, Nat.zero_le _⟩ rfl ?_
  refine zq_istore_n (q := 10) (lv2 := [(2, .int v), (0, .ref h0_0), (1, .int p0)]) G dX3_shareOf_9 rfl (by decide) rfl rfl ?_
  refine zq_iload_n (q := 11) G dX3_shareOf_10 0 rfl rfl rfl ?_
  refine zq_if_ne (tgt := 16) (q := 14) G dX3_shareOf_11 (by decide) rfl (fun c1 => absurd hv c1) (fun _ => ?_)
  refine zq_fconst0 (q := 15) G dX3_shareOf_14 rfl ?_
  exact zq_fret G hlocks hr dX3_shareOf_15 rfl
set_option maxHeartbeats 4000000 in
set_option maxRecDepth 100000 in
theorem c_X3_shareOf1 (l : Launch) (hst : l.stackTraces = false) (D : va_G) (cyI cyZ : ClassId) (h0_0 h0_1 h0_2 h0_3 h0_4 h0_5 h0_6 h0_7 h0_8 h0_9 h0_10 h0_11 h0_12 h0_13 h0_14 h0_15 h0_16 : Nat) (σ0 : zC) (p0 : Int32) (h : s_X3_requireRow σ0 p0 = some (.inr ())) (v : Int32) (σ2 : zC) (h2 : s_X3_minimum σ0 = some (v, σ2)) (hv : ¬ v = 0) (a : Int32) (σ3 : zC) (h3 : s_X3_assigned σ2 p0 = some (.inr a, σ3)) (ec : Int32) (h4 : s_X1_costOf σ3.1 p0 a = some ec) (et : σ3.1 = σ2.1) (hne : vf_n32 (FP.fdiv (FP.i2f ec) (FP.i2f v))) (sz : Nat) : zMf l yX3_shareOf cX3_shareOf 3 9 152 D cyI cyZ sz [.ref h0_0, .int p0] (w_C cyI cyZ h0_0 h0_1 h0_2 h0_3 h0_4 h0_5 h0_6 h0_7 h0_8 h0_9 h0_10 h0_11 h0_12 h0_13 h0_14 h0_15 h0_16 σ0) (FP.fdiv (FP.i2f ec) (FP.i2f v)) (w_C cyI cyZ h0_0 h0_1 h0_2 h0_3 h0_4 h0_5 h0_6 h0_7 h0_8 h0_9 h0_10 h0_11 h0_12 h0_13 h0_14 h0_15 h0_16 σ3) := by
  refine zstartF (lv0 := [(0, .ref h0_0), (1, .int p0)]) (by decide) (Nat.le_of_ble_eq_true rfl) rfl (fun p e s m args below meth c G hr hlocks => ?_)
  refine zq_aload_n (q := 1) G dX3_shareOf_0 0 rfl rfl rfl ?_
  refine zq_iload_n (q := 2) G dX3_shareOf_1 1 rfl rfl rfl ?_
  refine zq_callVv (q := 5) (ws2 := (w_C cyI cyZ h0_0 h0_1 h0_2 h0_3 h0_4 h0_5 h0_6 h0_7 h0_8 h0_9 h0_10 h0_11 h0_12 h0_13 h0_14 h0_15 h0_16 σ0)) (isC := [0, 1, 2, 3, 4, 5, 6, 7, 8, 9, 10, 11, 12, 13, 14, 15, 16]) (isR := []) (perm := [0, 1, 2, 3, 4, 5, 6, 7, 8, 9, 10, 11, 12, 13, 14, 15, 16]) (rest := []) (As := [.int p0]) G zs_X3_64 dX3_shareOf_2 (fun sz9 => zXv_ret (c_X3_requireRow l hst D cyI cyZ h0_0 h0_1 h0_2 h0_3 h0_4 h0_5 h0_6 h0_7 h0_8 h0_9 h0_10 h0_11 h0_12 h0_13 h0_14 h0_15 h0_16 σ0 p0 (.inr ()) h sz9)) 0 rfl rfl rfl ⟨rfl, rfl, rfl, rfl⟩ rfl (Nat.le_of_ble_eq_true rfl) ⟨Nat.le_of_ble_eq_true rfl, Nat.le_of_ble_eq_true rfl, Nat.zero_le _, Nat.zero_le _⟩ rfl ?_
  refine zq_aload_n (q := 6) G dX3_shareOf_5 0 rfl rfl rfl ?_
  refine zq_callVi (q := 9) (ws2 := (w_C cyI cyZ h0_0 h0_1 h0_2 h0_3 h0_4 h0_5 h0_6 h0_7 h0_8 h0_9 h0_10 h0_11 h0_12 h0_13 h0_14 h0_15 h0_16 σ2)) (isC := [0, 1, 2, 3, 4, 5, 6, 7, 8, 9, 10, 11, 12, 13, 14, 15, 16]) (isR := []) (perm := [0, 1, 2, 3, 4, 5, 6, 7, 8, 9, 10, 11, 12, 13, 14, 15, 16]) (rest := []) (As := []) G zs_X3_209 dX3_shareOf_6 (fun sz9 => c_X3_minimum l D cyI cyZ h0_0 h0_1 h0_2 h0_3 h0_4 h0_5 h0_6 h0_7 h0_8 h0_9 h0_10 h0_11 h0_12 h0_13 h0_14 h0_15 h0_16 σ0 v σ2 h2 sz9) 0 rfl rfl rfl ⟨rfl, rfl, rfl, rfl⟩ rfl (Nat.le_of_ble_eq_true rfl) ⟨Nat.le_of_ble_eq_true rfl, Nat.le_of_ble_eq_true rfl, Nat.zero_le _, Nat.zero_le _⟩ rfl ?_
  refine zq_istore_n (q := 10) (lv2 := [(2, .int v), (0, .ref h0_0), (1, .int p0)]) G dX3_shareOf_9 rfl (by decide) rfl rfl ?_
  refine zq_iload_n (q := 11) G dX3_shareOf_10 0 rfl rfl rfl ?_
  refine zq_if_ne (tgt := 16) (q := 14) G dX3_shareOf_11 (by decide) rfl (fun _ => ?_) (fun c1 => absurd c1 hv)
  refine zq_aload_n (q := 17) G dX3_shareOf_16 1 rfl rfl rfl ?_
  refine zq_get (q := 20) G zu_X3 rfl zw_X3_f12 dX3_shareOf_17 0 0 rfl (by decide) ⟨⟨rfl, rfl⟩, rfl⟩ rfl rfl ?_
  refine zq_iload_n (q := 21) G dX3_shareOf_20 2 rfl rfl rfl ?_
  refine zq_aload_n (q := 22) G dX3_shareOf_21 1 rfl rfl rfl ?_
  refine zq_iload_n (q := 23) G dX3_shareOf_22 2 rfl rfl rfl ?_
  refine zq_callVi (q := 26) (ws2 := (w_C cyI cyZ h0_0 h0_1 h0_2 h0_3 h0_4 h0_5 h0_6 h0_7 h0_8 h0_9 h0_10 h0_11 h0_12 h0_13 h0_14 h0_15 h0_16 σ3)) (isC := [0, 1, 2, 3, 4, 5, 6, 7, 8, 9, 10, 11, 12, 13, 14, 15, 16]) (isR := []) (perm := [0, 1, 2, 3, 4, 5, 6, 7, 8, 9, 10, 11, 12, 13, 14, 15, 16]) (rest := [.int p0, .ref h0_1]) (As := [.int p0]) G zs_X3_212 dX3_shareOf_23 (fun sz9 => zXi_ret (c_X3_assigned l hst D cyI cyZ h0_0 h0_1 h0_2 h0_3 h0_4 h0_5 h0_6 h0_7 h0_8 h0_9 h0_10 h0_11 h0_12 h0_13 h0_14 h0_15 h0_16 σ2 p0 (.inr a) σ3 h3 sz9)) 0 rfl rfl rfl ⟨rfl, rfl, rfl, rfl⟩ rfl (Nat.le_of_ble_eq_true rfl) ⟨Nat.le_of_ble_eq_true rfl, Nat.le_of_ble_eq_true rfl, Nat.zero_le _, Nat.zero_le _⟩ rfl ?_
  refine zq_callVi (q := 29) (ws2 := (w_C cyI cyZ h0_0 h0_1 h0_2 h0_3 h0_4 h0_5 h0_6 h0_7 h0_8 h0_9 h0_10 h0_11 h0_12 h0_13 h0_14 h0_15 h0_16 σ3)) (isC := [1, 2, 3]) (isR := [0, 4, 5, 6, 7, 8, 9, 10, 11, 12, 13, 14, 15, 16]) (perm := [0, 14, 15, 16, 1, 2, 3, 4, 5, 6, 7, 8, 9, 10, 11, 12, 13]) (rest := []) (As := [.int p0, .int a]) G zs_X3_97 dX3_shareOf_26 (fun sz9 => c_X1_costOf l D cyI cyZ h0_1 h0_2 h0_3 σ3.1 p0 a ec h4 sz9) 1 rfl rfl rfl ⟨rfl, rfl, rfl, rfl⟩ rfl (Nat.le_of_ble_eq_true rfl) ⟨Nat.le_of_ble_eq_true rfl, Nat.le_of_ble_eq_true rfl, Nat.zero_le _, Nat.zero_le _⟩ rfl ?_
  refine zq_i2f (q := 30) G dX3_shareOf_29 rfl ?_
  refine zq_iload_n (q := 31) G dX3_shareOf_30 0 rfl rfl rfl ?_
  refine zq_i2f (q := 32) G dX3_shareOf_31 rfl ?_
  refine zq_fdiv (q := 33) G dX3_shareOf_32 hne rfl ?_
  exact zq_fret G hlocks hr dX3_shareOf_33 rfl
set_option maxHeartbeats 4000000 in
set_option maxRecDepth 100000 in
theorem c_X4_shareOfX (l : Launch) (D : va_G) (cyI cyZ : ClassId) (h0_0 h0_1 h0_2 h0_3 h0_4 h0_5 h0_6 h0_7 h0_8 h0_9 h0_10 h0_11 : Nat) (σ0 : zM) (p0 : Int32) (h : s_X4_isRow σ0 p0 = some 0) (σ1 : zM) (h1 : s_X4_isWrong σ0 1 = some (1, σ1)) (sz : Nat) : zMf l yX4_shareOf cX4_shareOf 2 15 302 D cyI cyZ sz [.ref h0_0, .int p0] (w_M cyI cyZ h0_0 h0_1 h0_2 h0_3 h0_4 h0_5 h0_6 h0_7 h0_8 h0_9 h0_10 h0_11 σ0) FP.fconst0 (w_M cyI cyZ h0_0 h0_1 h0_2 h0_3 h0_4 h0_5 h0_6 h0_7 h0_8 h0_9 h0_10 h0_11 σ1) := by
  refine zstartF (lv0 := [(0, .ref h0_0), (1, .int p0)]) (by decide) (Nat.le_of_ble_eq_true rfl) rfl (fun p e s m args below meth c G hr hlocks => ?_)
  refine zq_aload_n (q := 1) G dX4_shareOf_0 0 rfl rfl rfl ?_
  refine zq_aload_n (q := 2) G dX4_shareOf_1 0 rfl rfl rfl ?_
  refine zq_iload_n (q := 3) G dX4_shareOf_2 1 rfl rfl rfl ?_
  refine zq_callVi (q := 6) (ws2 := (w_M cyI cyZ h0_0 h0_1 h0_2 h0_3 h0_4 h0_5 h0_6 h0_7 h0_8 h0_9 h0_10 h0_11 σ0)) (isC := [0, 1, 2, 3, 4, 5, 6, 7, 8, 9, 10, 11]) (isR := []) (perm := [0, 1, 2, 3, 4, 5, 6, 7, 8, 9, 10, 11]) (rest := [.ref h0_0]) (As := [.int p0]) G zs_X4_122 dX4_shareOf_3 (fun sz9 => c_X4_isRow l D cyI cyZ h0_0 h0_1 h0_2 h0_3 h0_4 h0_5 h0_6 h0_7 h0_8 h0_9 h0_10 h0_11 σ0 p0 0 h sz9) 0 rfl rfl rfl ⟨rfl, rfl, rfl, rfl⟩ rfl (Nat.le_of_ble_eq_true rfl) ⟨Nat.le_of_ble_eq_true rfl, Nat.le_of_ble_eq_true rfl, Nat.zero_le _, Nat.zero_le _⟩ rfl ?_
  refine zq_if_eq (tgt := 13) (q := 9) G dX4_shareOf_6 (by decide) rfl (fun _ => ?_) (fun c1 => absurd rfl c1)
  refine zq_iconst (q := 14) (v := 1) G dX4_shareOf_13 rfl rfl ?_
  refine zq_callVi (q := 17) (ws2 := (w_M cyI cyZ h0_0 h0_1 h0_2 h0_3 h0_4 h0_5 h0_6 h0_7 h0_8 h0_9 h0_10 h0_11 σ1)) (isC := [0, 1, 2, 3, 4, 5, 6, 7, 8, 9, 10, 11]) (isR := []) (perm := [0, 1, 2, 3, 4, 5, 6, 7, 8, 9, 10, 11]) (rest := []) (As := [.int 1]) G zs_X4_118 dX4_shareOf_14 (fun sz9 => c_X4_isWrong l D cyI cyZ h0_0 h0_1 h0_2 h0_3 h0_4 h0_5 h0_6 h0_7 h0_8 h0_9 h0_10 h0_11 σ0 1 1 σ1 h1 sz9) 0 rfl rfl rfl ⟨rfl, rfl, rfl, rfl⟩ rfl (Nat.le_of_ble_eq_true rfl) ⟨Nat.le_of_ble_eq_true rfl, Nat.le_of_ble_eq_true rfl, Nat.zero_le _, Nat.zero_le _⟩ rfl ?_
  refine zq_if_eq (tgt := 22) (q := 20) G dX4_shareOf_17 (by decide) rfl (fun c1 => absurd c1 (by decide)) (fun _ => ?_)
  refine zq_fconst0 (q := 21) G dX4_shareOf_20 rfl ?_
  exact zq_fret G hlocks hr dX4_shareOf_21 rfl
set_option maxHeartbeats 4000000 in
set_option maxRecDepth 100000 in
theorem c_X4_shareOf0 (l : Launch) (D : va_G) (cyI cyZ : ClassId) (h0_0 h0_1 h0_2 h0_3 h0_4 h0_5 h0_6 h0_7 h0_8 h0_9 h0_10 h0_11 : Nat) (σ0 : zM) (p0 : Int32) (h : s_X4_isRow σ0 p0 = some 1) (σ1 : zM) (h1 : s_X4_isWrong σ0 0 = some (0, σ1)) (σ2 : zM) (h2 : s_X4_look_ σ1 = some σ2) (hv : σ2.2.2.1.2.2.2.2.1 = 0) (sz : Nat) : zMf l yX4_shareOf cX4_shareOf 2 15 302 D cyI cyZ sz [.ref h0_0, .int p0] (w_M cyI cyZ h0_0 h0_1 h0_2 h0_3 h0_4 h0_5 h0_6 h0_7 h0_8 h0_9 h0_10 h0_11 σ0) FP.fconst0 (w_M cyI cyZ h0_0 h0_1 h0_2 h0_3 h0_4 h0_5 h0_6 h0_7 h0_8 h0_9 h0_10 h0_11 σ2) := by
  refine zstartF (lv0 := [(0, .ref h0_0), (1, .int p0)]) (by decide) (Nat.le_of_ble_eq_true rfl) rfl (fun p e s m args below meth c G hr hlocks => ?_)
  refine zq_aload_n (q := 1) G dX4_shareOf_0 0 rfl rfl rfl ?_
  refine zq_aload_n (q := 2) G dX4_shareOf_1 0 rfl rfl rfl ?_
  refine zq_iload_n (q := 3) G dX4_shareOf_2 1 rfl rfl rfl ?_
  refine zq_callVi (q := 6) (ws2 := (w_M cyI cyZ h0_0 h0_1 h0_2 h0_3 h0_4 h0_5 h0_6 h0_7 h0_8 h0_9 h0_10 h0_11 σ0)) (isC := [0, 1, 2, 3, 4, 5, 6, 7, 8, 9, 10, 11]) (isR := []) (perm := [0, 1, 2, 3, 4, 5, 6, 7, 8, 9, 10, 11]) (rest := [.ref h0_0]) (As := [.int p0]) G zs_X4_122 dX4_shareOf_3 (fun sz9 => c_X4_isRow l D cyI cyZ h0_0 h0_1 h0_2 h0_3 h0_4 h0_5 h0_6 h0_7 h0_8 h0_9 h0_10 h0_11 σ0 p0 1 h sz9) 0 rfl rfl rfl ⟨rfl, rfl, rfl, rfl⟩ rfl (Nat.le_of_ble_eq_true rfl) ⟨Nat.le_of_ble_eq_true rfl, Nat.le_of_ble_eq_true rfl, Nat.zero_le _, Nat.zero_le _⟩ rfl ?_
  refine zq_if_eq (tgt := 13) (q := 9) G dX4_shareOf_6 (by decide) rfl (fun c1 => absurd c1 (by decide)) (fun _ => ?_)
  refine zq_iconst (q := 10) (v := 0) G dX4_shareOf_9 rfl rfl ?_
  refine zq_goto (q := 14) G dX4_shareOf_10 (by decide) ?_
  refine zq_callVi (q := 17) (ws2 := (w_M cyI cyZ h0_0 h0_1 h0_2 h0_3 h0_4 h0_5 h0_6 h0_7 h0_8 h0_9 h0_10 h0_11 σ1)) (isC := [0, 1, 2, 3, 4, 5, 6, 7, 8, 9, 10, 11]) (isR := []) (perm := [0, 1, 2, 3, 4, 5, 6, 7, 8, 9, 10, 11]) (rest := []) (As := [.int 0]) G zs_X4_118 dX4_shareOf_14 (fun sz9 => c_X4_isWrong l D cyI cyZ h0_0 h0_1 h0_2 h0_3 h0_4 h0_5 h0_6 h0_7 h0_8 h0_9 h0_10 h0_11 σ0 0 0 σ1 h1 sz9) 0 rfl rfl rfl ⟨rfl, rfl, rfl, rfl⟩ rfl (Nat.le_of_ble_eq_true rfl) ⟨Nat.le_of_ble_eq_true rfl, Nat.le_of_ble_eq_true rfl, Nat.zero_le _, Nat.zero_le _⟩ rfl ?_
  refine zq_if_eq (tgt := 22) (q := 20) G dX4_shareOf_17 (by decide) rfl (fun _ => ?_) (fun c1 => absurd rfl c1)
  refine zq_aload_n (q := 23) G dX4_shareOf_22 0 rfl rfl rfl ?_
  refine zq_callVv (q := 26) (ws2 := (w_M cyI cyZ h0_0 h0_1 h0_2 h0_3 h0_4 h0_5 h0_6 h0_7 h0_8 h0_9 h0_10 h0_11 σ2)) (isC := [0, 1, 2, 3, 4, 5, 6, 7, 8, 9, 10, 11]) (isR := []) (perm := [0, 1, 2, 3, 4, 5, 6, 7, 8, 9, 10, 11]) (rest := []) (As := []) G zs_X4_114 dX4_shareOf_23 (fun sz9 => c_X4_look_ l D cyI cyZ h0_0 h0_1 h0_2 h0_3 h0_4 h0_5 h0_6 h0_7 h0_8 h0_9 h0_10 h0_11 σ1 σ2 h2 sz9) 0 rfl rfl rfl ⟨rfl, rfl, rfl, rfl⟩ rfl (Nat.le_of_ble_eq_true rfl) ⟨Nat.le_of_ble_eq_true rfl, Nat.le_of_ble_eq_true rfl, Nat.zero_le _, Nat.zero_le _⟩ rfl ?_
  refine zq_aload_n (q := 27) G dX4_shareOf_26 0 rfl rfl rfl ?_
  refine zq_get (q := 30) G zu_X4 rfl zw_X4_f80 dX4_shareOf_27 0 13 rfl (by decide) ⟨⟨rfl, rfl⟩, rfl⟩ rfl rfl ?_
  refine zq_if_ne (tgt := 37) (q := 33) G dX4_shareOf_30 (by decide) rfl (fun c1 => absurd hv c1) (fun _ => ?_)
  refine zq_fconst0 (q := 34) G dX4_shareOf_33 rfl ?_
  refine zq_goto (q := 60) G dX4_shareOf_34 (by decide) ?_
  exact zq_fret G hlocks hr dX4_shareOf_60 rfl
set_option maxHeartbeats 4000000 in
set_option maxRecDepth 100000 in
theorem c_X4_shareOf1 (l : Launch) (D : va_G) (cyI cyZ : ClassId) (h0_0 h0_1 h0_2 h0_3 h0_4 h0_5 h0_6 h0_7 h0_8 h0_9 h0_10 h0_11 : Nat) (σ0 : zM) (p0 : Int32) (h : s_X4_isRow σ0 p0 = some 1) (σ1 : zM) (h1 : s_X4_isWrong σ0 0 = some (0, σ1)) (σ2 : zM) (h2 : s_X4_look_ σ1 = some σ2) (hv : ¬ σ2.2.2.1.2.2.2.2.1 = 0) (q3 : ib p0 7 = true) (q4 : ib (7 * p0 + σ2.2.2.1.2.2.2.1 p0.toNatClampNeg) 49 = true) (hne : vf_n32 (FP.fdiv (FP.i2f (σ2.2.2.1.1 (7 * p0 + σ2.2.2.1.2.2.2.1 p0.toNatClampNeg).toNatClampNeg)) (FP.i2f (σ2.2.2.1.2.2.2.2.1)))) (sz : Nat) : zMf l yX4_shareOf cX4_shareOf 2 15 302 D cyI cyZ sz [.ref h0_0, .int p0] (w_M cyI cyZ h0_0 h0_1 h0_2 h0_3 h0_4 h0_5 h0_6 h0_7 h0_8 h0_9 h0_10 h0_11 σ0) (FP.fdiv (FP.i2f (σ2.2.2.1.1 (7 * p0 + σ2.2.2.1.2.2.2.1 p0.toNatClampNeg).toNatClampNeg)) (FP.i2f (σ2.2.2.1.2.2.2.2.1))) (w_M cyI cyZ h0_0 h0_1 h0_2 h0_3 h0_4 h0_5 h0_6 h0_7 h0_8 h0_9 h0_10 h0_11 σ2) := by
  refine zstartF (lv0 := [(0, .ref h0_0), (1, .int p0)]) (by decide) (Nat.le_of_ble_eq_true rfl) rfl (fun p e s m args below meth c G hr hlocks => ?_)
  refine zq_aload_n (q := 1) G dX4_shareOf_0 0 rfl rfl rfl ?_
  refine zq_aload_n (q := 2) G dX4_shareOf_1 0 rfl rfl rfl ?_
  refine zq_iload_n (q := 3) G dX4_shareOf_2 1 rfl rfl rfl ?_
  refine zq_callVi (q := 6) (ws2 := (w_M cyI cyZ h0_0 h0_1 h0_2 h0_3 h0_4 h0_5 h0_6 h0_7 h0_8 h0_9 h0_10 h0_11 σ0)) (isC := [0, 1, 2, 3, 4, 5, 6, 7, 8, 9, 10, 11]) (isR := []) (perm := [0, 1, 2, 3, 4, 5, 6, 7, 8, 9, 10, 11]) (rest := [.ref h0_0]) (As := [.int p0]) G zs_X4_122 dX4_shareOf_3 (fun sz9 => c_X4_isRow l D cyI cyZ h0_0 h0_1 h0_2 h0_3 h0_4 h0_5 h0_6 h0_7 h0_8 h0_9 h0_10 h0_11 σ0 p0 1 h sz9) 0 rfl rfl rfl ⟨rfl, rfl, rfl, rfl⟩ rfl (Nat.le_of_ble_eq_true rfl) ⟨Nat.le_of_ble_eq_true rfl, Nat.le_of_ble_eq_true rfl, Nat.zero_le _, Nat.zero_le _⟩ rfl ?_
  refine zq_if_eq (tgt := 13) (q := 9) G dX4_shareOf_6 (by decide) rfl (fun c1 => absurd c1 (by decide)) (fun _ => ?_)
  refine zq_iconst (q := 10) (v := 0) G dX4_shareOf_9 rfl rfl ?_
  refine zq_goto (q := 14) G dX4_shareOf_10 (by decide) ?_
  refine zq_callVi (q := 17) (ws2 := (w_M cyI cyZ h0_0 h0_1 h0_2 h0_3 h0_4 h0_5 h0_6 h0_7 h0_8 h0_9 h0_10 h0_11 σ1)) (isC := [0, 1, 2, 3, 4, 5, 6, 7, 8, 9, 10, 11]) (isR := []) (perm := [0, 1, 2, 3, 4, 5, 6, 7, 8, 9, 10, 11]) (rest := []) (As := [.int 0]) G zs_X4_118 dX4_shareOf_14 (fun sz9 => c_X4_isWrong l D cyI cyZ h0_0 h0_1 h0_2 h0_3 h0_4 h0_5 h0_6 h0_7 h0_8 h0_9 h0_10 h0_11 σ0 0 0 σ1 h1 sz9) 0 rfl rfl rfl ⟨rfl, rfl, rfl, rfl⟩ rfl (Nat.le_of_ble_eq_true rfl) ⟨Nat.le_of_ble_eq_true rfl, Nat.le_of_ble_eq_true rfl, Nat.zero_le _, Nat.zero_le _⟩ rfl ?_
  refine zq_if_eq (tgt := 22) (q := 20) G dX4_shareOf_17 (by decide) rfl (fun _ => ?_) (fun c1 => absurd rfl c1)
  refine zq_aload_n (q := 23) G dX4_shareOf_22 0 rfl rfl rfl ?_
  refine zq_callVv (q := 26) (ws2 := (w_M cyI cyZ h0_0 h0_1 h0_2 h0_3 h0_4 h0_5 h0_6 h0_7 h0_8 h0_9 h0_10 h0_11 σ2)) (isC := [0, 1, 2, 3, 4, 5, 6, 7, 8, 9, 10, 11]) (isR := []) (perm := [0, 1, 2, 3, 4, 5, 6, 7, 8, 9, 10, 11]) (rest := []) (As := []) G zs_X4_114 dX4_shareOf_23 (fun sz9 => c_X4_look_ l D cyI cyZ h0_0 h0_1 h0_2 h0_3 h0_4 h0_5 h0_6 h0_7 h0_8 h0_9 h0_10 h0_11 σ1 σ2 h2 sz9) 0 rfl rfl rfl ⟨rfl, rfl, rfl, rfl⟩ rfl (Nat.le_of_ble_eq_true rfl) ⟨Nat.le_of_ble_eq_true rfl, Nat.le_of_ble_eq_true rfl, Nat.zero_le _, Nat.zero_le _⟩ rfl ?_
  refine zq_aload_n (q := 27) G dX4_shareOf_26 0 rfl rfl rfl ?_
  refine zq_get (q := 30) G zu_X4 rfl zw_X4_f80 dX4_shareOf_27 0 13 rfl (by decide) ⟨⟨rfl, rfl⟩, rfl⟩ rfl rfl ?_
  refine zq_if_ne (tgt := 37) (q := 33) G dX4_shareOf_30 (by decide) rfl (fun _ => ?_) (fun c1 => absurd c1 hv)
  refine zq_aload_n (q := 38) G dX4_shareOf_37 0 rfl rfl rfl ?_
  refine zq_get (q := 41) G zu_X4 rfl zw_X4_f36 dX4_shareOf_38 0 9 rfl (by decide) ⟨⟨rfl, rfl⟩, rfl⟩ rfl rfl ?_
  refine zq_bipush (q := 43) (v := 7) G dX4_shareOf_41 rfl rfl ?_
  refine zq_iload_n (q := 44) G dX4_shareOf_43 1 rfl rfl rfl ?_
  refine zq_imul (q := 45) G dX4_shareOf_44 rfl ?_
  refine zq_aload_n (q := 46) G dX4_shareOf_45 0 rfl rfl rfl ?_
  refine zq_get (q := 49) G zu_X4 rfl zw_X4_f45 dX4_shareOf_46 0 12 rfl (by decide) ⟨⟨rfl, rfl⟩, rfl⟩ rfl rfl ?_
  refine zq_iload_n (q := 50) G dX4_shareOf_49 1 rfl rfl rfl ?_
  refine zq_iald (q := 51) G dX4_shareOf_50 8 rfl q3 rfl ?_
  refine zq_iadd (q := 52) G dX4_shareOf_51 rfl ?_
  refine zq_iald (q := 53) G dX4_shareOf_52 5 rfl q4 rfl ?_
  refine zq_i2f (q := 54) G dX4_shareOf_53 rfl ?_
  refine zq_aload_n (q := 55) G dX4_shareOf_54 0 rfl rfl rfl ?_
  refine zq_get (q := 58) G zu_X4 rfl zw_X4_f80 dX4_shareOf_55 0 13 rfl (by decide) ⟨⟨rfl, rfl⟩, rfl⟩ rfl rfl ?_
  refine zq_i2f (q := 59) G dX4_shareOf_58 rfl ?_
  refine zq_fdiv (q := 60) G dX4_shareOf_59 hne rfl ?_
  exact zq_fret G hlocks hr dX4_shareOf_60 rfl
