/-! ===== meanCost on both sides ===== -/
set_option maxHeartbeats 4000000 in
set_option maxRecDepth 100000 in
theorem c_X3_meanCost (l : Launch) (D : va_G) (cyI cyZ : ClassId) (h0_0 h0_1 h0_2 h0_3 h0_4 h0_5 h0_6 h0_7 h0_8 h0_9 h0_10 h0_11 h0_12 h0_13 h0_14 h0_15 h0_16 : Nat) (σ0 : zC) (v : Int32) (h : s_X3_totalCost σ0 = some v) (hne : vf_n64 (FP.ddiv (FP.i2d v) (FP.i2d (σ0.1.1 * σ0.1.1)))) (sz : Nat) : zMd l yX3_meanCost cX3_meanCost 1 5 110 D cyI cyZ sz [.ref h0_0] (w_C cyI cyZ h0_0 h0_1 h0_2 h0_3 h0_4 h0_5 h0_6 h0_7 h0_8 h0_9 h0_10 h0_11 h0_12 h0_13 h0_14 h0_15 h0_16 σ0) (FP.ddiv (FP.i2d v) (FP.i2d (σ0.1.1 * σ0.1.1))) (w_C cyI cyZ h0_0 h0_1 h0_2 h0_3 h0_4 h0_5 h0_6 h0_7 h0_8 h0_9 h0_10 h0_11 h0_12 h0_13 h0_14 h0_15 h0_16 σ0) := by
  refine zstartD (lv0 := [(0, .ref h0_0)]) (by decide) (Nat.le_of_ble_eq_true rfl) rfl (fun p e s m args below meth c G hr hlocks => ?_)
  refine zq_aload_n (q := 1) G dX3_meanCost_0 0 rfl rfl rfl ?_
  refine zq_callVi (q := 4) (ws2 := (w_C cyI cyZ h0_0 h0_1 h0_2 h0_3 h0_4 h0_5 h0_6 h0_7 h0_8 h0_9 h0_10 h0_11 h0_12 h0_13 h0_14 h0_15 h0_16 σ0)) (isC := [0, 1, 2, 3, 4, 5, 6, 7, 8, 9, 10, 11, 12, 13, 14, 15, 16]) (isR := []) (perm := [0, 1, 2, 3, 4, 5, 6, 7, 8, 9, 10, 11, 12, 13, 14, 15, 16]) (rest := []) (As := []) G zs_X3_127 dX3_meanCost_1 (fun sz9 => c_X3_totalCost l D cyI cyZ h0_0 h0_1 h0_2 h0_3 h0_4 h0_5 h0_6 h0_7 h0_8 h0_9 h0_10 h0_11 h0_12 h0_13 h0_14 h0_15 h0_16 σ0 v h sz9) 0 rfl rfl rfl ⟨rfl, rfl, rfl, rfl⟩ rfl (Nat.le_of_ble_eq_true rfl) ⟨Nat.le_of_ble_eq_true rfl, Nat.le_of_ble_eq_true rfl, Nat.zero_le _, Nat.zero_le _⟩ rfl ?_
  refine zq_i2d (q := 5) G dX3_meanCost_4 rfl ?_
  refine zq_aload_n (q := 6) G dX3_meanCost_5 0 rfl rfl rfl ?_
  refine zq_get (q := 9) G zu_X3 rfl zw_X3_f12 dX3_meanCost_6 0 0 rfl (by decide) ⟨⟨rfl, rfl⟩, rfl⟩ rfl rfl ?_
  refine zq_getN (q := 12) G zu_X1 rfl zw_X3_f83 dX3_meanCost_9 1 0 rfl (by decide) ⟨⟨rfl, rfl⟩, rfl⟩ rfl rfl ?_
  refine zq_aload_n (q := 13) G dX3_meanCost_12 0 rfl rfl rfl ?_
  refine zq_get (q := 16) G zu_X3 rfl zw_X3_f12 dX3_meanCost_13 0 0 rfl (by decide) ⟨⟨rfl, rfl⟩, rfl⟩ rfl rfl ?_
  refine zq_getN (q := 19) G zu_X1 rfl zw_X3_f83 dX3_meanCost_16 1 0 rfl (by decide) ⟨⟨rfl, rfl⟩, rfl⟩ rfl rfl ?_
  refine zq_imul (q := 20) G dX3_meanCost_19 rfl ?_
  refine zq_i2d (q := 21) G dX3_meanCost_20 rfl ?_
  refine zq_ddiv (q := 22) G dX3_meanCost_21 hne rfl ?_
  exact zq_dret G hlocks hr dX3_meanCost_22 rfl
set_option maxHeartbeats 4000000 in
set_option maxRecDepth 100000 in
theorem c_X4_meanCost (l : Launch) (D : va_G) (cyI cyZ : ClassId) (h0_0 h0_1 h0_2 h0_3 h0_4 h0_5 h0_6 h0_7 h0_8 h0_9 h0_10 h0_11 : Nat) (σ0 : zM) (v : Int32) (h : s_X4_total σ0 = some v) (hne : vf_n64 (FP.ddiv (FP.i2d v) (FP.i2d (σ0.1.1 * σ0.1.1)))) (sz : Nat) : zMd l yX4_meanCost cX4_meanCost 1 3 67 D cyI cyZ sz [.ref h0_0] (w_M cyI cyZ h0_0 h0_1 h0_2 h0_3 h0_4 h0_5 h0_6 h0_7 h0_8 h0_9 h0_10 h0_11 σ0) (FP.ddiv (FP.i2d v) (FP.i2d (σ0.1.1 * σ0.1.1))) (w_M cyI cyZ h0_0 h0_1 h0_2 h0_3 h0_4 h0_5 h0_6 h0_7 h0_8 h0_9 h0_10 h0_11 σ0) := by
  refine zstartD (lv0 := [(0, .ref h0_0)]) (by decide) (Nat.le_of_ble_eq_true rfl) rfl (fun p e s m args below meth c G hr hlocks => ?_)
  refine zq_aload_n (q := 1) G dX4_meanCost_0 0 rfl rfl rfl ?_
  refine zq_callVi (q := 4) (ws2 := (w_M cyI cyZ h0_0 h0_1 h0_2 h0_3 h0_4 h0_5 h0_6 h0_7 h0_8 h0_9 h0_10 h0_11 σ0)) (isC := [0, 1, 2, 3, 4, 5, 6, 7, 8, 9, 10, 11]) (isR := []) (perm := [0, 1, 2, 3, 4, 5, 6, 7, 8, 9, 10, 11]) (rest := []) (As := []) G zs_X4_153 dX4_meanCost_1 (fun sz9 => c_X4_total l D cyI cyZ h0_0 h0_1 h0_2 h0_3 h0_4 h0_5 h0_6 h0_7 h0_8 h0_9 h0_10 h0_11 σ0 v h sz9) 0 rfl rfl rfl ⟨rfl, rfl, rfl, rfl⟩ rfl (Nat.le_of_ble_eq_true rfl) ⟨Nat.le_of_ble_eq_true rfl, Nat.le_of_ble_eq_true rfl, Nat.zero_le _, Nat.zero_le _⟩ rfl ?_
  refine zq_i2d (q := 5) G dX4_meanCost_4 rfl ?_
  refine zq_aload_n (q := 6) G dX4_meanCost_5 0 rfl rfl rfl ?_
  refine zq_get (q := 9) G zu_X4 rfl zw_X4_f7 dX4_meanCost_6 0 0 rfl (by decide) ⟨⟨rfl, rfl⟩, rfl⟩ rfl rfl ?_
  refine zq_aload_n (q := 10) G dX4_meanCost_9 0 rfl rfl rfl ?_
  refine zq_get (q := 13) G zu_X4 rfl zw_X4_f7 dX4_meanCost_10 0 0 rfl (by decide) ⟨⟨rfl, rfl⟩, rfl⟩ rfl rfl ?_
  refine zq_imul (q := 14) G dX4_meanCost_13 rfl ?_
  refine zq_i2d (q := 15) G dX4_meanCost_14 rfl ?_
  refine zq_ddiv (q := 16) G dX4_meanCost_15 hne rfl ?_
  exact zq_dret G hlocks hr dX4_meanCost_16 rfl
